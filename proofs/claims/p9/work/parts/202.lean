noncomputable def wf_c_J0_indexOf_7cf53_4 : List Cond := .code yJ0_indexOf_7cf53 cJ0_indexOf_7cf53 3 (some .int) :: ([.methodLink RJ0 492 yJ0_isLatin1_aae02, .instanceMethod yJ0_isLatin1_aae02, .selects RJ0 yJ0_isLatin1_aae02 yJ0_isLatin1_aae02, .initialized RJ0, .code yJ0_isLatin1_aae02 cJ0_isLatin1_aae02 1 (some .boolean), .fieldLink RJ0 38 "java/lang/String" "COMPACT_STRINGS" "Z", .fieldLink RJ0 15 "java/lang/String" "coder" "B", .fieldLink RJ0 9 "java/lang/String" "value" "[B", .methodLink RJ0 505 yJ0_length_8abf5, .instanceMethod yJ0_length_8abf5, .selects RJ0 yJ0_length_8abf5 yJ0_length_8abf5, .code yJ0_length_8abf5 cJ0_length_8abf5 1 (some .int), .methodLink RJ0 335 yJ0_coder_7d493, .instanceMethod yJ0_coder_7d493, .selects RJ0 yJ0_coder_7d493 yJ0_coder_7d493, .code yJ0_coder_7d493 cJ0_coder_7d493 1 (some .byte), .methodLink RJ0 637 yJ1_indexOf_4cfef, .static yJ1_indexOf_4cfef, .initialized RJ1, .code yJ1_indexOf_4cfef cJ1_indexOf_4cfef 4 (some .int), .methodLink RJ1 88 yJ1_canEncode_9a6ad, .static yJ1_canEncode_9a6ad, .code yJ1_canEncode_9a6ad cJ1_canEncode_9a6ad 1 (some .boolean), .methodLink RJ1 92 Lib.Math.max.name, .static Lib.Math.max.name, .initialized "java/lang/Math", .code Lib.Math.max.name Lib.Math.max.code 2 (some .int), .methodLink RJ1 38 Lib.Math.min.name, .static Lib.Math.min.name, .code Lib.Math.min.name Lib.Math.min.code 2 (some .int), .methodLink RJ1 95 yJ1_indexOfChar_4cfef, .static yJ1_indexOfChar_4cfef, .code yJ1_indexOfChar_4cfef cJ1_indexOfChar_4cfef 6 (some .int)])
set_option maxRecDepth 20000 in
theorem gf_c_J0_indexOf_7cf53_4_c_J0_isLatin1_aae02_4 : GoodIn wf_c_J0_indexOf_7cf53_4 (wsV RJ0 492 RJ0 yJ0_isLatin1_aae02 wf_c_J0_isLatin1_aae02_4) := goodIn_app (gi_l [1, 2, 3, 4] rfl rfl) (gi_cons (j := 5) rfl rfl (gi_l [6, 7] rfl rfl))
set_option maxRecDepth 20000 in
theorem gf_c_J0_indexOf_7cf53_4_c_J0_length_8abf5_4 : GoodIn wf_c_J0_indexOf_7cf53_4 (wsV RJ0 505 RJ0 yJ0_length_8abf5 wf_c_J0_length_8abf5_4) := goodIn_app (gi_l [9, 10, 11, 4] rfl rfl) (gi_cons (j := 12) rfl rfl (gi_l [8, 13, 14, 15, 4, 16, 6, 7] rfl rfl))
set_option maxRecDepth 20000 in
theorem gf_c_J0_indexOf_7cf53_4_c_J1_indexOf_4cfef_4 : GoodIn wf_c_J0_indexOf_7cf53_4 (va_wsS RJ0 637 yJ1_indexOf_4cfef wf_c_J1_indexOf_4cfef_4) := goodIn_app (gi_l [17, 18, 19] rfl rfl) (gi_cons (j := 20) rfl rfl (gi_l [21, 22, 19, 23, 24, 25, 26, 27, 28, 29, 30, 31, 32, 33] rfl rfl))
set_option maxHeartbeats 4000000 in
set_option maxRecDepth 100000 in
theorem c_J0_indexOf_7cf53_4 (l : Launch) (dC : Nat → ClassId) (dI : Nat → Nat → Nat) (sz : Nat) (ts4 : Nat) (p1 : Int32) (tv4 : Nat) (g_p1 : RG p1 0 65535) : Met l yJ0_indexOf_7cf53 wf_c_J0_indexOf_7cf53_4 ({ frames := 2, cells := 0, slots := 0, locals := 48 }) (va_Pc [.ref ts4, .int p1, .int 0] (fun U => U.heap.size = sz ∧ va_P (dC, dI) vwCl [] U.heap ∧ va_K (dC, dI) vwCl [] U ∧ va_D (fun _ => True) [] ∧ va_Z "java/lang/String" "COMPACT_STRINGS" "Z" (.int 1) (va_A [] sz) U U.heap ∧ va_OF "java/lang/String" "coder" "B" (.int 0) ts4 (va_A [] sz) U U.heap ∧ va_O "java/lang/String" ts4 (va_A [] sz) U U.heap ∧ va_OF "java/lang/String" "value" "[B" (.ref tv4) ts4 (va_A [] sz) U U.heap ∧ va_T .byte tv4 6 (fun j => .int ([118, 108, 114, 100, 112, 104].getD j 0)) (va_A [] sz) U U.heap)) (va_Qi (fun (r : Int32) (u : Unit) => (r = (-1) ∧ r = fx_c_J0_indexOf_7cf53_4 p1) ∨ (RG r 0 5 ∧ RG p1 0 255 ∧ r = fx_c_J0_indexOf_7cf53_4 p1)) (fun (u : Unit) t => va_P (dC, dI) vwCl [] t.heap ∧ va_K (dC, dI) vwCl [] t ∧ va_D (va_A [] sz) []) (va_A [] sz)) 0 0 (va_A [] sz) := by
  refine Met.ofW (cc := cJ0_indexOf_7cf53) (maxL := 3) (ret := (some .int)) (by decide +kernel) rfl ?_
  intro p e s m args below meth c s₁ B hml hv
  obtain ⟨rfl, hsz, hP, hK, hD0, hE_10, hE_34, hE_33, hE_35, hE_36⟩ := hv
  have hx := B.exec
  have hb := B.bytes
  have hr := B.returns
  have hts := atoms_spec (ws := wf_c_J0_indexOf_7cf53_4) B.pre
  have hown : s.vm.findClass RJ0 = some m.cls := findClass_of_methodNamed B.named
  have hlocks := B.notSynchronized
  subst hsz
  have hD := hD0.self (sz := s.heap.size)
  generalize hAe : va_A [] s.heap.size = A at hD hE_10 hE_34 hE_33 hE_35 hE_36 ⊢
  have hA : ∀ q : Nat, s.heap.size ≤ q → A q := fun q h => by rw [← hAe]; exact Or.inr h
  have hP : va_P (dC, dI) vwCl [] s.heap := hP
  have hl := lv_entry ([.ref ts4, .int p1, .int 0]) (n := 3) (Nat.le_of_ble_eq_true rfl)
  rw [lg_entry_eq]
  generalize (lg_sl ([.ref ts4, .int p1, .int 0]) ++ List.replicate (3 - (lg_sl ([.ref ts4, .int p1, .int 0])).length) Slot.unset).toArray = ls at hl ⊢
  have hl : lv_has ls 3 [(0, .ref ts4), (1, .int p1), (2, .int 0)] := hl
  obtain ⟨H, hHe⟩ : ∃ H : Heap, s.heap = H := ⟨_, rfl⟩
  have hS : va_S A s.heap H [] := by rw [hHe]; exact va_S.rf
  have hP : va_P (dC, dI) vwCl [] H := by rw [← hHe]; exact hP
  rw [hHe]
  obtain ⟨RES, hR⟩ : ∃ z, fx_c_J0_indexOf_7cf53_4 p1 = z := ⟨_, rfl⟩
  have hEX : RES = fx_c_J0_indexOf_7cf53_4 p1 := hR.symm
  refine lv_aload_n hx hb dJ0_indexOf_7cf53_0 rfl (lv_at hl 0 rfl) ?_
  as_aux_lemma =>
  obtain ⟨hPc, hDc, hFc, hqc⟩ := cl_cut (wc := []) hP hD hS hA [] (by decide +kernel) rfl
  have hKc := hK.sub (tys' := []) [] rfl
  have hrv := bv_Orecv hE_33 hS
  refine va_calli (va_runV (As := []) (rest := []) ⟨hx, hb, hml, hown, hts⟩ (c_J0_isLatin1_aae02_4 l dC dI H.size ts4) (cwV 0 hts gf_c_J0_indexOf_7cf53_4_c_J0_isLatin1_aae02_4 rfl rfl rfl mdV_J0_isLatin1_aae02 ⟨Nat.le_of_ble_eq_true rfl, Nat.le_of_ble_eq_true rfl⟩) ⟨fun a U g mk q => by obtain ⟨q0, q1, qP, qK, qD, qE0, qE1⟩ := q; exact ⟨q0, q1, qP, va_K.moved (u := U) (U := U.calling g mk a) (Vm.Alike.refl U.vm) qK, qD, va_Z.moved (u := U) (U := U.calling g mk a) (Vm.Alike.refl U.vm) qE0, va_OF.moved (u := U) (U := U.calling g mk a) (Vm.Alike.refl U.vm) qE1⟩, hrv, fun U hU hW => ⟨rfl, by rw [hU], by rw [hU]; exact hPc, va_K.moved hW.alike hKc, hDc.weaken (fun _ _ _ _ => trivial), va_Z.moved hW.alike (by rw [hU]; exact (hE_10.kept hS.2.1).narrow hFc), va_OF.moved hW.alike (by rw [hU]; exact (hE_34.kept hS.2.1).narrow hFc)⟩⟩ rfl rfl hl.1 rfl (lv_room (Nat.le_of_ble_eq_true rfl)) dJ0_indexOf_7cf53_1 ⟨Nat.le_of_ble_eq_true rfl, Nat.le_of_ble_eq_true rfl⟩) hS (fun q _ h => hFc q h) hFc (fun r_1 u t H1 locs ht hvm hw hB hz1 hk1 hS => ?_)
  obtain ⟨hP1, hK1, hD1⟩ := hB
  rw [ht] at hP1
  have hP := bv_still hP hk1
  generalize H1 = H at hP hS ⊢
  as_aux_lemma =>
  rcases hw with ⟨h_2, h_3⟩
  have h_3 : r_1 = _ := h_3
  replace hEX := hEX.trans (exc1_eq h_3)
  rw [h_2]
  refine lv_if_eq (tgt := 23) hx hb dJ0_indexOf_7cf53_4 rfl (fun c_4 => absurd c_4 (by decide +kernel)) (fun c_4 => ?_)
  refine lv_aload_n hx hb dJ0_indexOf_7cf53_7 rfl (lv_at hl 0 rfl) ?_
  refine vk_getf hx hb hE_35 hS hown (hts (.fieldLink RJ0 9 "java/lang/String" "value" "[B") (List.mem_of_getElem? (i := 8) rfl)) (fun _ h9 => h9) dJ0_indexOf_7cf53_8 ?_
  refine lv_iload_n hx hb dJ0_indexOf_7cf53_11 rfl (lv_at hl 1 rfl) ?_
  refine lv_iload_n hx hb dJ0_indexOf_7cf53_12 rfl (lv_at hl 2 rfl) ?_
  refine lv_aload_n hx hb dJ0_indexOf_7cf53_13 rfl (lv_at hl 0 rfl) ?_
  obtain ⟨hPc, hDc, hFc, hqc⟩ := cl_cut (wc := []) hP hD hS hA [] (by decide +kernel) rfl
  have hKc := hK.sub (tys' := []) [] rfl
  have hrv := bv_Orecv hE_33 hS
  refine va_calli (va_runV (As := []) (rest := [.int 0, .int p1, .ref tv4]) ⟨hx, hb, hml, hown, hts⟩ (c_J0_length_8abf5_4 l dC dI H.size ts4 tv4) (cwV 0 hts gf_c_J0_indexOf_7cf53_4_c_J0_length_8abf5_4 rfl rfl rfl mdV_J0_length_8abf5 ⟨Nat.le_of_ble_eq_true rfl, Nat.le_of_ble_eq_true rfl⟩) ⟨fun a U g mk q => by obtain ⟨q0, q1, qP, qK, qD, qE0, qE1, qE2, qE3, qE4⟩ := q; exact ⟨q0, q1, qP, va_K.moved (u := U) (U := U.calling g mk a) (Vm.Alike.refl U.vm) qK, qD, va_OF.moved (u := U) (U := U.calling g mk a) (Vm.Alike.refl U.vm) qE0, va_T.moved (u := U) (U := U.calling g mk a) (Vm.Alike.refl U.vm) qE1, va_Z.moved (u := U) (U := U.calling g mk a) (Vm.Alike.refl U.vm) qE2, va_OF.moved (u := U) (U := U.calling g mk a) (Vm.Alike.refl U.vm) qE3, va_O.moved (u := U) (U := U.calling g mk a) (Vm.Alike.refl U.vm) qE4⟩, hrv, fun U hU hW => ⟨rfl, by rw [hU], by rw [hU]; exact hPc, va_K.moved hW.alike hKc, hDc.weaken (fun _ _ _ _ => trivial), va_OF.moved hW.alike (by rw [hU]; exact (hE_35.kept hS.2.1).narrow hFc), va_T.moved hW.alike (by rw [hU]; exact (hE_36.kept hS.2.1).narrow hFc), va_Z.moved hW.alike (by rw [hU]; exact (hE_10.kept hS.2.1).narrow hFc), va_OF.moved hW.alike (by rw [hU]; exact (hE_34.kept hS.2.1).narrow hFc), va_O.moved hW.alike (by rw [hU]; exact (hE_33.kept hS.2.1).narrow hFc)⟩⟩ rfl rfl hl.1 rfl (lv_room (Nat.le_of_ble_eq_true rfl)) dJ0_indexOf_7cf53_14 ⟨Nat.le_of_ble_eq_true rfl, Nat.le_of_ble_eq_true rfl⟩) hS (fun q _ h => hFc q h) hFc (fun r_5 u t H1 locs ht hvm hw hB hz1 hk1 hS => ?_)
  as_aux_lemma =>
  obtain ⟨hP1, hK1, hD1⟩ := hB
  rw [ht] at hP1
  have hP := bv_still hP hk1
  generalize H1 = H at hP hS ⊢
  as_aux_lemma =>
  rcases hw with ⟨h_6, h_7⟩
  have h_7 : r_5 = _ := h_7
  replace hEX := hEX.trans (exc1_eq h_7)
  rw [h_6]
  obtain ⟨hPc, hDc, hFc, hqc⟩ := cl_cut (wc := []) hP hD hS hA [] (by decide +kernel) rfl
  have hKc := hK.sub (tys' := []) [] rfl
  refine va_calli (va_runS (As := [.ref tv4, .int p1, .int 0, .int 6]) (rest := []) ⟨hx, hb, hml, hown, hts⟩ (c_J1_indexOf_4cfef_4 l dC dI H.size tv4 p1 g_p1) (va_cwS 4 hts gf_c_J0_indexOf_7cf53_4_c_J1_indexOf_4cfef_4 rfl rfl rfl md_J1_indexOf_4cfef ⟨Nat.le_of_ble_eq_true rfl, Nat.le_of_ble_eq_true rfl⟩) ⟨fun a U g mk q => by obtain ⟨q0, q1, qP, qK, qD, qE0⟩ := q; exact ⟨q0, q1, qP, va_K.moved (u := U) (U := U.calling g mk a) (Vm.Alike.refl U.vm) qK, qD, va_T.moved (u := U) (U := U.calling g mk a) (Vm.Alike.refl U.vm) qE0⟩, fun U hU hW => ⟨rfl, by rw [hU], by rw [hU]; exact hPc, va_K.moved hW.alike hKc, hDc.weaken (fun _ _ _ _ => trivial), va_T.moved hW.alike (by rw [hU]; exact (hE_36.kept hS.2.1).narrow hFc)⟩⟩ rfl rfl hl.1 rfl (lv_room (Nat.le_of_ble_eq_true rfl)) dJ0_indexOf_7cf53_17 ⟨Nat.le_of_ble_eq_true rfl, Nat.le_of_ble_eq_true rfl⟩) hS (fun q _ h => hFc q h) hFc (fun r_8 u t H1 locs ht hvm hw hB hz1 hk1 hS => ?_)
  obtain ⟨hP1, hK1, hD1⟩ := hB
  rw [ht] at hP1
  have hP := bv_still hP hk1
  generalize H1 = H at hP hS ⊢
  as_aux_lemma =>
  rcases hw with ⟨h_9, h_10⟩ | ⟨h_11, h_12, h_13⟩
  · have h_10 : r_8 = _ := h_10
    replace hEX := hEX.trans (exc1_eq h_10)
    replace hEX := hEX.trans (if_pos (show r_8 = (-1) from h_9))
    rw [h_9]
    refine lv_goto (tgt := 36) hx hb dJ0_indexOf_7cf53_20 rfl ?_
    have hK9 := hK.sub (tys' := []) [] rfl
    exact W.iret (v := (-1)) hx hb hr (fun t ht hW => ⟨⟨(-1), (), rfl, (Or.inl ⟨rfl, (hR.trans hEX).symm⟩), by rw [ht]; exact hP, va_K.moved hW.alike hK9, hD⟩, hS.F ht⟩) hS.2.2 dJ0_indexOf_7cf53_36
  · have h_13 : r_8 = _ := h_13
    replace hEX := hEX.trans (exc1_eq h_13)
    replace hEX := hEX.trans (if_neg (RG_neq (x := r_8) (c := (-1)) (show RG r_8 0 5 from h_11) (by decide +kernel)))
    refine lv_goto (tgt := 36) hx hb dJ0_indexOf_7cf53_20 rfl ?_
    have hK9 := hK.sub (tys' := []) [] rfl
    exact W.iret (v := r_8) hx hb hr (fun t ht hW => ⟨⟨r_8, (), rfl, (Or.inr ⟨h_11, h_12, (hR.trans hEX).symm⟩), by rw [ht]; exact hP, va_K.moved hW.alike hK9, hD⟩, hS.F ht⟩) hS.2.2 dJ0_indexOf_7cf53_36
noncomputable def wf_c_J0_indexOf_0f7a4_4 : List Cond := .code yJ0_indexOf_0f7a4 cJ0_indexOf_0f7a4 2 (some .int) :: ([.methodLink RJ0 633 yJ0_indexOf_7cf53, .instanceMethod yJ0_indexOf_7cf53, .selects RJ0 yJ0_indexOf_7cf53 yJ0_indexOf_7cf53, .initialized RJ0, .code yJ0_indexOf_7cf53 cJ0_indexOf_7cf53 3 (some .int), .methodLink RJ0 492 yJ0_isLatin1_aae02, .instanceMethod yJ0_isLatin1_aae02, .selects RJ0 yJ0_isLatin1_aae02 yJ0_isLatin1_aae02, .code yJ0_isLatin1_aae02 cJ0_isLatin1_aae02 1 (some .boolean), .fieldLink RJ0 38 "java/lang/String" "COMPACT_STRINGS" "Z", .fieldLink RJ0 15 "java/lang/String" "coder" "B", .fieldLink RJ0 9 "java/lang/String" "value" "[B", .methodLink RJ0 505 yJ0_length_8abf5, .instanceMethod yJ0_length_8abf5, .selects RJ0 yJ0_length_8abf5 yJ0_length_8abf5, .code yJ0_length_8abf5 cJ0_length_8abf5 1 (some .int), .methodLink RJ0 335 yJ0_coder_7d493, .instanceMethod yJ0_coder_7d493, .selects RJ0 yJ0_coder_7d493 yJ0_coder_7d493, .code yJ0_coder_7d493 cJ0_coder_7d493 1 (some .byte), .methodLink RJ0 637 yJ1_indexOf_4cfef, .static yJ1_indexOf_4cfef, .initialized RJ1, .code yJ1_indexOf_4cfef cJ1_indexOf_4cfef 4 (some .int), .methodLink RJ1 88 yJ1_canEncode_9a6ad, .static yJ1_canEncode_9a6ad, .code yJ1_canEncode_9a6ad cJ1_canEncode_9a6ad 1 (some .boolean), .methodLink RJ1 92 Lib.Math.max.name, .static Lib.Math.max.name, .initialized "java/lang/Math", .code Lib.Math.max.name Lib.Math.max.code 2 (some .int), .methodLink RJ1 38 Lib.Math.min.name, .static Lib.Math.min.name, .code Lib.Math.min.name Lib.Math.min.code 2 (some .int), .methodLink RJ1 95 yJ1_indexOfChar_4cfef, .static yJ1_indexOfChar_4cfef, .code yJ1_indexOfChar_4cfef cJ1_indexOfChar_4cfef 6 (some .int)])
set_option maxRecDepth 20000 in
theorem gf_c_J0_indexOf_0f7a4_4_c_J0_indexOf_7cf53_4 : GoodIn wf_c_J0_indexOf_0f7a4_4 (wsV RJ0 633 RJ0 yJ0_indexOf_7cf53 wf_c_J0_indexOf_7cf53_4) := goodIn_app (gi_l [1, 2, 3, 4] rfl rfl) (gi_cons (j := 5) rfl rfl (gi_l [6, 7, 8, 4, 9, 10, 11, 12, 13, 14, 15, 16, 17, 18, 19, 20, 21, 22, 23, 24, 25, 26, 27, 28, 29, 30, 31, 32, 33, 34, 35, 36, 37] rfl rfl))
set_option maxHeartbeats 4000000 in
set_option maxRecDepth 100000 in
theorem c_J0_indexOf_0f7a4_4 (l : Launch) (dC : Nat → ClassId) (dI : Nat → Nat → Nat) (sz : Nat) (ts4 : Nat) (p1 : Int32) (tv4 : Nat) (g_p1 : RG p1 0 65535) : Met l yJ0_indexOf_0f7a4 wf_c_J0_indexOf_0f7a4_4 ({ frames := 3, cells := 0, slots := 0, locals := 70 }) (va_Pc [.ref ts4, .int p1] (fun U => U.heap.size = sz ∧ va_P (dC, dI) vwCl [] U.heap ∧ va_K (dC, dI) vwCl [] U ∧ va_D (fun _ => True) [] ∧ va_Z "java/lang/String" "COMPACT_STRINGS" "Z" (.int 1) (va_A [] sz) U U.heap ∧ va_OF "java/lang/String" "coder" "B" (.int 0) ts4 (va_A [] sz) U U.heap ∧ va_O "java/lang/String" ts4 (va_A [] sz) U U.heap ∧ va_OF "java/lang/String" "value" "[B" (.ref tv4) ts4 (va_A [] sz) U U.heap ∧ va_T .byte tv4 6 (fun j => .int ([118, 108, 114, 100, 112, 104].getD j 0)) (va_A [] sz) U U.heap)) (va_Qi (fun (r : Int32) (u : Unit) => (r = (-1) ∧ r = fx_c_J0_indexOf_0f7a4_4 p1) ∨ (RG r 0 5 ∧ RG p1 0 255 ∧ r = fx_c_J0_indexOf_0f7a4_4 p1)) (fun (u : Unit) t => va_P (dC, dI) vwCl [] t.heap ∧ va_K (dC, dI) vwCl [] t ∧ va_D (va_A [] sz) []) (va_A [] sz)) 0 0 (va_A [] sz) := by
  refine Met.ofW (cc := cJ0_indexOf_0f7a4) (maxL := 2) (ret := (some .int)) (by decide +kernel) rfl ?_
  intro p e s m args below meth c s₁ B hml hv
  obtain ⟨rfl, hsz, hP, hK, hD0, hE_10, hE_34, hE_33, hE_35, hE_36⟩ := hv
  have hx := B.exec
  have hb := B.bytes
  have hr := B.returns
  have hts := atoms_spec (ws := wf_c_J0_indexOf_0f7a4_4) B.pre
  have hown : s.vm.findClass RJ0 = some m.cls := findClass_of_methodNamed B.named
  have hlocks := B.notSynchronized
  subst hsz
  have hD := hD0.self (sz := s.heap.size)
  generalize hAe : va_A [] s.heap.size = A at hD hE_10 hE_34 hE_33 hE_35 hE_36 ⊢
  have hA : ∀ q : Nat, s.heap.size ≤ q → A q := fun q h => by rw [← hAe]; exact Or.inr h
  have hP : va_P (dC, dI) vwCl [] s.heap := hP
  have hl := lv_entry ([.ref ts4, .int p1]) (n := 2) (Nat.le_of_ble_eq_true rfl)
  rw [lg_entry_eq]
  generalize (lg_sl ([.ref ts4, .int p1]) ++ List.replicate (2 - (lg_sl ([.ref ts4, .int p1])).length) Slot.unset).toArray = ls at hl ⊢
  have hl : lv_has ls 2 [(0, .ref ts4), (1, .int p1)] := hl
  obtain ⟨H, hHe⟩ : ∃ H : Heap, s.heap = H := ⟨_, rfl⟩
  have hS : va_S A s.heap H [] := by rw [hHe]; exact va_S.rf
  have hP : va_P (dC, dI) vwCl [] H := by rw [← hHe]; exact hP
  rw [hHe]
  obtain ⟨RES, hR⟩ : ∃ z, fx_c_J0_indexOf_0f7a4_4 p1 = z := ⟨_, rfl⟩
  have hEX : RES = fx_c_J0_indexOf_0f7a4_4 p1 := hR.symm
  refine lv_aload_n hx hb dJ0_indexOf_0f7a4_0 rfl (lv_at hl 0 rfl) ?_
  as_aux_lemma =>
  refine lv_iload_n hx hb dJ0_indexOf_0f7a4_1 rfl (lv_at hl 1 rfl) ?_
  refine lv_iconst (v := 0) hx hb dJ0_indexOf_0f7a4_2 kc_iconst_0 ?_
  obtain ⟨hPc, hDc, hFc, hqc⟩ := cl_cut (wc := []) hP hD hS hA [] (by decide +kernel) rfl
  have hKc := hK.sub (tys' := []) [] rfl
  have hrv := bv_Orecv hE_33 hS
  refine va_calli (va_runV (As := [.int p1, .int 0]) (rest := []) ⟨hx, hb, hml, hown, hts⟩ (c_J0_indexOf_7cf53_4 l dC dI H.size ts4 p1 tv4 g_p1) (cwV 2 hts gf_c_J0_indexOf_0f7a4_4_c_J0_indexOf_7cf53_4 rfl rfl rfl mdV_J0_indexOf_7cf53 ⟨Nat.le_of_ble_eq_true rfl, Nat.le_of_ble_eq_true rfl⟩) ⟨fun a U g mk q => by obtain ⟨q0, q1, qP, qK, qD, qE0, qE1, qE2, qE3, qE4⟩ := q; exact ⟨q0, q1, qP, va_K.moved (u := U) (U := U.calling g mk a) (Vm.Alike.refl U.vm) qK, qD, va_Z.moved (u := U) (U := U.calling g mk a) (Vm.Alike.refl U.vm) qE0, va_OF.moved (u := U) (U := U.calling g mk a) (Vm.Alike.refl U.vm) qE1, va_O.moved (u := U) (U := U.calling g mk a) (Vm.Alike.refl U.vm) qE2, va_OF.moved (u := U) (U := U.calling g mk a) (Vm.Alike.refl U.vm) qE3, va_T.moved (u := U) (U := U.calling g mk a) (Vm.Alike.refl U.vm) qE4⟩, hrv, fun U hU hW => ⟨rfl, by rw [hU], by rw [hU]; exact hPc, va_K.moved hW.alike hKc, hDc.weaken (fun _ _ _ _ => trivial), va_Z.moved hW.alike (by rw [hU]; exact (hE_10.kept hS.2.1).narrow hFc), va_OF.moved hW.alike (by rw [hU]; exact (hE_34.kept hS.2.1).narrow hFc), va_O.moved hW.alike (by rw [hU]; exact (hE_33.kept hS.2.1).narrow hFc), va_OF.moved hW.alike (by rw [hU]; exact (hE_35.kept hS.2.1).narrow hFc), va_T.moved hW.alike (by rw [hU]; exact (hE_36.kept hS.2.1).narrow hFc)⟩⟩ rfl rfl hl.1 rfl (lv_room (Nat.le_of_ble_eq_true rfl)) dJ0_indexOf_0f7a4_3 ⟨Nat.le_of_ble_eq_true rfl, Nat.le_of_ble_eq_true rfl⟩) hS (fun q _ h => hFc q h) hFc (fun r_1 u t H1 locs ht hvm hw hB hz1 hk1 hS => ?_)
  obtain ⟨hP1, hK1, hD1⟩ := hB
  rw [ht] at hP1
  have hP := bv_still hP hk1
  generalize H1 = H at hP hS ⊢
  as_aux_lemma =>
  rcases hw with ⟨h_2, h_3⟩ | ⟨h_4, h_5, h_6⟩
  · have h_3 : r_1 = _ := h_3
    replace hEX := hEX.trans (exc1_eq h_3)
    replace hEX := hEX.trans (if_pos (show r_1 = (-1) from h_2))
    rw [h_2]
    have hK9 := hK.sub (tys' := []) [] rfl
    exact W.iret (v := (-1)) hx hb hr (fun t ht hW => ⟨⟨(-1), (), rfl, (Or.inl ⟨rfl, (hR.trans hEX).symm⟩), by rw [ht]; exact hP, va_K.moved hW.alike hK9, hD⟩, hS.F ht⟩) hS.2.2 dJ0_indexOf_0f7a4_6
  · have h_6 : r_1 = _ := h_6
    replace hEX := hEX.trans (exc1_eq h_6)
    replace hEX := hEX.trans (if_neg (RG_neq (x := r_1) (c := (-1)) (show RG r_1 0 5 from h_4) (by decide +kernel)))
    have hK9 := hK.sub (tys' := []) [] rfl
    exact W.iret (v := r_1) hx hb hr (fun t ht hW => ⟨⟨r_1, (), rfl, (Or.inr ⟨h_4, h_5, (hR.trans hEX).symm⟩), by rw [ht]; exact hP, va_K.moved hW.alike hK9, hD⟩, hS.F ht⟩) hS.2.2 dJ0_indexOf_0f7a4_6
noncomputable def wd_c_X9_number_1 (a0 : Nat) (a1 : Nat) (a2 : Int32) (a3 : Int32) (a4 : Int32) (a5 : Nat) (a6 : ClassId) (a7 : Nat → Int32) : va_W := [(a0, .inr (9, [.ref a1, .int a2, .int a3, .int a4])), (a5, .inl (a6, 240, .inl a7))]
noncomputable def wf_c_X9_number_1 : List Cond := List.cons (.code yX9_number cX9_number 4 (some .int)) (@HAppend.hAppend (List Cond) (List Cond) (List Cond) _ [.fieldLink RX9 22 "BuoyVote$Tape" "at" "I", .fieldLink RX9 19 "BuoyVote$Tape" "length" "I", .fieldLink RX9 11 "BuoyVote$Tape" "bytes" "[I"] wsX90)
theorem iw_c_X9_number_1_X9 : ∀ w ∈ wsX90, w ∈ wf_c_X9_number_1 := fun w h => List.mem_cons_of_mem _ (List.mem_append_right _ h)
set_option maxHeartbeats 4000000 in
set_option maxRecDepth 100000 in
theorem c_X9_number_1 (l : Launch) (dC : Nat → ClassId) (dI : Nat → Nat → Nat) (sz : Nat) (h0 : Nat) (h0_0 : Nat) (h0_f1 : Int32) (h0_f2 : Int32) (h0_f3 : Int32) (h0_0k : ClassId) (h0_0c : Nat → Int32) (g_h0_f1 : RG h0_f1 0 240) (g_h0_f2 : RG h0_f2 0 240) (g_h0_f3 : RG h0_f3 (-1) 240) (a_h0_0c : AI h0_0c 0 255) : Met l yX9_number wf_c_X9_number_1 ({ frames := 0, cells := 0, slots := 0, locals := 0 }) (va_Pc [.ref h0, .int 4] (fun U => U.heap.size = sz ∧ va_P (dC, dI) vwCl (wd_c_X9_number_1 h0 h0_0 h0_f1 h0_f2 h0_f3 h0_0 h0_0k h0_0c) U.heap ∧ va_K (dC, dI) vwCl [(h0_0k, .int)] U ∧ va_D (fun _ => True) (wd_c_X9_number_1 h0 h0_0 h0_f1 h0_f2 h0_f3 h0_0 h0_0k h0_0c))) (va_Qi (fun (r : Int32) (u : (Int32)) => (r = (-1) ∧ RG u 0 240 ∧ h0_f2.toInt + 0 ≤ (u).toInt ∧ (r, u) = fx_c_X9_number_1 h0_f1 h0_f2 h0_0c) ∨ (RG r 0 9999 ∧ RG u 1 240 ∧ RG h0_f1 1 240 ∧ RG h0_f2 0 239 ∧ h0_f2.toInt + 1 ≤ (u).toInt ∧ (r, u) = fx_c_X9_number_1 h0_f1 h0_f2 h0_0c)) (fun (u : (Int32)) t => va_P (dC, dI) vwCl (wd_c_X9_number_1 h0 h0_0 h0_f1 u h0_f3 h0_0 h0_0k h0_0c) t.heap ∧ va_K (dC, dI) vwCl [] t ∧ va_D (va_A (wd_c_X9_number_1 h0 h0_0 h0_f1 h0_f2 h0_f3 h0_0 h0_0k h0_0c) sz) (wd_c_X9_number_1 h0 h0_0 h0_f1 u h0_f3 h0_0 h0_0k h0_0c)) (va_A (wd_c_X9_number_1 h0 h0_0 h0_f1 h0_f2 h0_f3 h0_0 h0_0k h0_0c) sz)) 0 0 (va_A (wd_c_X9_number_1 h0 h0_0 h0_f1 h0_f2 h0_f3 h0_0 h0_0k h0_0c) sz) := by
  refine Met.ofW (cc := cX9_number) (maxL := 4) (ret := (some .int)) (by decide +kernel) rfl ?_
  intro p e s m args below meth c s₁ B hml hv
  obtain ⟨rfl, hsz, hP, hK, hD0⟩ := hv
  have hx := B.exec
  have hb := B.bytes
  have hr := B.returns
  have hts := atoms_spec (ws := wf_c_X9_number_1) B.pre
  have hown : s.vm.findClass RX9 = some m.cls := findClass_of_methodNamed B.named
  have hlocks := B.notSynchronized
  subst hsz
  have hD := hD0.self (sz := s.heap.size)
  generalize hAe : va_A (wd_c_X9_number_1 h0 h0_0 h0_f1 h0_f2 h0_f3 h0_0 h0_0k h0_0c) s.heap.size = A at hD ⊢
  have hA : ∀ q : Nat, s.heap.size ≤ q → A q := fun q h => by rw [← hAe]; exact Or.inr h
  have hP : va_P (dC, dI) vwCl (wd_c_X9_number_1 h0 h0_0 h0_f1 h0_f2 h0_f3 h0_0 h0_0k h0_0c) s.heap := hP
  have hl := lv_entry ([.ref h0, .int 4]) (n := 4) (Nat.le_of_ble_eq_true rfl)
  rw [lg_entry_eq]
  generalize (lg_sl ([.ref h0, .int 4]) ++ List.replicate (4 - (lg_sl ([.ref h0, .int 4])).length) Slot.unset).toArray = ls at hl ⊢
  have hl : lv_has ls 4 [(0, .ref h0), (1, .int 4)] := hl
  obtain ⟨H, hHe⟩ : ∃ H : Heap, s.heap = H := ⟨_, rfl⟩
  have hS : va_S A s.heap H [] := by rw [hHe]; exact va_S.rf
  have hP : va_P (dC, dI) vwCl (wd_c_X9_number_1 h0 h0_0 h0_f1 h0_f2 h0_f3 h0_0 h0_0k h0_0c) H := by rw [← hHe]; exact hP
  rw [hHe]
  obtain ⟨RES, hR⟩ : ∃ z, fx_c_X9_number_1 h0_f1 h0_f2 h0_0c = z := ⟨_, rfl⟩
  have hEX : RES = fx_c_X9_number_1 h0_f1 h0_f2 h0_0c := hR.symm
  refine lv_iconst (v := (-1)) hx hb dX9_number_0 kc_iconst_m1 ?_
  as_aux_lemma =>
  refine lv_istore_n (lv' := [(2, .int (-1)), (0, .ref h0), (1, .int 4)]) hx hb dX9_number_1 rfl hl (Nat.le_of_ble_eq_true rfl) rfl (fun ls hl => ?_)
  refine lv_iconst (v := 0) hx hb dX9_number_2 kc_iconst_0 ?_
  refine lv_istore_n (lv' := [(3, .int 0), (2, .int (-1)), (0, .ref h0), (1, .int 4)]) hx hb dX9_number_3 rfl hl (Nat.le_of_ble_eq_true rfl) rfl (fun ls hl => ?_)
  refine lv_aload_n hx hb dX9_number_4 rfl (lv_at hl 2 rfl) ?_
  refine va_get (D := (dC, dI)) (ci := 9) (v := .int h0_f2) (C := RX9) (T := TX9) (N := 4) hx hb hts iw_c_X9_number_1_X9 hown hK hP 0 rfl rfl 2 (by decide +kernel) (hts (.fieldLink RX9 22 "BuoyVote$Tape" "at" "I") (List.mem_of_getElem? (i := 1) rfl)) (fun _ h9 => h9) rfl dX9_number_5 ?_
  refine lv_aload_n hx hb dX9_number_8 rfl (lv_at hl 2 rfl) ?_
  refine va_get (D := (dC, dI)) (ci := 9) (v := .int h0_f1) (C := RX9) (T := TX9) (N := 4) hx hb hts iw_c_X9_number_1_X9 hown hK hP 0 rfl rfl 1 (by decide +kernel) (hts (.fieldLink RX9 19 "BuoyVote$Tape" "length" "I") (List.mem_of_getElem? (i := 2) rfl)) (fun _ h9 => h9) rfl dX9_number_9 ?_
  refine lv_icmp_ge (tgt := 92) hx hb dX9_number_12 rfl (fun c_1 => ?_) (fun c_1 => ?_)
  · replace hEX := hEX.trans (if_pos c_1)
    refine lv_iload_n hx hb dX9_number_92 rfl (lv_at hl 1 rfl) ?_
    have hK9 := hK.sub (tys' := []) [] rfl
    exact W.iret (v := (-1)) hx hb hr (fun t ht hW => ⟨⟨(-1), h0_f2, rfl, (Or.inl ⟨rfl, g_h0_f2, (by show h0_f2.toInt + 0 ≤ h0_f2.toInt; omega), (hR.trans hEX).symm⟩), by rw [ht]; exact hP, va_K.moved hW.alike hK9, hD⟩, hS.F ht⟩) hS.2.2 dX9_number_93
  · replace hEX := hEX.trans (if_neg c_1)
    have d_2 := Int32.not_le.mp c_1
    have g_3 : RG h0_f2 0 239 := RG_lt1 g_h0_f2 g_h0_f1 d_2 (by decide +kernel)
    have g_4 : RG h0_f1 1 240 := RG_lt2 g_h0_f2 g_h0_f1 d_2 (by decide +kernel)
    refine lv_aload_n hx hb dX9_number_15 rfl (lv_at hl 2 rfl) ?_
    as_aux_lemma =>
    refine va_get (D := (dC, dI)) (ci := 9) (v := .ref h0_0) (C := RX9) (T := TX9) (N := 4) hx hb hts iw_c_X9_number_1_X9 hown hK hP 0 rfl rfl 0 (by decide +kernel) (hts (.fieldLink RX9 11 "BuoyVote$Tape" "bytes" "[I") (List.mem_of_getElem? (i := 3) rfl)) (fun _ h9 => h9) rfl dX9_number_16 ?_
    refine lv_aload_n hx hb dX9_number_19 rfl (lv_at hl 2 rfl) ?_
    refine va_get (D := (dC, dI)) (ci := 9) (v := .int h0_f2) (C := RX9) (T := TX9) (N := 4) hx hb hts iw_c_X9_number_1_X9 hown hK hP 0 rfl rfl 2 (by decide +kernel) (hts (.fieldLink RX9 22 "BuoyVote$Tape" "at" "I") (List.mem_of_getElem? (i := 1) rfl)) (fun _ h9 => h9) rfl dX9_number_20 ?_
    refine va_iald hx hb hK hP 1 0 rfl rfl (RG_in g_3 (by decide +kernel)) dX9_number_23 ?_
    refine lv_topi (fun x_5 ex_5 => ?_)
    replace hEX := hEX.trans (exl_eq ex_5)
    have g_6 : RG x_5 0 255 := AI_rd a_h0_0c ex_5
    refine lv_bipush (v := 48) hx hb dX9_number_24 kc_bipush_48 ?_
    refine lv_icmp_lt (tgt := 92) hx hb dX9_number_26 rfl (fun c_7 => ?_) (fun c_7 => ?_)
    · replace hEX := hEX.trans (if_pos c_7)
      have g_8 : RG x_5 0 47 := RG_lt1 g_6 (RG_k 48 48 rfl) c_7 (by decide +kernel)
      refine lv_iload_n hx hb dX9_number_92 rfl (lv_at hl 1 rfl) ?_
      have hK9 := hK.sub (tys' := []) [] rfl
      exact W.iret (v := (-1)) hx hb hr (fun t ht hW => ⟨⟨(-1), h0_f2, rfl, (Or.inl ⟨rfl, (RG_w g_3 (by decide +kernel)), (by show h0_f2.toInt + 0 ≤ h0_f2.toInt; omega), (hR.trans hEX).symm⟩), by rw [ht]; exact hP, va_K.moved hW.alike hK9, hD⟩, hS.F ht⟩) hS.2.2 dX9_number_93
    · replace hEX := hEX.trans (if_neg c_7)
      have d_9 := Int32.not_lt.mp c_7
      have g_10 : RG x_5 48 255 := RG_le2 (RG_k 48 48 rfl) g_6 d_9 (by decide +kernel)
      refine lv_aload_n hx hb dX9_number_29 rfl (lv_at hl 2 rfl) ?_
      as_aux_lemma =>
      refine va_get (D := (dC, dI)) (ci := 9) (v := .ref h0_0) (C := RX9) (T := TX9) (N := 4) hx hb hts iw_c_X9_number_1_X9 hown hK hP 0 rfl rfl 0 (by decide +kernel) (hts (.fieldLink RX9 11 "BuoyVote$Tape" "bytes" "[I") (List.mem_of_getElem? (i := 3) rfl)) (fun _ h9 => h9) rfl dX9_number_30 ?_
      refine lv_aload_n hx hb dX9_number_33 rfl (lv_at hl 2 rfl) ?_
      refine va_get (D := (dC, dI)) (ci := 9) (v := .int h0_f2) (C := RX9) (T := TX9) (N := 4) hx hb hts iw_c_X9_number_1_X9 hown hK hP 0 rfl rfl 2 (by decide +kernel) (hts (.fieldLink RX9 22 "BuoyVote$Tape" "at" "I") (List.mem_of_getElem? (i := 1) rfl)) (fun _ h9 => h9) rfl dX9_number_34 ?_
      refine va_iald hx hb hK hP 1 0 rfl rfl (RG_in g_3 (by decide +kernel)) dX9_number_37 ?_
      refine lv_topi (fun x_11 ex_11 => ?_)
      obtain rfl : x_5 = x_11 := (ex_11.trans ex_5.symm).symm
      refine lv_bipush (v := 57) hx hb dX9_number_38 kc_bipush_57 ?_
      refine lv_icmp_gt (tgt := 92) hx hb dX9_number_40 rfl (fun c_12 => ?_) (fun c_12 => ?_)
      · replace hEX := hEX.trans (if_pos c_12)
        have g_13 : RG x_5 58 255 := RG_lt2 (RG_k 57 57 rfl) g_10 c_12 (by decide +kernel)
        refine lv_iload_n hx hb dX9_number_92 rfl (lv_at hl 1 rfl) ?_
        have hK9 := hK.sub (tys' := []) [] rfl
        exact W.iret (v := (-1)) hx hb hr (fun t ht hW => ⟨⟨(-1), h0_f2, rfl, (Or.inl ⟨rfl, (RG_w g_3 (by decide +kernel)), (by show h0_f2.toInt + 0 ≤ h0_f2.toInt; omega), (hR.trans hEX).symm⟩), by rw [ht]; exact hP, va_K.moved hW.alike hK9, hD⟩, hS.F ht⟩) hS.2.2 dX9_number_93
      · replace hEX := hEX.trans (if_neg c_12)
        have d_14 := Int32.not_lt.mp c_12
        have g_15 : RG x_5 48 57 := RG_le1 g_10 (RG_k 57 57 rfl) d_14 (by decide +kernel)
        refine lv_iload_n hx hb dX9_number_43 rfl (lv_at hl 0 rfl) ?_
        as_aux_lemma =>
        refine lv_iload_n hx hb dX9_number_44 rfl (lv_at hl 3 rfl) ?_
        refine lv_icmp_lt (tgt := 50) hx hb dX9_number_45 rfl (fun c_16 => ?_) (fun c_16 => absurd c_16 (by decide +kernel))
        refine lv_iload_n hx hb dX9_number_50 rfl (lv_at hl 0 rfl) ?_
        refine lv_if_ne (tgt := 58) hx hb dX9_number_51 rfl (fun c_17 => absurd c_17 (by decide +kernel)) (fun c_17 => ?_)
        refine lv_iconst (v := 0) hx hb dX9_number_54 kc_iconst_0 ?_
        refine lv_goto (tgt := 62) hx hb dX9_number_55 rfl ?_
        refine lv_aload_n hx hb dX9_number_62 rfl (lv_at hl 2 rfl) ?_
        refine va_get (D := (dC, dI)) (ci := 9) (v := .ref h0_0) (C := RX9) (T := TX9) (N := 4) hx hb hts iw_c_X9_number_1_X9 hown hK hP 0 rfl rfl 0 (by decide +kernel) (hts (.fieldLink RX9 11 "BuoyVote$Tape" "bytes" "[I") (List.mem_of_getElem? (i := 3) rfl)) (fun _ h9 => h9) rfl dX9_number_63 ?_
        refine lv_aload_n hx hb dX9_number_66 rfl (lv_at hl 2 rfl) ?_
        refine va_get (D := (dC, dI)) (ci := 9) (v := .int h0_f2) (C := RX9) (T := TX9) (N := 4) hx hb hts iw_c_X9_number_1_X9 hown hK hP 0 rfl rfl 2 (by decide +kernel) (hts (.fieldLink RX9 22 "BuoyVote$Tape" "at" "I") (List.mem_of_getElem? (i := 1) rfl)) (fun _ h9 => h9) rfl dX9_number_67 ?_
        refine va_iald hx hb hK hP 1 0 rfl rfl (RG_in g_3 (by decide +kernel)) dX9_number_70 ?_
        refine lv_topi (fun x_18 ex_18 => ?_)
        obtain rfl : x_5 = x_18 := (ex_18.trans ex_5.symm).symm
        refine lv_iadd hx hb dX9_number_71 ?_
        as_aux_lemma =>
        refine lv_topi (fun x_19 ex_19 => ?_)
        replace hEX := hEX.trans (exl_eq ex_19)
        have g_20 : RG x_19 48 57 := RG_add ex_19 (RG_k 0 0 rfl) g_15 (by decide +kernel)
        refine lv_bipush (v := 48) hx hb dX9_number_72 kc_bipush_48 ?_
        refine lv_isub hx hb dX9_number_74 ?_
        refine lv_topi (fun x_21 ex_21 => ?_)
        replace hEX := hEX.trans (exl_eq ex_21)
        have g_22 : RG x_21 0 9 := RG_sub ex_21 g_20 (RG_k 48 48 rfl) (by decide +kernel)
        refine lv_istore_n (lv' := [(2, .int x_21), (3, .int 0), (0, .ref h0), (1, .int 4)]) hx hb dX9_number_75 rfl hl (Nat.le_of_ble_eq_true rfl) rfl (fun ls hl => ?_)
        refine lv_aload_n hx hb dX9_number_76 rfl (lv_at hl 2 rfl) ?_
        refine lv_dup hx hb dX9_number_77 rfl ?_
        refine va_get (D := (dC, dI)) (ci := 9) (v := .int h0_f2) (C := RX9) (T := TX9) (N := 4) hx hb hts iw_c_X9_number_1_X9 hown hK hP 0 rfl rfl 2 (by decide +kernel) (hts (.fieldLink RX9 22 "BuoyVote$Tape" "at" "I") (List.mem_of_getElem? (i := 1) rfl)) (fun _ h9 => h9) rfl dX9_number_78 ?_
        refine lv_iconst (v := 1) hx hb dX9_number_81 kc_iconst_1 ?_
        refine lv_iadd hx hb dX9_number_82 ?_
        as_aux_lemma =>
        refine lv_topi (fun x_23 ex_23 => ?_)
        replace hEX := hEX.trans (exl_eq ex_23)
        have g_24 : RG x_23 1 240 := RG_add ex_23 g_3 (RG_k 1 1 rfl) (by decide +kernel)
        have q_25 : x_23.toInt = h0_f2.toInt + 1 := eq_add ex_23 g_3 (q := 1) rfl (by decide +kernel)
        refine va_put (D := (dC, dI)) (ci := 9) (v := .int x_23) (ty := .int) (C := RX9) (T := TX9) (N := 4) hx hb hts iw_c_X9_number_1_X9 tyX9 tyX9_ok nmX9 hown hK hP hD hS 0 rfl rfl 2 (by decide +kernel) (hts (.fieldLink RX9 22 "BuoyVote$Tape" "at" "I") (List.mem_of_getElem? (i := 1) rfl)) (fun _ h9 => h9) rfl (by decide +kernel) rfl rfl (Nat.le_of_ble_eq_true rfl) dX9_number_83 (fun H locs hP hD hS => ?_)
        have hP : va_P (dC, dI) vwCl (wd_c_X9_number_1 h0 h0_0 h0_f1 x_23 h0_f3 h0_0 h0_0k h0_0c) H := hP
        have hD : va_D A (wd_c_X9_number_1 h0 h0_0 h0_f1 x_23 h0_f3 h0_0 h0_0k h0_0c) := hD
        refine lv_iinc (v := 1) (lv' := [(3, .int 1), (2, .int x_21), (0, .ref h0), (1, .int 4)]) hx hb dX9_number_86 hl (k := 1) rfl (by decide +kernel) (Nat.le_of_ble_eq_true rfl) rfl (fun ls hl => ?_)
        refine lv_goto (tgt := 4) hx hb dX9_number_89 rfl ?_
        refine lv_aload_n hx hb dX9_number_4 rfl (lv_at hl 2 rfl) ?_
        refine va_get (D := (dC, dI)) (ci := 9) (v := .int x_23) (C := RX9) (T := TX9) (N := 4) hx hb hts iw_c_X9_number_1_X9 hown hK hP 0 rfl rfl 2 (by decide +kernel) (hts (.fieldLink RX9 22 "BuoyVote$Tape" "at" "I") (List.mem_of_getElem? (i := 1) rfl)) (fun _ h9 => h9) rfl dX9_number_5 ?_
        refine lv_aload_n hx hb dX9_number_8 rfl (lv_at hl 2 rfl) ?_
        refine va_get (D := (dC, dI)) (ci := 9) (v := .int h0_f1) (C := RX9) (T := TX9) (N := 4) hx hb hts iw_c_X9_number_1_X9 hown hK hP 0 rfl rfl 1 (by decide +kernel) (hts (.fieldLink RX9 19 "BuoyVote$Tape" "length" "I") (List.mem_of_getElem? (i := 2) rfl)) (fun _ h9 => h9) rfl dX9_number_9 ?_
        refine lv_icmp_ge (tgt := 92) hx hb dX9_number_12 rfl (fun c_26 => ?_) (fun c_26 => ?_)
        · replace hEX := hEX.trans (if_pos c_26)
          refine lv_iload_n hx hb dX9_number_92 rfl (lv_at hl 1 rfl) ?_
          as_aux_lemma =>
          have hK9 := hK.sub (tys' := []) [] rfl
          exact W.iret (v := x_21) hx hb hr (fun t ht hW => ⟨⟨x_21, x_23, rfl, (Or.inr ⟨(RG_w g_22 (by decide +kernel)), g_24, g_4, g_3, (by have := q_25; show h0_f2.toInt + 1 ≤ x_23.toInt; omega), (hR.trans hEX).symm⟩), by rw [ht]; exact hP, va_K.moved hW.alike hK9, hD⟩, hS.F ht⟩) hS.2.2 dX9_number_93
        · replace hEX := hEX.trans (if_neg c_26)
          have d_27 := Int32.not_le.mp c_26
          have g_28 : RG x_23 1 239 := RG_lt1 g_24 g_4 d_27 (by decide +kernel)
          have g_29 : RG h0_f2 0 238 := RG_addb ex_23 (q := 1) rfl g_3 g_28 (by decide +kernel)
          have g_30 : RG h0_f1 2 240 := RG_lt2 g_24 g_4 d_27 (by decide +kernel)
          refine lv_aload_n hx hb dX9_number_15 rfl (lv_at hl 2 rfl) ?_
          refine va_get (D := (dC, dI)) (ci := 9) (v := .ref h0_0) (C := RX9) (T := TX9) (N := 4) hx hb hts iw_c_X9_number_1_X9 hown hK hP 0 rfl rfl 0 (by decide +kernel) (hts (.fieldLink RX9 11 "BuoyVote$Tape" "bytes" "[I") (List.mem_of_getElem? (i := 3) rfl)) (fun _ h9 => h9) rfl dX9_number_16 ?_
          refine lv_aload_n hx hb dX9_number_19 rfl (lv_at hl 2 rfl) ?_
          refine va_get (D := (dC, dI)) (ci := 9) (v := .int x_23) (C := RX9) (T := TX9) (N := 4) hx hb hts iw_c_X9_number_1_X9 hown hK hP 0 rfl rfl 2 (by decide +kernel) (hts (.fieldLink RX9 22 "BuoyVote$Tape" "at" "I") (List.mem_of_getElem? (i := 1) rfl)) (fun _ h9 => h9) rfl dX9_number_20 ?_
          refine va_iald hx hb hK hP 1 0 rfl rfl (RG_in g_28 (by decide +kernel)) dX9_number_23 ?_
          refine lv_topi (fun x_31 ex_31 => ?_)
          replace hEX := hEX.trans (exl_eq ex_31)
          have g_32 : RG x_31 0 255 := AI_rd a_h0_0c ex_31
          refine lv_bipush (v := 48) hx hb dX9_number_24 kc_bipush_48 ?_
          as_aux_lemma =>
          refine lv_icmp_lt (tgt := 92) hx hb dX9_number_26 rfl (fun c_33 => ?_) (fun c_33 => ?_)
          · replace hEX := hEX.trans (if_pos c_33)
            have g_34 : RG x_31 0 47 := RG_lt1 g_32 (RG_k 48 48 rfl) c_33 (by decide +kernel)
            refine lv_iload_n hx hb dX9_number_92 rfl (lv_at hl 1 rfl) ?_
            have hK9 := hK.sub (tys' := []) [] rfl
            exact W.iret (v := x_21) hx hb hr (fun t ht hW => ⟨⟨x_21, x_23, rfl, (Or.inr ⟨(RG_w g_22 (by decide +kernel)), (RG_w g_28 (by decide +kernel)), (RG_w g_30 (by decide +kernel)), (RG_w g_29 (by decide +kernel)), (by have := q_25; show h0_f2.toInt + 1 ≤ x_23.toInt; omega), (hR.trans hEX).symm⟩), by rw [ht]; exact hP, va_K.moved hW.alike hK9, hD⟩, hS.F ht⟩) hS.2.2 dX9_number_93
          · replace hEX := hEX.trans (if_neg c_33)
            have d_35 := Int32.not_lt.mp c_33
            have g_36 : RG x_31 48 255 := RG_le2 (RG_k 48 48 rfl) g_32 d_35 (by decide +kernel)
            refine lv_aload_n hx hb dX9_number_29 rfl (lv_at hl 2 rfl) ?_
            refine va_get (D := (dC, dI)) (ci := 9) (v := .ref h0_0) (C := RX9) (T := TX9) (N := 4) hx hb hts iw_c_X9_number_1_X9 hown hK hP 0 rfl rfl 0 (by decide +kernel) (hts (.fieldLink RX9 11 "BuoyVote$Tape" "bytes" "[I") (List.mem_of_getElem? (i := 3) rfl)) (fun _ h9 => h9) rfl dX9_number_30 ?_
            refine lv_aload_n hx hb dX9_number_33 rfl (lv_at hl 2 rfl) ?_
            refine va_get (D := (dC, dI)) (ci := 9) (v := .int x_23) (C := RX9) (T := TX9) (N := 4) hx hb hts iw_c_X9_number_1_X9 hown hK hP 0 rfl rfl 2 (by decide +kernel) (hts (.fieldLink RX9 22 "BuoyVote$Tape" "at" "I") (List.mem_of_getElem? (i := 1) rfl)) (fun _ h9 => h9) rfl dX9_number_34 ?_
            refine va_iald hx hb hK hP 1 0 rfl rfl (RG_in g_28 (by decide +kernel)) dX9_number_37 ?_
            as_aux_lemma =>
            refine lv_topi (fun x_37 ex_37 => ?_)
            obtain rfl : x_31 = x_37 := (ex_37.trans ex_31.symm).symm
            refine lv_bipush (v := 57) hx hb dX9_number_38 kc_bipush_57 ?_
            refine lv_icmp_gt (tgt := 92) hx hb dX9_number_40 rfl (fun c_38 => ?_) (fun c_38 => ?_)
            · replace hEX := hEX.trans (if_pos c_38)
              have g_39 : RG x_31 58 255 := RG_lt2 (RG_k 57 57 rfl) g_36 c_38 (by decide +kernel)
              refine lv_iload_n hx hb dX9_number_92 rfl (lv_at hl 1 rfl) ?_
              have hK9 := hK.sub (tys' := []) [] rfl
              exact W.iret (v := x_21) hx hb hr (fun t ht hW => ⟨⟨x_21, x_23, rfl, (Or.inr ⟨(RG_w g_22 (by decide +kernel)), (RG_w g_28 (by decide +kernel)), (RG_w g_30 (by decide +kernel)), (RG_w g_29 (by decide +kernel)), (by have := q_25; show h0_f2.toInt + 1 ≤ x_23.toInt; omega), (hR.trans hEX).symm⟩), by rw [ht]; exact hP, va_K.moved hW.alike hK9, hD⟩, hS.F ht⟩) hS.2.2 dX9_number_93
            · replace hEX := hEX.trans (if_neg c_38)
              have d_40 := Int32.not_lt.mp c_38
              have g_41 : RG x_31 48 57 := RG_le1 g_36 (RG_k 57 57 rfl) d_40 (by decide +kernel)
              refine lv_iload_n hx hb dX9_number_43 rfl (lv_at hl 0 rfl) ?_
              refine lv_iload_n hx hb dX9_number_44 rfl (lv_at hl 3 rfl) ?_
              as_aux_lemma =>
              refine lv_icmp_lt (tgt := 50) hx hb dX9_number_45 rfl (fun c_42 => ?_) (fun c_42 => absurd c_42 (by decide +kernel))
              refine lv_iload_n hx hb dX9_number_50 rfl (lv_at hl 0 rfl) ?_
              refine lv_if_ne (tgt := 58) hx hb dX9_number_51 rfl (fun c_43 => ?_) (fun c_43 => absurd c_43 (by decide +kernel))
              refine lv_iload_n hx hb dX9_number_58 rfl (lv_at hl 1 rfl) ?_
              refine lv_bipush (v := 10) hx hb dX9_number_59 kc_bipush_10 ?_
              refine lv_imul hx hb dX9_number_61 ?_
              refine lv_topi (fun x_44 ex_44 => ?_)
              replace hEX := hEX.trans (exl_eq ex_44)
              have g_45 : RG x_44 0 90 := RG_mulc ex_44 (q := 10) rfl g_22 (by decide +kernel)
              refine lv_aload_n hx hb dX9_number_62 rfl (lv_at hl 2 rfl) ?_
              refine va_get (D := (dC, dI)) (ci := 9) (v := .ref h0_0) (C := RX9) (T := TX9) (N := 4) hx hb hts iw_c_X9_number_1_X9 hown hK hP 0 rfl rfl 0 (by decide +kernel) (hts (.fieldLink RX9 11 "BuoyVote$Tape" "bytes" "[I") (List.mem_of_getElem? (i := 3) rfl)) (fun _ h9 => h9) rfl dX9_number_63 ?_
              refine lv_aload_n hx hb dX9_number_66 rfl (lv_at hl 2 rfl) ?_
              refine va_get (D := (dC, dI)) (ci := 9) (v := .int x_23) (C := RX9) (T := TX9) (N := 4) hx hb hts iw_c_X9_number_1_X9 hown hK hP 0 rfl rfl 2 (by decide +kernel) (hts (.fieldLink RX9 22 "BuoyVote$Tape" "at" "I") (List.mem_of_getElem? (i := 1) rfl)) (fun _ h9 => h9) rfl dX9_number_67 ?_
              refine va_iald hx hb hK hP 1 0 rfl rfl (RG_in g_28 (by decide +kernel)) dX9_number_70 ?_
              as_aux_lemma =>
              refine lv_topi (fun x_46 ex_46 => ?_)
              obtain rfl : x_31 = x_46 := (ex_46.trans ex_31.symm).symm
              refine lv_iadd hx hb dX9_number_71 ?_
              refine lv_topi (fun x_47 ex_47 => ?_)
              replace hEX := hEX.trans (exl_eq ex_47)
              have g_48 : RG x_47 48 147 := RG_add ex_47 g_45 g_41 (by decide +kernel)
              refine lv_bipush (v := 48) hx hb dX9_number_72 kc_bipush_48 ?_
              refine lv_isub hx hb dX9_number_74 ?_
              refine lv_topi (fun x_49 ex_49 => ?_)
              replace hEX := hEX.trans (exl_eq ex_49)
              have g_50 : RG x_49 0 99 := RG_sub ex_49 g_48 (RG_k 48 48 rfl) (by decide +kernel)
              refine lv_istore_n (lv' := [(2, .int x_49), (3, .int 1), (0, .ref h0), (1, .int 4)]) hx hb dX9_number_75 rfl hl (Nat.le_of_ble_eq_true rfl) rfl (fun ls hl => ?_)
              refine lv_aload_n hx hb dX9_number_76 rfl (lv_at hl 2 rfl) ?_
              refine lv_dup hx hb dX9_number_77 rfl ?_
              as_aux_lemma =>
              refine va_get (D := (dC, dI)) (ci := 9) (v := .int x_23) (C := RX9) (T := TX9) (N := 4) hx hb hts iw_c_X9_number_1_X9 hown hK hP 0 rfl rfl 2 (by decide +kernel) (hts (.fieldLink RX9 22 "BuoyVote$Tape" "at" "I") (List.mem_of_getElem? (i := 1) rfl)) (fun _ h9 => h9) rfl dX9_number_78 ?_
              refine lv_iconst (v := 1) hx hb dX9_number_81 kc_iconst_1 ?_
              refine lv_iadd hx hb dX9_number_82 ?_
              refine lv_topi (fun x_51 ex_51 => ?_)
              replace hEX := hEX.trans (exl_eq ex_51)
              have g_52 : RG x_51 2 240 := RG_add ex_51 g_28 (RG_k 1 1 rfl) (by decide +kernel)
              have q_53 : x_51.toInt = x_23.toInt + 1 := eq_add ex_51 g_28 (q := 1) rfl (by decide +kernel)
              refine va_put (D := (dC, dI)) (ci := 9) (v := .int x_51) (ty := .int) (C := RX9) (T := TX9) (N := 4) hx hb hts iw_c_X9_number_1_X9 tyX9 tyX9_ok nmX9 hown hK hP hD hS 0 rfl rfl 2 (by decide +kernel) (hts (.fieldLink RX9 22 "BuoyVote$Tape" "at" "I") (List.mem_of_getElem? (i := 1) rfl)) (fun _ h9 => h9) rfl (by decide +kernel) rfl rfl (Nat.le_of_ble_eq_true rfl) dX9_number_83 (fun H locs hP hD hS => ?_)
              have hP : va_P (dC, dI) vwCl (wd_c_X9_number_1 h0 h0_0 h0_f1 x_51 h0_f3 h0_0 h0_0k h0_0c) H := hP
              have hD : va_D A (wd_c_X9_number_1 h0 h0_0 h0_f1 x_51 h0_f3 h0_0 h0_0k h0_0c) := hD
              refine lv_iinc (v := 2) (lv' := [(3, .int 2), (2, .int x_49), (0, .ref h0), (1, .int 4)]) hx hb dX9_number_86 hl (k := 1) rfl (by decide +kernel) (Nat.le_of_ble_eq_true rfl) rfl (fun ls hl => ?_)
              refine lv_goto (tgt := 4) hx hb dX9_number_89 rfl ?_
              refine lv_aload_n hx hb dX9_number_4 rfl (lv_at hl 2 rfl) ?_
              refine va_get (D := (dC, dI)) (ci := 9) (v := .int x_51) (C := RX9) (T := TX9) (N := 4) hx hb hts iw_c_X9_number_1_X9 hown hK hP 0 rfl rfl 2 (by decide +kernel) (hts (.fieldLink RX9 22 "BuoyVote$Tape" "at" "I") (List.mem_of_getElem? (i := 1) rfl)) (fun _ h9 => h9) rfl dX9_number_5 ?_
              as_aux_lemma =>
              refine lv_aload_n hx hb dX9_number_8 rfl (lv_at hl 2 rfl) ?_
              refine va_get (D := (dC, dI)) (ci := 9) (v := .int h0_f1) (C := RX9) (T := TX9) (N := 4) hx hb hts iw_c_X9_number_1_X9 hown hK hP 0 rfl rfl 1 (by decide +kernel) (hts (.fieldLink RX9 19 "BuoyVote$Tape" "length" "I") (List.mem_of_getElem? (i := 2) rfl)) (fun _ h9 => h9) rfl dX9_number_9 ?_
              refine lv_icmp_ge (tgt := 92) hx hb dX9_number_12 rfl (fun c_54 => ?_) (fun c_54 => ?_)
              · replace hEX := hEX.trans (if_pos c_54)
                refine lv_iload_n hx hb dX9_number_92 rfl (lv_at hl 1 rfl) ?_
                have hK9 := hK.sub (tys' := []) [] rfl
                exact W.iret (v := x_49) hx hb hr (fun t ht hW => ⟨⟨x_49, x_51, rfl, (Or.inr ⟨(RG_w g_50 (by decide +kernel)), (RG_w g_52 (by decide +kernel)), (RG_w g_30 (by decide +kernel)), (RG_w g_29 (by decide +kernel)), (by have := q_25; have := q_53; show h0_f2.toInt + 1 ≤ x_51.toInt; omega), (hR.trans hEX).symm⟩), by rw [ht]; exact hP, va_K.moved hW.alike hK9, hD⟩, hS.F ht⟩) hS.2.2 dX9_number_93
              · replace hEX := hEX.trans (if_neg c_54)
                have d_55 := Int32.not_le.mp c_54
                have g_56 : RG x_51 2 239 := RG_lt1 g_52 g_30 d_55 (by decide +kernel)
                have g_57 : RG x_23 1 238 := RG_addb ex_51 (q := 1) rfl g_28 g_56 (by decide +kernel)
                have g_58 : RG h0_f2 0 237 := RG_addb ex_23 (q := 1) rfl g_29 g_57 (by decide +kernel)
                have g_59 : RG h0_f1 3 240 := RG_lt2 g_52 g_30 d_55 (by decide +kernel)
                refine lv_aload_n hx hb dX9_number_15 rfl (lv_at hl 2 rfl) ?_
                as_aux_lemma =>
                refine va_get (D := (dC, dI)) (ci := 9) (v := .ref h0_0) (C := RX9) (T := TX9) (N := 4) hx hb hts iw_c_X9_number_1_X9 hown hK hP 0 rfl rfl 0 (by decide +kernel) (hts (.fieldLink RX9 11 "BuoyVote$Tape" "bytes" "[I") (List.mem_of_getElem? (i := 3) rfl)) (fun _ h9 => h9) rfl dX9_number_16 ?_
                refine lv_aload_n hx hb dX9_number_19 rfl (lv_at hl 2 rfl) ?_
                refine va_get (D := (dC, dI)) (ci := 9) (v := .int x_51) (C := RX9) (T := TX9) (N := 4) hx hb hts iw_c_X9_number_1_X9 hown hK hP 0 rfl rfl 2 (by decide +kernel) (hts (.fieldLink RX9 22 "BuoyVote$Tape" "at" "I") (List.mem_of_getElem? (i := 1) rfl)) (fun _ h9 => h9) rfl dX9_number_20 ?_
                refine va_iald hx hb hK hP 1 0 rfl rfl (RG_in g_56 (by decide +kernel)) dX9_number_23 ?_
                refine lv_topi (fun x_60 ex_60 => ?_)
                replace hEX := hEX.trans (exl_eq ex_60)
                have g_61 : RG x_60 0 255 := AI_rd a_h0_0c ex_60
                refine lv_bipush (v := 48) hx hb dX9_number_24 kc_bipush_48 ?_
                refine lv_icmp_lt (tgt := 92) hx hb dX9_number_26 rfl (fun c_62 => ?_) (fun c_62 => ?_)
                · replace hEX := hEX.trans (if_pos c_62)
                  have g_63 : RG x_60 0 47 := RG_lt1 g_61 (RG_k 48 48 rfl) c_62 (by decide +kernel)
                  refine lv_iload_n hx hb dX9_number_92 rfl (lv_at hl 1 rfl) ?_
                  have hK9 := hK.sub (tys' := []) [] rfl
                  exact W.iret (v := x_49) hx hb hr (fun t ht hW => ⟨⟨x_49, x_51, rfl, (Or.inr ⟨(RG_w g_50 (by decide +kernel)), (RG_w g_56 (by decide +kernel)), (RG_w g_59 (by decide +kernel)), (RG_w g_58 (by decide +kernel)), (by have := q_25; have := q_53; show h0_f2.toInt + 1 ≤ x_51.toInt; omega), (hR.trans hEX).symm⟩), by rw [ht]; exact hP, va_K.moved hW.alike hK9, hD⟩, hS.F ht⟩) hS.2.2 dX9_number_93
                · replace hEX := hEX.trans (if_neg c_62)
                  have d_64 := Int32.not_lt.mp c_62
                  have g_65 : RG x_60 48 255 := RG_le2 (RG_k 48 48 rfl) g_61 d_64 (by decide +kernel)
                  refine lv_aload_n hx hb dX9_number_29 rfl (lv_at hl 2 rfl) ?_
                  as_aux_lemma =>
                  refine va_get (D := (dC, dI)) (ci := 9) (v := .ref h0_0) (C := RX9) (T := TX9) (N := 4) hx hb hts iw_c_X9_number_1_X9 hown hK hP 0 rfl rfl 0 (by decide +kernel) (hts (.fieldLink RX9 11 "BuoyVote$Tape" "bytes" "[I") (List.mem_of_getElem? (i := 3) rfl)) (fun _ h9 => h9) rfl dX9_number_30 ?_
                  refine lv_aload_n hx hb dX9_number_33 rfl (lv_at hl 2 rfl) ?_
                  refine va_get (D := (dC, dI)) (ci := 9) (v := .int x_51) (C := RX9) (T := TX9) (N := 4) hx hb hts iw_c_X9_number_1_X9 hown hK hP 0 rfl rfl 2 (by decide +kernel) (hts (.fieldLink RX9 22 "BuoyVote$Tape" "at" "I") (List.mem_of_getElem? (i := 1) rfl)) (fun _ h9 => h9) rfl dX9_number_34 ?_
                  refine va_iald hx hb hK hP 1 0 rfl rfl (RG_in g_56 (by decide +kernel)) dX9_number_37 ?_
                  refine lv_topi (fun x_66 ex_66 => ?_)
                  obtain rfl : x_60 = x_66 := (ex_66.trans ex_60.symm).symm
                  refine lv_bipush (v := 57) hx hb dX9_number_38 kc_bipush_57 ?_
                  refine lv_icmp_gt (tgt := 92) hx hb dX9_number_40 rfl (fun c_67 => ?_) (fun c_67 => ?_)
                  · replace hEX := hEX.trans (if_pos c_67)
                    have g_68 : RG x_60 58 255 := RG_lt2 (RG_k 57 57 rfl) g_65 c_67 (by decide +kernel)
                    refine lv_iload_n hx hb dX9_number_92 rfl (lv_at hl 1 rfl) ?_
                    have hK9 := hK.sub (tys' := []) [] rfl
                    exact W.iret (v := x_49) hx hb hr (fun t ht hW => ⟨⟨x_49, x_51, rfl, (Or.inr ⟨(RG_w g_50 (by decide +kernel)), (RG_w g_56 (by decide +kernel)), (RG_w g_59 (by decide +kernel)), (RG_w g_58 (by decide +kernel)), (by have := q_25; have := q_53; show h0_f2.toInt + 1 ≤ x_51.toInt; omega), (hR.trans hEX).symm⟩), by rw [ht]; exact hP, va_K.moved hW.alike hK9, hD⟩, hS.F ht⟩) hS.2.2 dX9_number_93
                  · replace hEX := hEX.trans (if_neg c_67)
                    have d_69 := Int32.not_lt.mp c_67
                    have g_70 : RG x_60 48 57 := RG_le1 g_65 (RG_k 57 57 rfl) d_69 (by decide +kernel)
                    refine lv_iload_n hx hb dX9_number_43 rfl (lv_at hl 0 rfl) ?_
                    as_aux_lemma =>
                    refine lv_iload_n hx hb dX9_number_44 rfl (lv_at hl 3 rfl) ?_
                    refine lv_icmp_lt (tgt := 50) hx hb dX9_number_45 rfl (fun c_71 => ?_) (fun c_71 => absurd c_71 (by decide +kernel))
                    refine lv_iload_n hx hb dX9_number_50 rfl (lv_at hl 0 rfl) ?_
                    refine lv_if_ne (tgt := 58) hx hb dX9_number_51 rfl (fun c_72 => ?_) (fun c_72 => absurd c_72 (by decide +kernel))
                    refine lv_iload_n hx hb dX9_number_58 rfl (lv_at hl 1 rfl) ?_
                    refine lv_bipush (v := 10) hx hb dX9_number_59 kc_bipush_10 ?_
                    refine lv_imul hx hb dX9_number_61 ?_
                    refine lv_topi (fun x_73 ex_73 => ?_)
                    replace hEX := hEX.trans (exl_eq ex_73)
                    have g_74 : RG x_73 0 990 := RG_mulc ex_73 (q := 10) rfl g_50 (by decide +kernel)
                    refine lv_aload_n hx hb dX9_number_62 rfl (lv_at hl 2 rfl) ?_
                    refine va_get (D := (dC, dI)) (ci := 9) (v := .ref h0_0) (C := RX9) (T := TX9) (N := 4) hx hb hts iw_c_X9_number_1_X9 hown hK hP 0 rfl rfl 0 (by decide +kernel) (hts (.fieldLink RX9 11 "BuoyVote$Tape" "bytes" "[I") (List.mem_of_getElem? (i := 3) rfl)) (fun _ h9 => h9) rfl dX9_number_63 ?_
                    refine lv_aload_n hx hb dX9_number_66 rfl (lv_at hl 2 rfl) ?_
                    refine va_get (D := (dC, dI)) (ci := 9) (v := .int x_51) (C := RX9) (T := TX9) (N := 4) hx hb hts iw_c_X9_number_1_X9 hown hK hP 0 rfl rfl 2 (by decide +kernel) (hts (.fieldLink RX9 22 "BuoyVote$Tape" "at" "I") (List.mem_of_getElem? (i := 1) rfl)) (fun _ h9 => h9) rfl dX9_number_67 ?_
                    as_aux_lemma =>
                    refine va_iald hx hb hK hP 1 0 rfl rfl (RG_in g_56 (by decide +kernel)) dX9_number_70 ?_
                    refine lv_topi (fun x_75 ex_75 => ?_)
                    obtain rfl : x_60 = x_75 := (ex_75.trans ex_60.symm).symm
                    refine lv_iadd hx hb dX9_number_71 ?_
                    refine lv_topi (fun x_76 ex_76 => ?_)
                    replace hEX := hEX.trans (exl_eq ex_76)
                    have g_77 : RG x_76 48 1047 := RG_add ex_76 g_74 g_70 (by decide +kernel)
                    refine lv_bipush (v := 48) hx hb dX9_number_72 kc_bipush_48 ?_
                    refine lv_isub hx hb dX9_number_74 ?_
                    refine lv_topi (fun x_78 ex_78 => ?_)
                    replace hEX := hEX.trans (exl_eq ex_78)
                    have g_79 : RG x_78 0 999 := RG_sub ex_78 g_77 (RG_k 48 48 rfl) (by decide +kernel)
                    refine lv_istore_n (lv' := [(2, .int x_78), (3, .int 2), (0, .ref h0), (1, .int 4)]) hx hb dX9_number_75 rfl hl (Nat.le_of_ble_eq_true rfl) rfl (fun ls hl => ?_)
                    refine lv_aload_n hx hb dX9_number_76 rfl (lv_at hl 2 rfl) ?_
                    as_aux_lemma =>
                    refine lv_dup hx hb dX9_number_77 rfl ?_
                    refine va_get (D := (dC, dI)) (ci := 9) (v := .int x_51) (C := RX9) (T := TX9) (N := 4) hx hb hts iw_c_X9_number_1_X9 hown hK hP 0 rfl rfl 2 (by decide +kernel) (hts (.fieldLink RX9 22 "BuoyVote$Tape" "at" "I") (List.mem_of_getElem? (i := 1) rfl)) (fun _ h9 => h9) rfl dX9_number_78 ?_
                    refine lv_iconst (v := 1) hx hb dX9_number_81 kc_iconst_1 ?_
                    refine lv_iadd hx hb dX9_number_82 ?_
                    refine lv_topi (fun x_80 ex_80 => ?_)
                    replace hEX := hEX.trans (exl_eq ex_80)
                    have g_81 : RG x_80 3 240 := RG_add ex_80 g_56 (RG_k 1 1 rfl) (by decide +kernel)
                    have q_82 : x_80.toInt = x_51.toInt + 1 := eq_add ex_80 g_56 (q := 1) rfl (by decide +kernel)
                    refine va_put (D := (dC, dI)) (ci := 9) (v := .int x_80) (ty := .int) (C := RX9) (T := TX9) (N := 4) hx hb hts iw_c_X9_number_1_X9 tyX9 tyX9_ok nmX9 hown hK hP hD hS 0 rfl rfl 2 (by decide +kernel) (hts (.fieldLink RX9 22 "BuoyVote$Tape" "at" "I") (List.mem_of_getElem? (i := 1) rfl)) (fun _ h9 => h9) rfl (by decide +kernel) rfl rfl (Nat.le_of_ble_eq_true rfl) dX9_number_83 (fun H locs hP hD hS => ?_)
                    have hP : va_P (dC, dI) vwCl (wd_c_X9_number_1 h0 h0_0 h0_f1 x_80 h0_f3 h0_0 h0_0k h0_0c) H := hP
                    have hD : va_D A (wd_c_X9_number_1 h0 h0_0 h0_f1 x_80 h0_f3 h0_0 h0_0k h0_0c) := hD
                    refine lv_iinc (v := 3) (lv' := [(3, .int 3), (2, .int x_78), (0, .ref h0), (1, .int 4)]) hx hb dX9_number_86 hl (k := 1) rfl (by decide +kernel) (Nat.le_of_ble_eq_true rfl) rfl (fun ls hl => ?_)
                    refine lv_goto (tgt := 4) hx hb dX9_number_89 rfl ?_
                    refine lv_aload_n hx hb dX9_number_4 rfl (lv_at hl 2 rfl) ?_
                    as_aux_lemma =>
                    refine va_get (D := (dC, dI)) (ci := 9) (v := .int x_80) (C := RX9) (T := TX9) (N := 4) hx hb hts iw_c_X9_number_1_X9 hown hK hP 0 rfl rfl 2 (by decide +kernel) (hts (.fieldLink RX9 22 "BuoyVote$Tape" "at" "I") (List.mem_of_getElem? (i := 1) rfl)) (fun _ h9 => h9) rfl dX9_number_5 ?_
                    refine lv_aload_n hx hb dX9_number_8 rfl (lv_at hl 2 rfl) ?_
                    refine va_get (D := (dC, dI)) (ci := 9) (v := .int h0_f1) (C := RX9) (T := TX9) (N := 4) hx hb hts iw_c_X9_number_1_X9 hown hK hP 0 rfl rfl 1 (by decide +kernel) (hts (.fieldLink RX9 19 "BuoyVote$Tape" "length" "I") (List.mem_of_getElem? (i := 2) rfl)) (fun _ h9 => h9) rfl dX9_number_9 ?_
                    refine lv_icmp_ge (tgt := 92) hx hb dX9_number_12 rfl (fun c_83 => ?_) (fun c_83 => ?_)
                    · replace hEX := hEX.trans (if_pos c_83)
                      refine lv_iload_n hx hb dX9_number_92 rfl (lv_at hl 1 rfl) ?_
                      have hK9 := hK.sub (tys' := []) [] rfl
                      exact W.iret (v := x_78) hx hb hr (fun t ht hW => ⟨⟨x_78, x_80, rfl, (Or.inr ⟨(RG_w g_79 (by decide +kernel)), (RG_w g_81 (by decide +kernel)), (RG_w g_59 (by decide +kernel)), (RG_w g_58 (by decide +kernel)), (by have := q_25; have := q_53; have := q_82; show h0_f2.toInt + 1 ≤ x_80.toInt; omega), (hR.trans hEX).symm⟩), by rw [ht]; exact hP, va_K.moved hW.alike hK9, hD⟩, hS.F ht⟩) hS.2.2 dX9_number_93
                    · replace hEX := hEX.trans (if_neg c_83)
                      have d_84 := Int32.not_le.mp c_83
                      have g_85 : RG x_80 3 239 := RG_lt1 g_81 g_59 d_84 (by decide +kernel)
                      have g_86 : RG x_51 2 238 := RG_addb ex_80 (q := 1) rfl g_56 g_85 (by decide +kernel)
                      have g_87 : RG x_23 1 237 := RG_addb ex_51 (q := 1) rfl g_57 g_86 (by decide +kernel)
                      have g_88 : RG h0_f2 0 236 := RG_addb ex_23 (q := 1) rfl g_58 g_87 (by decide +kernel)
                      have g_89 : RG h0_f1 4 240 := RG_lt2 g_81 g_59 d_84 (by decide +kernel)
                      refine lv_aload_n hx hb dX9_number_15 rfl (lv_at hl 2 rfl) ?_
                      as_aux_lemma =>
                      refine va_get (D := (dC, dI)) (ci := 9) (v := .ref h0_0) (C := RX9) (T := TX9) (N := 4) hx hb hts iw_c_X9_number_1_X9 hown hK hP 0 rfl rfl 0 (by decide +kernel) (hts (.fieldLink RX9 11 "BuoyVote$Tape" "bytes" "[I") (List.mem_of_getElem? (i := 3) rfl)) (fun _ h9 => h9) rfl dX9_number_16 ?_
                      refine lv_aload_n hx hb dX9_number_19 rfl (lv_at hl 2 rfl) ?_
                      refine va_get (D := (dC, dI)) (ci := 9) (v := .int x_80) (C := RX9) (T := TX9) (N := 4) hx hb hts iw_c_X9_number_1_X9 hown hK hP 0 rfl rfl 2 (by decide +kernel) (hts (.fieldLink RX9 22 "BuoyVote$Tape" "at" "I") (List.mem_of_getElem? (i := 1) rfl)) (fun _ h9 => h9) rfl dX9_number_20 ?_
                      refine va_iald hx hb hK hP 1 0 rfl rfl (RG_in g_85 (by decide +kernel)) dX9_number_23 ?_
                      refine lv_topi (fun x_90 ex_90 => ?_)
                      replace hEX := hEX.trans (exl_eq ex_90)
                      have g_91 : RG x_90 0 255 := AI_rd a_h0_0c ex_90
                      refine lv_bipush (v := 48) hx hb dX9_number_24 kc_bipush_48 ?_
                      refine lv_icmp_lt (tgt := 92) hx hb dX9_number_26 rfl (fun c_92 => ?_) (fun c_92 => ?_)
                      · replace hEX := hEX.trans (if_pos c_92)
                        have g_93 : RG x_90 0 47 := RG_lt1 g_91 (RG_k 48 48 rfl) c_92 (by decide +kernel)
                        refine lv_iload_n hx hb dX9_number_92 rfl (lv_at hl 1 rfl) ?_
                        have hK9 := hK.sub (tys' := []) [] rfl
                        exact W.iret (v := x_78) hx hb hr (fun t ht hW => ⟨⟨x_78, x_80, rfl, (Or.inr ⟨(RG_w g_79 (by decide +kernel)), (RG_w g_85 (by decide +kernel)), (RG_w g_89 (by decide +kernel)), (RG_w g_88 (by decide +kernel)), (by have := q_25; have := q_53; have := q_82; show h0_f2.toInt + 1 ≤ x_80.toInt; omega), (hR.trans hEX).symm⟩), by rw [ht]; exact hP, va_K.moved hW.alike hK9, hD⟩, hS.F ht⟩) hS.2.2 dX9_number_93
                      · replace hEX := hEX.trans (if_neg c_92)
                        have d_94 := Int32.not_lt.mp c_92
                        have g_95 : RG x_90 48 255 := RG_le2 (RG_k 48 48 rfl) g_91 d_94 (by decide +kernel)
                        refine lv_aload_n hx hb dX9_number_29 rfl (lv_at hl 2 rfl) ?_
                        as_aux_lemma =>
                        refine va_get (D := (dC, dI)) (ci := 9) (v := .ref h0_0) (C := RX9) (T := TX9) (N := 4) hx hb hts iw_c_X9_number_1_X9 hown hK hP 0 rfl rfl 0 (by decide +kernel) (hts (.fieldLink RX9 11 "BuoyVote$Tape" "bytes" "[I") (List.mem_of_getElem? (i := 3) rfl)) (fun _ h9 => h9) rfl dX9_number_30 ?_
                        refine lv_aload_n hx hb dX9_number_33 rfl (lv_at hl 2 rfl) ?_
                        refine va_get (D := (dC, dI)) (ci := 9) (v := .int x_80) (C := RX9) (T := TX9) (N := 4) hx hb hts iw_c_X9_number_1_X9 hown hK hP 0 rfl rfl 2 (by decide +kernel) (hts (.fieldLink RX9 22 "BuoyVote$Tape" "at" "I") (List.mem_of_getElem? (i := 1) rfl)) (fun _ h9 => h9) rfl dX9_number_34 ?_
                        refine va_iald hx hb hK hP 1 0 rfl rfl (RG_in g_85 (by decide +kernel)) dX9_number_37 ?_
                        refine lv_topi (fun x_96 ex_96 => ?_)
                        obtain rfl : x_90 = x_96 := (ex_96.trans ex_90.symm).symm
                        refine lv_bipush (v := 57) hx hb dX9_number_38 kc_bipush_57 ?_
                        refine lv_icmp_gt (tgt := 92) hx hb dX9_number_40 rfl (fun c_97 => ?_) (fun c_97 => ?_)
                        · replace hEX := hEX.trans (if_pos c_97)
                          have g_98 : RG x_90 58 255 := RG_lt2 (RG_k 57 57 rfl) g_95 c_97 (by decide +kernel)
                          refine lv_iload_n hx hb dX9_number_92 rfl (lv_at hl 1 rfl) ?_
                          have hK9 := hK.sub (tys' := []) [] rfl
                          exact W.iret (v := x_78) hx hb hr (fun t ht hW => ⟨⟨x_78, x_80, rfl, (Or.inr ⟨(RG_w g_79 (by decide +kernel)), (RG_w g_85 (by decide +kernel)), (RG_w g_89 (by decide +kernel)), (RG_w g_88 (by decide +kernel)), (by have := q_25; have := q_53; have := q_82; show h0_f2.toInt + 1 ≤ x_80.toInt; omega), (hR.trans hEX).symm⟩), by rw [ht]; exact hP, va_K.moved hW.alike hK9, hD⟩, hS.F ht⟩) hS.2.2 dX9_number_93
                        · replace hEX := hEX.trans (if_neg c_97)
                          have d_99 := Int32.not_lt.mp c_97
                          have g_100 : RG x_90 48 57 := RG_le1 g_95 (RG_k 57 57 rfl) d_99 (by decide +kernel)
                          refine lv_iload_n hx hb dX9_number_43 rfl (lv_at hl 0 rfl) ?_
                          as_aux_lemma =>
                          refine lv_iload_n hx hb dX9_number_44 rfl (lv_at hl 3 rfl) ?_
                          refine lv_icmp_lt (tgt := 50) hx hb dX9_number_45 rfl (fun c_101 => ?_) (fun c_101 => absurd c_101 (by decide +kernel))
                          refine lv_iload_n hx hb dX9_number_50 rfl (lv_at hl 0 rfl) ?_
                          refine lv_if_ne (tgt := 58) hx hb dX9_number_51 rfl (fun c_102 => ?_) (fun c_102 => absurd c_102 (by decide +kernel))
                          refine lv_iload_n hx hb dX9_number_58 rfl (lv_at hl 1 rfl) ?_
                          refine lv_bipush (v := 10) hx hb dX9_number_59 kc_bipush_10 ?_
                          refine lv_imul hx hb dX9_number_61 ?_
                          refine lv_topi (fun x_103 ex_103 => ?_)
                          replace hEX := hEX.trans (exl_eq ex_103)
                          have g_104 : RG x_103 0 9990 := RG_mulc ex_103 (q := 10) rfl g_79 (by decide +kernel)
                          refine lv_aload_n hx hb dX9_number_62 rfl (lv_at hl 2 rfl) ?_
                          refine va_get (D := (dC, dI)) (ci := 9) (v := .ref h0_0) (C := RX9) (T := TX9) (N := 4) hx hb hts iw_c_X9_number_1_X9 hown hK hP 0 rfl rfl 0 (by decide +kernel) (hts (.fieldLink RX9 11 "BuoyVote$Tape" "bytes" "[I") (List.mem_of_getElem? (i := 3) rfl)) (fun _ h9 => h9) rfl dX9_number_63 ?_
                          refine lv_aload_n hx hb dX9_number_66 rfl (lv_at hl 2 rfl) ?_
                          refine va_get (D := (dC, dI)) (ci := 9) (v := .int x_80) (C := RX9) (T := TX9) (N := 4) hx hb hts iw_c_X9_number_1_X9 hown hK hP 0 rfl rfl 2 (by decide +kernel) (hts (.fieldLink RX9 22 "BuoyVote$Tape" "at" "I") (List.mem_of_getElem? (i := 1) rfl)) (fun _ h9 => h9) rfl dX9_number_67 ?_
                          as_aux_lemma =>
                          refine va_iald hx hb hK hP 1 0 rfl rfl (RG_in g_85 (by decide +kernel)) dX9_number_70 ?_
                          refine lv_topi (fun x_105 ex_105 => ?_)
                          obtain rfl : x_90 = x_105 := (ex_105.trans ex_90.symm).symm
                          refine lv_iadd hx hb dX9_number_71 ?_
                          refine lv_topi (fun x_106 ex_106 => ?_)
                          replace hEX := hEX.trans (exl_eq ex_106)
                          have g_107 : RG x_106 48 10047 := RG_add ex_106 g_104 g_100 (by decide +kernel)
                          refine lv_bipush (v := 48) hx hb dX9_number_72 kc_bipush_48 ?_
                          refine lv_isub hx hb dX9_number_74 ?_
                          refine lv_topi (fun x_108 ex_108 => ?_)
                          replace hEX := hEX.trans (exl_eq ex_108)
                          have g_109 : RG x_108 0 9999 := RG_sub ex_108 g_107 (RG_k 48 48 rfl) (by decide +kernel)
                          refine lv_istore_n (lv' := [(2, .int x_108), (3, .int 3), (0, .ref h0), (1, .int 4)]) hx hb dX9_number_75 rfl hl (Nat.le_of_ble_eq_true rfl) rfl (fun ls hl => ?_)
                          refine lv_aload_n hx hb dX9_number_76 rfl (lv_at hl 2 rfl) ?_
                          as_aux_lemma =>
                          refine lv_dup hx hb dX9_number_77 rfl ?_
                          refine va_get (D := (dC, dI)) (ci := 9) (v := .int x_80) (C := RX9) (T := TX9) (N := 4) hx hb hts iw_c_X9_number_1_X9 hown hK hP 0 rfl rfl 2 (by decide +kernel) (hts (.fieldLink RX9 22 "BuoyVote$Tape" "at" "I") (List.mem_of_getElem? (i := 1) rfl)) (fun _ h9 => h9) rfl dX9_number_78 ?_
                          refine lv_iconst (v := 1) hx hb dX9_number_81 kc_iconst_1 ?_
                          refine lv_iadd hx hb dX9_number_82 ?_
                          refine lv_topi (fun x_110 ex_110 => ?_)
                          replace hEX := hEX.trans (exl_eq ex_110)
                          have g_111 : RG x_110 4 240 := RG_add ex_110 g_85 (RG_k 1 1 rfl) (by decide +kernel)
                          have q_112 : x_110.toInt = x_80.toInt + 1 := eq_add ex_110 g_85 (q := 1) rfl (by decide +kernel)
                          refine va_put (D := (dC, dI)) (ci := 9) (v := .int x_110) (ty := .int) (C := RX9) (T := TX9) (N := 4) hx hb hts iw_c_X9_number_1_X9 tyX9 tyX9_ok nmX9 hown hK hP hD hS 0 rfl rfl 2 (by decide +kernel) (hts (.fieldLink RX9 22 "BuoyVote$Tape" "at" "I") (List.mem_of_getElem? (i := 1) rfl)) (fun _ h9 => h9) rfl (by decide +kernel) rfl rfl (Nat.le_of_ble_eq_true rfl) dX9_number_83 (fun H locs hP hD hS => ?_)
                          have hP : va_P (dC, dI) vwCl (wd_c_X9_number_1 h0 h0_0 h0_f1 x_110 h0_f3 h0_0 h0_0k h0_0c) H := hP
                          have hD : va_D A (wd_c_X9_number_1 h0 h0_0 h0_f1 x_110 h0_f3 h0_0 h0_0k h0_0c) := hD
                          refine lv_iinc (v := 4) (lv' := [(3, .int 4), (2, .int x_108), (0, .ref h0), (1, .int 4)]) hx hb dX9_number_86 hl (k := 1) rfl (by decide +kernel) (Nat.le_of_ble_eq_true rfl) rfl (fun ls hl => ?_)
                          refine lv_goto (tgt := 4) hx hb dX9_number_89 rfl ?_
                          refine lv_aload_n hx hb dX9_number_4 rfl (lv_at hl 2 rfl) ?_
                          as_aux_lemma =>
                          refine va_get (D := (dC, dI)) (ci := 9) (v := .int x_110) (C := RX9) (T := TX9) (N := 4) hx hb hts iw_c_X9_number_1_X9 hown hK hP 0 rfl rfl 2 (by decide +kernel) (hts (.fieldLink RX9 22 "BuoyVote$Tape" "at" "I") (List.mem_of_getElem? (i := 1) rfl)) (fun _ h9 => h9) rfl dX9_number_5 ?_
                          refine lv_aload_n hx hb dX9_number_8 rfl (lv_at hl 2 rfl) ?_
                          refine va_get (D := (dC, dI)) (ci := 9) (v := .int h0_f1) (C := RX9) (T := TX9) (N := 4) hx hb hts iw_c_X9_number_1_X9 hown hK hP 0 rfl rfl 1 (by decide +kernel) (hts (.fieldLink RX9 19 "BuoyVote$Tape" "length" "I") (List.mem_of_getElem? (i := 2) rfl)) (fun _ h9 => h9) rfl dX9_number_9 ?_
                          refine lv_icmp_ge (tgt := 92) hx hb dX9_number_12 rfl (fun c_113 => ?_) (fun c_113 => ?_)
                          · replace hEX := hEX.trans (if_pos c_113)
                            refine lv_iload_n hx hb dX9_number_92 rfl (lv_at hl 1 rfl) ?_
                            have hK9 := hK.sub (tys' := []) [] rfl
                            exact W.iret (v := x_108) hx hb hr (fun t ht hW => ⟨⟨x_108, x_110, rfl, (Or.inr ⟨g_109, (RG_w g_111 (by decide +kernel)), (RG_w g_89 (by decide +kernel)), (RG_w g_88 (by decide +kernel)), (by have := q_25; have := q_53; have := q_82; have := q_112; show h0_f2.toInt + 1 ≤ x_110.toInt; omega), (hR.trans hEX).symm⟩), by rw [ht]; exact hP, va_K.moved hW.alike hK9, hD⟩, hS.F ht⟩) hS.2.2 dX9_number_93
                          · replace hEX := hEX.trans (if_neg c_113)
                            have d_114 := Int32.not_le.mp c_113
                            have g_115 : RG x_110 4 239 := RG_lt1 g_111 g_89 d_114 (by decide +kernel)
                            have g_116 : RG x_80 3 238 := RG_addb ex_110 (q := 1) rfl g_85 g_115 (by decide +kernel)
                            have g_117 : RG x_51 2 237 := RG_addb ex_80 (q := 1) rfl g_86 g_116 (by decide +kernel)
                            have g_118 : RG x_23 1 236 := RG_addb ex_51 (q := 1) rfl g_87 g_117 (by decide +kernel)
                            have g_119 : RG h0_f2 0 235 := RG_addb ex_23 (q := 1) rfl g_88 g_118 (by decide +kernel)
                            have g_120 : RG h0_f1 5 240 := RG_lt2 g_111 g_89 d_114 (by decide +kernel)
                            refine lv_aload_n hx hb dX9_number_15 rfl (lv_at hl 2 rfl) ?_
                            as_aux_lemma =>
                            refine va_get (D := (dC, dI)) (ci := 9) (v := .ref h0_0) (C := RX9) (T := TX9) (N := 4) hx hb hts iw_c_X9_number_1_X9 hown hK hP 0 rfl rfl 0 (by decide +kernel) (hts (.fieldLink RX9 11 "BuoyVote$Tape" "bytes" "[I") (List.mem_of_getElem? (i := 3) rfl)) (fun _ h9 => h9) rfl dX9_number_16 ?_
                            refine lv_aload_n hx hb dX9_number_19 rfl (lv_at hl 2 rfl) ?_
                            refine va_get (D := (dC, dI)) (ci := 9) (v := .int x_110) (C := RX9) (T := TX9) (N := 4) hx hb hts iw_c_X9_number_1_X9 hown hK hP 0 rfl rfl 2 (by decide +kernel) (hts (.fieldLink RX9 22 "BuoyVote$Tape" "at" "I") (List.mem_of_getElem? (i := 1) rfl)) (fun _ h9 => h9) rfl dX9_number_20 ?_
                            refine va_iald hx hb hK hP 1 0 rfl rfl (RG_in g_115 (by decide +kernel)) dX9_number_23 ?_
                            refine lv_topi (fun x_121 ex_121 => ?_)
                            replace hEX := hEX.trans (exl_eq ex_121)
                            have g_122 : RG x_121 0 255 := AI_rd a_h0_0c ex_121
                            refine lv_bipush (v := 48) hx hb dX9_number_24 kc_bipush_48 ?_
                            refine lv_icmp_lt (tgt := 92) hx hb dX9_number_26 rfl (fun c_123 => ?_) (fun c_123 => ?_)
                            · replace hEX := hEX.trans (if_pos c_123)
                              have g_124 : RG x_121 0 47 := RG_lt1 g_122 (RG_k 48 48 rfl) c_123 (by decide +kernel)
                              refine lv_iload_n hx hb dX9_number_92 rfl (lv_at hl 1 rfl) ?_
                              have hK9 := hK.sub (tys' := []) [] rfl
                              exact W.iret (v := x_108) hx hb hr (fun t ht hW => ⟨⟨x_108, x_110, rfl, (Or.inr ⟨g_109, (RG_w g_115 (by decide +kernel)), (RG_w g_120 (by decide +kernel)), (RG_w g_119 (by decide +kernel)), (by have := q_25; have := q_53; have := q_82; have := q_112; show h0_f2.toInt + 1 ≤ x_110.toInt; omega), (hR.trans hEX).symm⟩), by rw [ht]; exact hP, va_K.moved hW.alike hK9, hD⟩, hS.F ht⟩) hS.2.2 dX9_number_93
                            · replace hEX := hEX.trans (if_neg c_123)
                              have d_125 := Int32.not_lt.mp c_123
                              have g_126 : RG x_121 48 255 := RG_le2 (RG_k 48 48 rfl) g_122 d_125 (by decide +kernel)
                              refine lv_aload_n hx hb dX9_number_29 rfl (lv_at hl 2 rfl) ?_
                              as_aux_lemma =>
                              refine va_get (D := (dC, dI)) (ci := 9) (v := .ref h0_0) (C := RX9) (T := TX9) (N := 4) hx hb hts iw_c_X9_number_1_X9 hown hK hP 0 rfl rfl 0 (by decide +kernel) (hts (.fieldLink RX9 11 "BuoyVote$Tape" "bytes" "[I") (List.mem_of_getElem? (i := 3) rfl)) (fun _ h9 => h9) rfl dX9_number_30 ?_
                              refine lv_aload_n hx hb dX9_number_33 rfl (lv_at hl 2 rfl) ?_
                              refine va_get (D := (dC, dI)) (ci := 9) (v := .int x_110) (C := RX9) (T := TX9) (N := 4) hx hb hts iw_c_X9_number_1_X9 hown hK hP 0 rfl rfl 2 (by decide +kernel) (hts (.fieldLink RX9 22 "BuoyVote$Tape" "at" "I") (List.mem_of_getElem? (i := 1) rfl)) (fun _ h9 => h9) rfl dX9_number_34 ?_
                              refine va_iald hx hb hK hP 1 0 rfl rfl (RG_in g_115 (by decide +kernel)) dX9_number_37 ?_
                              refine lv_topi (fun x_127 ex_127 => ?_)
                              obtain rfl : x_121 = x_127 := (ex_127.trans ex_121.symm).symm
                              refine lv_bipush (v := 57) hx hb dX9_number_38 kc_bipush_57 ?_
                              refine lv_icmp_gt (tgt := 92) hx hb dX9_number_40 rfl (fun c_128 => ?_) (fun c_128 => ?_)
                              · replace hEX := hEX.trans (if_pos c_128)
                                have g_129 : RG x_121 58 255 := RG_lt2 (RG_k 57 57 rfl) g_126 c_128 (by decide +kernel)
                                refine lv_iload_n hx hb dX9_number_92 rfl (lv_at hl 1 rfl) ?_
                                have hK9 := hK.sub (tys' := []) [] rfl
                                exact W.iret (v := x_108) hx hb hr (fun t ht hW => ⟨⟨x_108, x_110, rfl, (Or.inr ⟨g_109, (RG_w g_115 (by decide +kernel)), (RG_w g_120 (by decide +kernel)), (RG_w g_119 (by decide +kernel)), (by have := q_25; have := q_53; have := q_82; have := q_112; show h0_f2.toInt + 1 ≤ x_110.toInt; omega), (hR.trans hEX).symm⟩), by rw [ht]; exact hP, va_K.moved hW.alike hK9, hD⟩, hS.F ht⟩) hS.2.2 dX9_number_93
                              · replace hEX := hEX.trans (if_neg c_128)
                                have d_130 := Int32.not_lt.mp c_128
                                have g_131 : RG x_121 48 57 := RG_le1 g_126 (RG_k 57 57 rfl) d_130 (by decide +kernel)
                                refine lv_iload_n hx hb dX9_number_43 rfl (lv_at hl 0 rfl) ?_
                                as_aux_lemma =>
                                refine lv_iload_n hx hb dX9_number_44 rfl (lv_at hl 3 rfl) ?_
                                refine lv_icmp_lt (tgt := 50) hx hb dX9_number_45 rfl (fun c_132 => absurd c_132 (by decide +kernel)) (fun c_132 => ?_)
                                refine lv_iconst (v := (-1)) hx hb dX9_number_48 kc_iconst_m1 ?_
                                have hK9 := hK.sub (tys' := []) [] rfl
                                exact W.iret (v := (-1)) hx hb hr (fun t ht hW => ⟨⟨(-1), x_110, rfl, (Or.inl ⟨rfl, (RG_w g_115 (by decide +kernel)), (by have := q_25; have := q_53; have := q_82; have := q_112; show h0_f2.toInt + 0 ≤ x_110.toInt; omega), (hR.trans hEX).symm⟩), by rw [ht]; exact hP, va_K.moved hW.alike hK9, hD⟩, hS.F ht⟩) hS.2.2 dX9_number_49
noncomputable def wd_c_X4_emit (a0 : Nat) (a1 : Nat) (a2 : Int32) (a3 : Nat) (a4 : Nat) (a5 : ClassId) (a6 : Nat → Int32) : va_W := [(a0, .inr (4, [.ref a1, .int a2, .ref a3])), (a4, .inl (a5, 240, .inl a6))]
noncomputable def wf_c_X4_emit : List Cond := List.cons (.code yX4_emit cX4_emit 2 none) (@HAppend.hAppend (List Cond) (List Cond) (List Cond) _ [.fieldLink RX4 20 "BuoyVote$Law" "length" "I", .fieldLink RX4 11 "BuoyVote$Law" "code" "[I"] wsX40)
theorem iw_c_X4_emit_X4 : ∀ w ∈ wsX40, w ∈ wf_c_X4_emit := fun w h => List.mem_cons_of_mem _ (List.mem_append_right _ h)
set_option maxHeartbeats 4000000 in
set_option maxRecDepth 100000 in
theorem c_X4_emit (l : Launch) (dC : Nat → ClassId) (dI : Nat → Nat → Nat) (sz : Nat) (h0 : Nat) (p1 : Int32) (h0_0 : Nat) (h0_f1 : Int32) (h0_2 : Nat) (h0_0k : ClassId) (h0_0c : Nat → Int32) (g_h0_f1 : RG h0_f1 0 240) : Met l yX4_emit wf_c_X4_emit ({ frames := 0, cells := 0, slots := 0, locals := 0 }) (va_Pc [.ref h0, .int p1] (fun U => U.heap.size = sz ∧ va_P (dC, dI) vwCl (wd_c_X4_emit h0 h0_0 h0_f1 h0_2 h0_0 h0_0k h0_0c) U.heap ∧ va_K (dC, dI) vwCl [(h0_0k, .int)] U ∧ va_D (fun _ => True) (wd_c_X4_emit h0 h0_0 h0_f1 h0_2 h0_0 h0_0k h0_0c))) (va_Qv (fun (u : (Int32) × (Nat → Int32)) => (RG u.1 1 240 ∧ (u.1, u.2) = fx_c_X4_emit p1 h0_f1 h0_0c)) (fun (u : (Int32) × (Nat → Int32)) t => va_P (dC, dI) vwCl (wd_c_X4_emit h0 h0_0 (u.1) h0_2 h0_0 h0_0k (u.2)) t.heap ∧ va_K (dC, dI) vwCl [] t ∧ va_D (va_A (wd_c_X4_emit h0 h0_0 h0_f1 h0_2 h0_0 h0_0k h0_0c) sz) (wd_c_X4_emit h0 h0_0 (u.1) h0_2 h0_0 h0_0k (u.2))) (va_A (wd_c_X4_emit h0 h0_0 h0_f1 h0_2 h0_0 h0_0k h0_0c) sz)) 0 0 (va_A (wd_c_X4_emit h0 h0_0 h0_f1 h0_2 h0_0 h0_0k h0_0c) sz) := by
  refine Met.ofW (cc := cX4_emit) (maxL := 2) (ret := none) (by decide +kernel) rfl ?_
  intro p e s m args below meth c s₁ B hml hv
  obtain ⟨rfl, hsz, hP, hK, hD0⟩ := hv
  have hx := B.exec
  have hb := B.bytes
  have hr := B.returns
  have hts := atoms_spec (ws := wf_c_X4_emit) B.pre
  have hown : s.vm.findClass RX4 = some m.cls := findClass_of_methodNamed B.named
  have hlocks := B.notSynchronized
  subst hsz
  have hD := hD0.self (sz := s.heap.size)
  generalize hAe : va_A (wd_c_X4_emit h0 h0_0 h0_f1 h0_2 h0_0 h0_0k h0_0c) s.heap.size = A at hD ⊢
  have hA : ∀ q : Nat, s.heap.size ≤ q → A q := fun q h => by rw [← hAe]; exact Or.inr h
  have hP : va_P (dC, dI) vwCl (wd_c_X4_emit h0 h0_0 h0_f1 h0_2 h0_0 h0_0k h0_0c) s.heap := hP
  have hl := lv_entry ([.ref h0, .int p1]) (n := 2) (Nat.le_of_ble_eq_true rfl)
  rw [lg_entry_eq]
  generalize (lg_sl ([.ref h0, .int p1]) ++ List.replicate (2 - (lg_sl ([.ref h0, .int p1])).length) Slot.unset).toArray = ls at hl ⊢
  have hl : lv_has ls 2 [(0, .ref h0), (1, .int p1)] := hl
  obtain ⟨H, hHe⟩ : ∃ H : Heap, s.heap = H := ⟨_, rfl⟩
  have hS : va_S A s.heap H [] := by rw [hHe]; exact va_S.rf
  have hP : va_P (dC, dI) vwCl (wd_c_X4_emit h0 h0_0 h0_f1 h0_2 h0_0 h0_0k h0_0c) H := by rw [← hHe]; exact hP
  rw [hHe]
  obtain ⟨RES, hR⟩ : ∃ z, fx_c_X4_emit p1 h0_f1 h0_0c = z := ⟨_, rfl⟩
  have hEX : RES = fx_c_X4_emit p1 h0_f1 h0_0c := hR.symm
  refine lv_aload_n hx hb dX4_emit_0 rfl (lv_at hl 0 rfl) ?_
  as_aux_lemma =>
  refine va_get (D := (dC, dI)) (ci := 4) (v := .int h0_f1) (C := RX4) (T := TX4) (N := 3) hx hb hts iw_c_X4_emit_X4 hown hK hP 0 rfl rfl 1 (by decide +kernel) (hts (.fieldLink RX4 20 "BuoyVote$Law" "length" "I") (List.mem_of_getElem? (i := 1) rfl)) (fun _ h9 => h9) rfl dX4_emit_1 ?_
  refine lv_aload_n hx hb dX4_emit_4 rfl (lv_at hl 0 rfl) ?_
  refine va_get (D := (dC, dI)) (ci := 4) (v := .ref h0_0) (C := RX4) (T := TX4) (N := 3) hx hb hts iw_c_X4_emit_X4 hown hK hP 0 rfl rfl 0 (by decide +kernel) (hts (.fieldLink RX4 11 "BuoyVote$Law" "code" "[I") (List.mem_of_getElem? (i := 2) rfl)) (fun _ h9 => h9) rfl dX4_emit_5 ?_
  refine va_alen (v := 240) hx hb hK hP 1 0 rfl rfl rfl dX4_emit_8 ?_
  refine lv_icmp_ge (tgt := 32) hx hb dX4_emit_9 rfl (fun c_1 => ?_) (fun c_1 => ?_)
  · replace hEX := hEX.trans (if_pos c_1)
    have g_2 : RG h0_f1 240 240 := RG_le2 (RG_k 240 240 rfl) g_h0_f1 c_1 (by decide +kernel)
    have hK9 := hK.sub (tys' := []) [] rfl
    exact W.vret hx hb hr (fun t ht hW => ⟨⟨(h0_f1, h0_0c), rfl, ⟨(RG_w g_2 (by decide +kernel)), (hR.trans hEX).symm⟩, by rw [ht]; exact hP, va_K.moved hW.alike hK9, hD⟩, hS.F ht⟩) hS.2.2 dX4_emit_32
  · replace hEX := hEX.trans (if_neg c_1)
    have d_3 := Int32.not_le.mp c_1
    have g_4 : RG h0_f1 0 239 := RG_lt1 g_h0_f1 (RG_k 240 240 rfl) d_3 (by decide +kernel)
    refine lv_aload_n hx hb dX4_emit_12 rfl (lv_at hl 0 rfl) ?_
    refine va_get (D := (dC, dI)) (ci := 4) (v := .ref h0_0) (C := RX4) (T := TX4) (N := 3) hx hb hts iw_c_X4_emit_X4 hown hK hP 0 rfl rfl 0 (by decide +kernel) (hts (.fieldLink RX4 11 "BuoyVote$Law" "code" "[I") (List.mem_of_getElem? (i := 2) rfl)) (fun _ h9 => h9) rfl dX4_emit_13 ?_
    as_aux_lemma =>
    refine lv_aload_n hx hb dX4_emit_16 rfl (lv_at hl 0 rfl) ?_
    refine va_get (D := (dC, dI)) (ci := 4) (v := .int h0_f1) (C := RX4) (T := TX4) (N := 3) hx hb hts iw_c_X4_emit_X4 hown hK hP 0 rfl rfl 1 (by decide +kernel) (hts (.fieldLink RX4 20 "BuoyVote$Law" "length" "I") (List.mem_of_getElem? (i := 1) rfl)) (fun _ h9 => h9) rfl dX4_emit_17 ?_
    refine lv_iload_n hx hb dX4_emit_20 rfl (lv_at hl 1 rfl) ?_
    refine va_iast hx hb hK hP hD hS 1 0 rfl rfl (RG_in g_4 (by decide +kernel)) dX4_emit_21 (fun H locs hP hD hS => ?_)
    have hP : va_P (dC, dI) vwCl (wd_c_X4_emit h0 h0_0 h0_f1 h0_2 h0_0 h0_0k (upd h0_0c (h0_f1 : Int32).toNatClampNeg p1)) H := hP
    have hD : va_D A (wd_c_X4_emit h0 h0_0 h0_f1 h0_2 h0_0 h0_0k (upd h0_0c (h0_f1 : Int32).toNatClampNeg p1)) := hD
    have l_6 : (upd h0_0c (h0_f1 : Int32).toNatClampNeg p1) (h0_f1 : Int32).toNatClampNeg = p1 := pk_us
    generalize huw_5 : (upd h0_0c (h0_f1 : Int32).toNatClampNeg p1) = w_5 at hP hD l_6
    replace hEX := hEX.trans (exl_eq huw_5.symm)
    have hP : va_P (dC, dI) vwCl (wd_c_X4_emit h0 h0_0 h0_f1 h0_2 h0_0 h0_0k w_5) H := hP
    have hD : va_D A (wd_c_X4_emit h0 h0_0 h0_f1 h0_2 h0_0 h0_0k w_5) := hD
    refine lv_aload_n hx hb dX4_emit_22 rfl (lv_at hl 0 rfl) ?_
    refine lv_dup hx hb dX4_emit_23 rfl ?_
    refine va_get (D := (dC, dI)) (ci := 4) (v := .int h0_f1) (C := RX4) (T := TX4) (N := 3) hx hb hts iw_c_X4_emit_X4 hown hK hP 0 rfl rfl 1 (by decide +kernel) (hts (.fieldLink RX4 20 "BuoyVote$Law" "length" "I") (List.mem_of_getElem? (i := 1) rfl)) (fun _ h9 => h9) rfl dX4_emit_24 ?_
    as_aux_lemma =>
    refine lv_iconst (v := 1) hx hb dX4_emit_27 kc_iconst_1 ?_
    refine lv_iadd hx hb dX4_emit_28 ?_
    refine lv_topi (fun x_7 ex_7 => ?_)
    replace hEX := hEX.trans (exl_eq ex_7)
    have g_8 : RG x_7 1 240 := RG_add ex_7 g_4 (RG_k 1 1 rfl) (by decide +kernel)
    refine va_put (D := (dC, dI)) (ci := 4) (v := .int x_7) (ty := .int) (C := RX4) (T := TX4) (N := 3) hx hb hts iw_c_X4_emit_X4 tyX4 tyX4_ok nmX4 hown hK hP hD hS 0 rfl rfl 1 (by decide +kernel) (hts (.fieldLink RX4 20 "BuoyVote$Law" "length" "I") (List.mem_of_getElem? (i := 1) rfl)) (fun _ h9 => h9) rfl (by decide +kernel) rfl rfl (Nat.le_of_ble_eq_true rfl) dX4_emit_29 (fun H locs hP hD hS => ?_)
    have hP : va_P (dC, dI) vwCl (wd_c_X4_emit h0 h0_0 x_7 h0_2 h0_0 h0_0k w_5) H := hP
    have hD : va_D A (wd_c_X4_emit h0 h0_0 x_7 h0_2 h0_0 h0_0k w_5) := hD
    have hK9 := hK.sub (tys' := []) [] rfl
    exact W.vret hx hb hr (fun t ht hW => ⟨⟨(x_7, w_5), rfl, ⟨g_8, (hR.trans hEX).symm⟩, by rw [ht]; exact hP, va_K.moved hW.alike hK9, hD⟩, hS.F ht⟩) hS.2.2 dX4_emit_32
noncomputable def wd_c_X4_emit_1 (a0 : Nat) (a1 : Nat) (a2 : Int32) (a3 : Nat) (a4 : Nat) (a5 : ClassId) (a6 : Nat → Int32) : va_W := [(a0, .inr (4, [.ref a1, .int a2, .ref a3])), (a4, .inl (a5, 240, .inl a6))]
noncomputable def wf_c_X4_emit_1 : List Cond := List.cons (.code yX4_emit cX4_emit 2 none) (@HAppend.hAppend (List Cond) (List Cond) (List Cond) _ [.fieldLink RX4 20 "BuoyVote$Law" "length" "I", .fieldLink RX4 11 "BuoyVote$Law" "code" "[I"] wsX40)
theorem iw_c_X4_emit_1_X4 : ∀ w ∈ wsX40, w ∈ wf_c_X4_emit_1 := fun w h => List.mem_cons_of_mem _ (List.mem_append_right _ h)
set_option maxHeartbeats 4000000 in
set_option maxRecDepth 100000 in
theorem c_X4_emit_1 (l : Launch) (dC : Nat → ClassId) (dI : Nat → Nat → Nat) (sz : Nat) (h0 : Nat) (p1 : Int32) (h0_0 : Nat) (h0_f1 : Int32) (h0_2 : Nat) (h0_0k : ClassId) (h0_0c : Nat → Int32) (g_p1 : RG p1 (-1) 2147483647) (g_h0_f1 : RG h0_f1 0 240) : Met l yX4_emit wf_c_X4_emit_1 ({ frames := 0, cells := 0, slots := 0, locals := 0 }) (va_Pc [.ref h0, .int p1] (fun U => U.heap.size = sz ∧ va_P (dC, dI) vwCl (wd_c_X4_emit_1 h0 h0_0 h0_f1 h0_2 h0_0 h0_0k h0_0c) U.heap ∧ va_K (dC, dI) vwCl [(h0_0k, .int)] U ∧ va_D (fun _ => True) (wd_c_X4_emit_1 h0 h0_0 h0_f1 h0_2 h0_0 h0_0k h0_0c))) (va_Qv (fun (u : (Int32) × (Nat → Int32)) => (RG u.1 1 240 ∧ (u.1, u.2) = fx_c_X4_emit_1 p1 h0_f1 h0_0c)) (fun (u : (Int32) × (Nat → Int32)) t => va_P (dC, dI) vwCl (wd_c_X4_emit_1 h0 h0_0 (u.1) h0_2 h0_0 h0_0k (u.2)) t.heap ∧ va_K (dC, dI) vwCl [] t ∧ va_D (va_A (wd_c_X4_emit_1 h0 h0_0 h0_f1 h0_2 h0_0 h0_0k h0_0c) sz) (wd_c_X4_emit_1 h0 h0_0 (u.1) h0_2 h0_0 h0_0k (u.2))) (va_A (wd_c_X4_emit_1 h0 h0_0 h0_f1 h0_2 h0_0 h0_0k h0_0c) sz)) 0 0 (va_A (wd_c_X4_emit_1 h0 h0_0 h0_f1 h0_2 h0_0 h0_0k h0_0c) sz) := by
  refine Met.ofW (cc := cX4_emit) (maxL := 2) (ret := none) (by decide +kernel) rfl ?_
  intro p e s m args below meth c s₁ B hml hv
  obtain ⟨rfl, hsz, hP, hK, hD0⟩ := hv
  have hx := B.exec
  have hb := B.bytes
  have hr := B.returns
  have hts := atoms_spec (ws := wf_c_X4_emit_1) B.pre
  have hown : s.vm.findClass RX4 = some m.cls := findClass_of_methodNamed B.named
  have hlocks := B.notSynchronized
  subst hsz
  have hD := hD0.self (sz := s.heap.size)
  generalize hAe : va_A (wd_c_X4_emit_1 h0 h0_0 h0_f1 h0_2 h0_0 h0_0k h0_0c) s.heap.size = A at hD ⊢
  have hA : ∀ q : Nat, s.heap.size ≤ q → A q := fun q h => by rw [← hAe]; exact Or.inr h
  have hP : va_P (dC, dI) vwCl (wd_c_X4_emit_1 h0 h0_0 h0_f1 h0_2 h0_0 h0_0k h0_0c) s.heap := hP
  have hl := lv_entry ([.ref h0, .int p1]) (n := 2) (Nat.le_of_ble_eq_true rfl)
  rw [lg_entry_eq]
  generalize (lg_sl ([.ref h0, .int p1]) ++ List.replicate (2 - (lg_sl ([.ref h0, .int p1])).length) Slot.unset).toArray = ls at hl ⊢
  have hl : lv_has ls 2 [(0, .ref h0), (1, .int p1)] := hl
  obtain ⟨H, hHe⟩ : ∃ H : Heap, s.heap = H := ⟨_, rfl⟩
  have hS : va_S A s.heap H [] := by rw [hHe]; exact va_S.rf
  have hP : va_P (dC, dI) vwCl (wd_c_X4_emit_1 h0 h0_0 h0_f1 h0_2 h0_0 h0_0k h0_0c) H := by rw [← hHe]; exact hP
  rw [hHe]
  obtain ⟨RES, hR⟩ : ∃ z, fx_c_X4_emit_1 p1 h0_f1 h0_0c = z := ⟨_, rfl⟩
  have hEX : RES = fx_c_X4_emit_1 p1 h0_f1 h0_0c := hR.symm
  refine lv_aload_n hx hb dX4_emit_0 rfl (lv_at hl 0 rfl) ?_
  as_aux_lemma =>
  refine va_get (D := (dC, dI)) (ci := 4) (v := .int h0_f1) (C := RX4) (T := TX4) (N := 3) hx hb hts iw_c_X4_emit_1_X4 hown hK hP 0 rfl rfl 1 (by decide +kernel) (hts (.fieldLink RX4 20 "BuoyVote$Law" "length" "I") (List.mem_of_getElem? (i := 1) rfl)) (fun _ h9 => h9) rfl dX4_emit_1 ?_
  refine lv_aload_n hx hb dX4_emit_4 rfl (lv_at hl 0 rfl) ?_
  refine va_get (D := (dC, dI)) (ci := 4) (v := .ref h0_0) (C := RX4) (T := TX4) (N := 3) hx hb hts iw_c_X4_emit_1_X4 hown hK hP 0 rfl rfl 0 (by decide +kernel) (hts (.fieldLink RX4 11 "BuoyVote$Law" "code" "[I") (List.mem_of_getElem? (i := 2) rfl)) (fun _ h9 => h9) rfl dX4_emit_5 ?_
  refine va_alen (v := 240) hx hb hK hP 1 0 rfl rfl rfl dX4_emit_8 ?_
  refine lv_icmp_ge (tgt := 32) hx hb dX4_emit_9 rfl (fun c_1 => ?_) (fun c_1 => ?_)
  · replace hEX := hEX.trans (if_pos c_1)
    have g_2 : RG h0_f1 240 240 := RG_le2 (RG_k 240 240 rfl) g_h0_f1 c_1 (by decide +kernel)
    have hK9 := hK.sub (tys' := []) [] rfl
    exact W.vret hx hb hr (fun t ht hW => ⟨⟨(h0_f1, h0_0c), rfl, ⟨(RG_w g_2 (by decide +kernel)), (hR.trans hEX).symm⟩, by rw [ht]; exact hP, va_K.moved hW.alike hK9, hD⟩, hS.F ht⟩) hS.2.2 dX4_emit_32
  · replace hEX := hEX.trans (if_neg c_1)
    have d_3 := Int32.not_le.mp c_1
    have g_4 : RG h0_f1 0 239 := RG_lt1 g_h0_f1 (RG_k 240 240 rfl) d_3 (by decide +kernel)
    refine lv_aload_n hx hb dX4_emit_12 rfl (lv_at hl 0 rfl) ?_
    refine va_get (D := (dC, dI)) (ci := 4) (v := .ref h0_0) (C := RX4) (T := TX4) (N := 3) hx hb hts iw_c_X4_emit_1_X4 hown hK hP 0 rfl rfl 0 (by decide +kernel) (hts (.fieldLink RX4 11 "BuoyVote$Law" "code" "[I") (List.mem_of_getElem? (i := 2) rfl)) (fun _ h9 => h9) rfl dX4_emit_13 ?_
    as_aux_lemma =>
    refine lv_aload_n hx hb dX4_emit_16 rfl (lv_at hl 0 rfl) ?_
    refine va_get (D := (dC, dI)) (ci := 4) (v := .int h0_f1) (C := RX4) (T := TX4) (N := 3) hx hb hts iw_c_X4_emit_1_X4 hown hK hP 0 rfl rfl 1 (by decide +kernel) (hts (.fieldLink RX4 20 "BuoyVote$Law" "length" "I") (List.mem_of_getElem? (i := 1) rfl)) (fun _ h9 => h9) rfl dX4_emit_17 ?_
    refine lv_iload_n hx hb dX4_emit_20 rfl (lv_at hl 1 rfl) ?_
    refine va_iast hx hb hK hP hD hS 1 0 rfl rfl (RG_in g_4 (by decide +kernel)) dX4_emit_21 (fun H locs hP hD hS => ?_)
    have hP : va_P (dC, dI) vwCl (wd_c_X4_emit_1 h0 h0_0 h0_f1 h0_2 h0_0 h0_0k (upd h0_0c (h0_f1 : Int32).toNatClampNeg p1)) H := hP
    have hD : va_D A (wd_c_X4_emit_1 h0 h0_0 h0_f1 h0_2 h0_0 h0_0k (upd h0_0c (h0_f1 : Int32).toNatClampNeg p1)) := hD
    have l_6 : (upd h0_0c (h0_f1 : Int32).toNatClampNeg p1) (h0_f1 : Int32).toNatClampNeg = p1 := pk_us
    generalize huw_5 : (upd h0_0c (h0_f1 : Int32).toNatClampNeg p1) = w_5 at hP hD l_6
    replace hEX := hEX.trans (exl_eq huw_5.symm)
    have hP : va_P (dC, dI) vwCl (wd_c_X4_emit_1 h0 h0_0 h0_f1 h0_2 h0_0 h0_0k w_5) H := hP
    have hD : va_D A (wd_c_X4_emit_1 h0 h0_0 h0_f1 h0_2 h0_0 h0_0k w_5) := hD
    refine lv_aload_n hx hb dX4_emit_22 rfl (lv_at hl 0 rfl) ?_
    refine lv_dup hx hb dX4_emit_23 rfl ?_
    refine va_get (D := (dC, dI)) (ci := 4) (v := .int h0_f1) (C := RX4) (T := TX4) (N := 3) hx hb hts iw_c_X4_emit_1_X4 hown hK hP 0 rfl rfl 1 (by decide +kernel) (hts (.fieldLink RX4 20 "BuoyVote$Law" "length" "I") (List.mem_of_getElem? (i := 1) rfl)) (fun _ h9 => h9) rfl dX4_emit_24 ?_
    as_aux_lemma =>
    refine lv_iconst (v := 1) hx hb dX4_emit_27 kc_iconst_1 ?_
    refine lv_iadd hx hb dX4_emit_28 ?_
    refine lv_topi (fun x_7 ex_7 => ?_)
    replace hEX := hEX.trans (exl_eq ex_7)
    have g_8 : RG x_7 1 240 := RG_add ex_7 g_4 (RG_k 1 1 rfl) (by decide +kernel)
    refine va_put (D := (dC, dI)) (ci := 4) (v := .int x_7) (ty := .int) (C := RX4) (T := TX4) (N := 3) hx hb hts iw_c_X4_emit_1_X4 tyX4 tyX4_ok nmX4 hown hK hP hD hS 0 rfl rfl 1 (by decide +kernel) (hts (.fieldLink RX4 20 "BuoyVote$Law" "length" "I") (List.mem_of_getElem? (i := 1) rfl)) (fun _ h9 => h9) rfl (by decide +kernel) rfl rfl (Nat.le_of_ble_eq_true rfl) dX4_emit_29 (fun H locs hP hD hS => ?_)
    have hP : va_P (dC, dI) vwCl (wd_c_X4_emit_1 h0 h0_0 x_7 h0_2 h0_0 h0_0k w_5) H := hP
    have hD : va_D A (wd_c_X4_emit_1 h0 h0_0 x_7 h0_2 h0_0 h0_0k w_5) := hD
    have hK9 := hK.sub (tys' := []) [] rfl
    exact W.vret hx hb hr (fun t ht hW => ⟨⟨(x_7, w_5), rfl, ⟨g_8, (hR.trans hEX).symm⟩, by rw [ht]; exact hP, va_K.moved hW.alike hK9, hD⟩, hS.F ht⟩) hS.2.2 dX4_emit_32
noncomputable def wd_c_X4_readAtom_6 (a0 : Nat) (a1 : Nat) (a2 : Int32) (a3 : Int32) (a4 : Int32) (a5 : Nat) (a6 : ClassId) (a7 : Nat → Int32) (a8 : Nat) (a9 : Nat) (a10 : Int32) (a11 : Nat) (a12 : Nat) (a13 : ClassId) (a14 : Nat → Int32) : va_W := [(a0, .inr (9, [.ref a1, .int a2, .int a3, .int a4])), (a5, .inl (a6, 240, .inl a7)), (a8, .inr (4, [.ref a9, .int a10, .ref a11])), (a12, .inl (a13, 240, .inl a14))]
noncomputable def wf_c_X4_readAtom_6 : List Cond := List.cons (.code yX4_readAtom cX4_readAtom 6 none) (@HAppend.hAppend (List Cond) (List Cond) (List Cond) _ (@HAppend.hAppend (List Cond) (List Cond) (List Cond) _ [.methodLink RX4 41 yX9_peek, .instanceMethod yX9_peek, .selects RX9 yX9_peek yX9_peek, .initialized RX9, .code yX9_peek cX9_peek 1 (some .int), .fieldLink RX9 22 "BuoyVote$Tape" "at" "I", .fieldLink RX9 19 "BuoyVote$Tape" "length" "I", .fieldLink RX9 11 "BuoyVote$Tape" "bytes" "[I", .methodLink RX4 93 yJ0_indexOf_0f7a4, .instanceMethod yJ0_indexOf_0f7a4, .selects RJ0 yJ0_indexOf_0f7a4 yJ0_indexOf_0f7a4, .initialized RJ0, .code yJ0_indexOf_0f7a4 cJ0_indexOf_0f7a4 2 (some .int), .methodLink RJ0 633 yJ0_indexOf_7cf53, .instanceMethod yJ0_indexOf_7cf53, .selects RJ0 yJ0_indexOf_7cf53 yJ0_indexOf_7cf53, .code yJ0_indexOf_7cf53 cJ0_indexOf_7cf53 3 (some .int), .methodLink RJ0 492 yJ0_isLatin1_aae02, .instanceMethod yJ0_isLatin1_aae02, .selects RJ0 yJ0_isLatin1_aae02 yJ0_isLatin1_aae02, .code yJ0_isLatin1_aae02 cJ0_isLatin1_aae02 1 (some .boolean), .fieldLink RJ0 38 "java/lang/String" "COMPACT_STRINGS" "Z", .fieldLink RJ0 15 "java/lang/String" "coder" "B", .fieldLink RJ0 9 "java/lang/String" "value" "[B", .methodLink RJ0 505 yJ0_length_8abf5, .instanceMethod yJ0_length_8abf5, .selects RJ0 yJ0_length_8abf5 yJ0_length_8abf5, .code yJ0_length_8abf5 cJ0_length_8abf5 1 (some .int), .methodLink RJ0 335 yJ0_coder_7d493, .instanceMethod yJ0_coder_7d493, .selects RJ0 yJ0_coder_7d493 yJ0_coder_7d493, .code yJ0_coder_7d493 cJ0_coder_7d493 1 (some .byte), .methodLink RJ0 637 yJ1_indexOf_4cfef, .static yJ1_indexOf_4cfef, .initialized RJ1, .code yJ1_indexOf_4cfef cJ1_indexOf_4cfef 4 (some .int), .methodLink RJ1 88 yJ1_canEncode_9a6ad, .static yJ1_canEncode_9a6ad, .code yJ1_canEncode_9a6ad cJ1_canEncode_9a6ad 1 (some .boolean), .methodLink RJ1 92 Lib.Math.max.name, .static Lib.Math.max.name, .initialized "java/lang/Math", .code Lib.Math.max.name Lib.Math.max.code 2 (some .int), .methodLink RJ1 38 Lib.Math.min.name, .static Lib.Math.min.name, .code Lib.Math.min.name Lib.Math.min.code 2 (some .int), .methodLink RJ1 95 yJ1_indexOfChar_4cfef, .static yJ1_indexOfChar_4cfef, .code yJ1_indexOfChar_4cfef cJ1_indexOfChar_4cfef 6 (some .int), .methodLink RX4 99 yX9_number, .instanceMethod yX9_number, .selects RX9 yX9_number yX9_number, .code yX9_number cX9_number 4 (some .int), .methodLink RX4 82 yX9_refuseHere, .instanceMethod yX9_refuseHere, .selects RX9 yX9_refuseHere yX9_refuseHere, .code yX9_refuseHere cX9_refuseHere 1 none, .methodLink RX9 25 yX9_refuse, .instanceMethod yX9_refuse, .selects RX9 yX9_refuse yX9_refuse, .code yX9_refuse cX9_refuse 2 none, .fieldLink RX9 15 "BuoyVote$Tape" "wrong" "I", .methodLink RX4 79 yX9_skip, .instanceMethod yX9_skip, .selects RX9 yX9_skip yX9_skip, .code yX9_skip cX9_skip 1 none, .methodLink RX4 60 yX4_emit, .instanceMethod yX4_emit, .selects RX4 yX4_emit yX4_emit, .initialized RX4, .code yX4_emit cX4_emit 2 none, .fieldLink RX4 20 "BuoyVote$Law" "length" "I", .fieldLink RX4 11 "BuoyVote$Law" "code" "[I"] wsX90) wsX40)
theorem iw_c_X4_readAtom_6_X9 : ∀ w ∈ wsX90, w ∈ wf_c_X4_readAtom_6 := fun w h => List.mem_cons_of_mem _ (List.mem_append_left _ (List.mem_append_right _ h))
theorem iw_c_X4_readAtom_6_X4 : ∀ w ∈ wsX40, w ∈ wf_c_X4_readAtom_6 := fun w h => List.mem_cons_of_mem _ (List.mem_append_right _ h)
set_option maxRecDepth 20000 in
theorem gf_c_X4_readAtom_6_c_X4_emit_1 : GoodIn wf_c_X4_readAtom_6 (wsV RX4 60 RX4 yX4_emit wf_c_X4_emit_1) := goodIn_app (gi_l [67, 68, 69, 70] rfl rfl) (gi_cons (j := 71) rfl rfl (goodIn_app (gi_l [72, 73] rfl rfl) (goodIn_sub iw_c_X4_readAtom_6_X4 gw_X4)))
set_option maxRecDepth 20000 in
theorem gf_c_X4_readAtom_6_c_X9_number_1 : GoodIn wf_c_X4_readAtom_6 (wsV RX4 99 RX9 yX9_number wf_c_X9_number_1) := goodIn_app (gi_l [50, 51, 52, 4] rfl rfl) (gi_cons (j := 53) rfl rfl (goodIn_app (gi_l [6, 7, 8] rfl rfl) (goodIn_sub iw_c_X4_readAtom_6_X9 gw_X9)))
set_option maxRecDepth 20000 in
theorem gf_c_X4_readAtom_6_c_X9_refuseHere : GoodIn wf_c_X4_readAtom_6 (wsV RX4 82 RX9 yX9_refuseHere wf_c_X9_refuseHere) := goodIn_app (gi_l [54, 55, 56, 4] rfl rfl) (gi_cons (j := 57) rfl rfl (goodIn_app (gi_l [6, 58, 59, 60, 4, 61, 62] rfl rfl) (goodIn_sub iw_c_X4_readAtom_6_X9 gw_X9)))
set_option maxRecDepth 20000 in
theorem gf_c_X4_readAtom_6_c_X9_skip : GoodIn wf_c_X4_readAtom_6 (wsV RX4 79 RX9 yX9_skip wf_c_X9_skip) := goodIn_app (gi_l [63, 64, 65, 4] rfl rfl) (gi_cons (j := 66) rfl rfl (goodIn_app (gi_l [6] rfl rfl) (goodIn_sub iw_c_X4_readAtom_6_X9 gw_X9)))
set_option maxRecDepth 20000 in
theorem gf_c_X4_readAtom_6_c_X4_emit : GoodIn wf_c_X4_readAtom_6 (wsV RX4 60 RX4 yX4_emit wf_c_X4_emit) := goodIn_app (gi_l [67, 68, 69, 70] rfl rfl) (gi_cons (j := 71) rfl rfl (goodIn_app (gi_l [72, 73] rfl rfl) (goodIn_sub iw_c_X4_readAtom_6_X4 gw_X4)))
set_option maxRecDepth 20000 in
theorem gf_c_X4_readAtom_6_c_X9_peek : GoodIn wf_c_X4_readAtom_6 (wsV RX4 41 RX9 yX9_peek wf_c_X9_peek) := goodIn_app (gi_l [1, 2, 3, 4] rfl rfl) (gi_cons (j := 5) rfl rfl (goodIn_app (gi_l [6, 7, 8] rfl rfl) (goodIn_sub iw_c_X4_readAtom_6_X9 gw_X9)))
set_option maxRecDepth 20000 in
theorem gf_c_X4_readAtom_6_c_J0_indexOf_0f7a4_4 : GoodIn wf_c_X4_readAtom_6 (wsV RX4 93 RJ0 yJ0_indexOf_0f7a4 wf_c_J0_indexOf_0f7a4_4) := goodIn_app (gi_l [9, 10, 11, 12] rfl rfl) (gi_cons (j := 13) rfl rfl (gi_l [14, 15, 16, 12, 17, 18, 19, 20, 21, 22, 23, 24, 25, 26, 27, 28, 29, 30, 31, 32, 33, 34, 35, 36, 37, 38, 39, 40, 41, 42, 43, 44, 45, 46, 47, 48, 49] rfl rfl))
set_option maxHeartbeats 4000000 in
set_option maxRecDepth 100000 in
theorem c_X4_readAtom_6 (l : Launch) (dC : Nat → ClassId) (dI : Nat → Nat → Nat) (sz : Nat) (h0 : Nat) (h1 : Nat) (h1_0 : Nat) (h1_f1 : Int32) (h1_f2 : Int32) (h1_f3 : Int32) (h1_0k : ClassId) (h1_0c : Nat → Int32) (h0_0 : Nat) (h0_f1 : Int32) (h0_2 : Nat) (h0_0k : ClassId) (h0_0c : Nat → Int32) (ts4 : Nat) (tv4 : Nat) (g_h1_f1 : RG h1_f1 0 240) (g_h1_f2 : RG h1_f2 0 240) (g_h1_f3 : RG h1_f3 (-1) 240) (a_h1_0c : AI h1_0c 0 255) (g_h0_f1 : RG h0_f1 0 240) : Met l yX4_readAtom wf_c_X4_readAtom_6 ({ frames := 4, cells := 0, slots := 0, locals := 91 }) (va_Pc [.ref h0, .ref h1, .int 6] (fun U => U.heap.size = sz ∧ va_P (dC, dI) vwCl (wd_c_X4_readAtom_6 h1 h1_0 h1_f1 h1_f2 h1_f3 h1_0 h1_0k h1_0c h0 h0_0 h0_f1 h0_2 h0_0 h0_0k h0_0c) U.heap ∧ va_K (dC, dI) vwCl [(h1_0k, .int), (h0_0k, .int)] U ∧ va_D (fun _ => True) (wd_c_X4_readAtom_6 h1 h1_0 h1_f1 h1_f2 h1_f3 h1_0 h1_0k h1_0c h0 h0_0 h0_f1 h0_2 h0_0 h0_0k h0_0c) ∧ vk_R RX4 91 "vlrdph" ts4 U ∧ va_Z "java/lang/String" "COMPACT_STRINGS" "Z" (.int 1) (va_A (wd_c_X4_readAtom_6 h1 h1_0 h1_f1 h1_f2 h1_f3 h1_0 h1_0k h1_0c h0 h0_0 h0_f1 h0_2 h0_0 h0_0k h0_0c) sz) U U.heap ∧ va_OF "java/lang/String" "coder" "B" (.int 0) ts4 (va_A (wd_c_X4_readAtom_6 h1 h1_0 h1_f1 h1_f2 h1_f3 h1_0 h1_0k h1_0c h0 h0_0 h0_f1 h0_2 h0_0 h0_0k h0_0c) sz) U U.heap ∧ va_O "java/lang/String" ts4 (va_A (wd_c_X4_readAtom_6 h1 h1_0 h1_f1 h1_f2 h1_f3 h1_0 h1_0k h1_0c h0 h0_0 h0_f1 h0_2 h0_0 h0_0k h0_0c) sz) U U.heap ∧ va_OF "java/lang/String" "value" "[B" (.ref tv4) ts4 (va_A (wd_c_X4_readAtom_6 h1 h1_0 h1_f1 h1_f2 h1_f3 h1_0 h1_0k h1_0c h0 h0_0 h0_f1 h0_2 h0_0 h0_0k h0_0c) sz) U U.heap ∧ va_T .byte tv4 6 (fun j => .int ([118, 108, 114, 100, 112, 104].getD j 0)) (va_A (wd_c_X4_readAtom_6 h1 h1_0 h1_f1 h1_f2 h1_f3 h1_0 h1_0k h1_0c h0 h0_0 h0_f1 h0_2 h0_0 h0_0k h0_0c) sz) U U.heap)) (va_Qv (fun (u : (Int32) × (Int32) × (Int32) × (Nat → Int32)) => (RG u.1 0 240 ∧ RG u.2.1 (-1) 240 ∧ RG u.2.2.1 0 240 ∧ (u.1, u.2.1, u.2.2.1, u.2.2.2) = fx_c_X4_readAtom_6 h1_f1 h1_f2 h1_f3 h1_0c h0_f1 h0_0c)) (fun (u : (Int32) × (Int32) × (Int32) × (Nat → Int32)) t => va_P (dC, dI) vwCl (wd_c_X4_readAtom_6 h1 h1_0 h1_f1 (u.1) (u.2.1) h1_0 h1_0k h1_0c h0 h0_0 (u.2.2.1) h0_2 h0_0 h0_0k (u.2.2.2)) t.heap ∧ va_K (dC, dI) vwCl [] t ∧ va_D (va_A (wd_c_X4_readAtom_6 h1 h1_0 h1_f1 h1_f2 h1_f3 h1_0 h1_0k h1_0c h0 h0_0 h0_f1 h0_2 h0_0 h0_0k h0_0c) sz) (wd_c_X4_readAtom_6 h1 h1_0 h1_f1 (u.1) (u.2.1) h1_0 h1_0k h1_0c h0 h0_0 (u.2.2.1) h0_2 h0_0 h0_0k (u.2.2.2))) (va_A (wd_c_X4_readAtom_6 h1 h1_0 h1_f1 h1_f2 h1_f3 h1_0 h1_0k h1_0c h0 h0_0 h0_f1 h0_2 h0_0 h0_0k h0_0c) sz)) 0 0 (va_A (wd_c_X4_readAtom_6 h1 h1_0 h1_f1 h1_f2 h1_f3 h1_0 h1_0k h1_0c h0 h0_0 h0_f1 h0_2 h0_0 h0_0k h0_0c) sz) := by
  refine Met.ofW (cc := cX4_readAtom) (maxL := 6) (ret := none) (by decide +kernel) rfl ?_
  intro p e s m args below meth c s₁ B hml hv
  obtain ⟨rfl, hsz, hP, hK, hD0, hE_32, hE_10, hE_34, hE_33, hE_35, hE_36⟩ := hv
  have hx := B.exec
  have hb := B.bytes
  have hr := B.returns
  have hts := atoms_spec (ws := wf_c_X4_readAtom_6) B.pre
  have hown : s.vm.findClass RX4 = some m.cls := findClass_of_methodNamed B.named
  have hlocks := B.notSynchronized
  subst hsz
  have hD := hD0.self (sz := s.heap.size)
  generalize hAe : va_A (wd_c_X4_readAtom_6 h1 h1_0 h1_f1 h1_f2 h1_f3 h1_0 h1_0k h1_0c h0 h0_0 h0_f1 h0_2 h0_0 h0_0k h0_0c) s.heap.size = A at hD hE_10 hE_34 hE_33 hE_35 hE_36 ⊢
  have hA : ∀ q : Nat, s.heap.size ≤ q → A q := fun q h => by rw [← hAe]; exact Or.inr h
  have hP : va_P (dC, dI) vwCl (wd_c_X4_readAtom_6 h1 h1_0 h1_f1 h1_f2 h1_f3 h1_0 h1_0k h1_0c h0 h0_0 h0_f1 h0_2 h0_0 h0_0k h0_0c) s.heap := hP
  have hl := lv_entry ([.ref h0, .ref h1, .int 6]) (n := 6) (Nat.le_of_ble_eq_true rfl)
  rw [lg_entry_eq]
  generalize (lg_sl ([.ref h0, .ref h1, .int 6]) ++ List.replicate (6 - (lg_sl ([.ref h0, .ref h1, .int 6])).length) Slot.unset).toArray = ls at hl ⊢
  have hl : lv_has ls 6 [(0, .ref h0), (1, .ref h1), (2, .int 6)] := hl
  obtain ⟨H, hHe⟩ : ∃ H : Heap, s.heap = H := ⟨_, rfl⟩
  have hS : va_S A s.heap H [] := by rw [hHe]; exact va_S.rf
  have hP : va_P (dC, dI) vwCl (wd_c_X4_readAtom_6 h1 h1_0 h1_f1 h1_f2 h1_f3 h1_0 h1_0k h1_0c h0 h0_0 h0_f1 h0_2 h0_0 h0_0k h0_0c) H := by rw [← hHe]; exact hP
  rw [hHe]
  obtain ⟨RES, hR⟩ : ∃ z, fx_c_X4_readAtom_6 h1_f1 h1_f2 h1_f3 h1_0c h0_f1 h0_0c = z := ⟨_, rfl⟩
  have hEX : RES = fx_c_X4_readAtom_6 h1_f1 h1_f2 h1_f3 h1_0c h0_f1 h0_0c := hR.symm
  refine wj (fun G hG hU => ?_)
  as_aux_lemma =>
  have J65 : ∀ (j65_l5 : Int32) (j65_h1_f2 : Int32) (j65_h1_f3 : Int32) (g_h0_f1 : RG h0_f1 0 240) (g_h1_f1 : RG h1_f1 0 240) (g_h1_f2 : RG h1_f2 0 240) (g_h1_f3 : RG h1_f3 (-1) 240) (g_j65_h1_f2 : RG j65_h1_f2 0 240) (g_j65_h1_f3 : RG j65_h1_f3 (-1) 240) (g_j65_l5 : RG j65_l5 (-1) 9999) (hEX : RES = fx_c_X4_readAtom_6_p65 h0_f1 h0_0c j65_l5 j65_h1_f2 j65_h1_f3) (H : Heap) (locs : List Loc) (ls : Array Slot) (hP : va_P (dC, dI) vwCl (wd_c_X4_readAtom_6 h1 h1_0 h1_f1 j65_h1_f2 j65_h1_f3 h1_0 h1_0k h1_0c h0 h0_0 h0_f1 h0_2 h0_0 h0_0k h0_0c) H) (hD : va_D A (wd_c_X4_readAtom_6 h1 h1_0 h1_f1 j65_h1_f2 j65_h1_f3 h1_0 h1_0k h1_0c h0 h0_0 h0_f1 h0_2 h0_0 h0_0k h0_0c)) (hS : va_S A s.heap H locs) (hl : lv_has ls 6 [(5, .int j65_l5), (0, .ref h0)]), G H locs (F0 m 65 ls []) := by
    as_aux_lemma =>
    intro j65_l5 j65_h1_f2 j65_h1_f3 g_h0_f1 g_h1_f1 g_h1_f2 g_h1_f3 g_j65_h1_f2 g_j65_h1_f3 g_j65_l5 hEX H locs ls hP hD hS hl
    refine hG _ _ _ ?_
    refine lv_aload_n hx hb dX4_readAtom_65 rfl (lv_at hl 1 rfl) ?_
    refine lv_iload hx hb dX4_readAtom_66 (lv_at hl 0 rfl) ?_
    obtain ⟨hPc, hDc, hFc, hqc⟩ := cl_cut (wc := (wd_c_X4_emit_1 h0 h0_0 h0_f1 h0_2 h0_0 h0_0k h0_0c)) hP hD hS hA [2, 3] (by decide +kernel) rfl
    have hKc := hK.sub (tys' := [(h0_0k, .int)]) [1] rfl
    have hrv := va_recv hKc hPc (ci := 4) (q0 := 0) rfl rfl
    refine va_callv (va_runV (As := [.int j65_l5]) (rest := []) ⟨hx, hb, hml, hown, hts⟩ (c_X4_emit_1 l dC dI H.size h0 j65_l5 h0_0 h0_f1 h0_2 h0_0k h0_0c (RG_w g_j65_l5 (by decide +kernel)) g_h0_f1) (cwV 1 hts gf_c_X4_readAtom_6_c_X4_emit_1 rfl rfl rfl mdV_X4_emit ⟨Nat.le_of_ble_eq_true rfl, Nat.le_of_ble_eq_true rfl⟩) ⟨fun a U g mk q => by obtain ⟨q0, q1, qP, qK, qD⟩ := q; exact ⟨q0, q1, qP, va_K.moved (u := U) (U := U.calling g mk a) (Vm.Alike.refl U.vm) qK, qD⟩, hrv, fun U hU hW => ⟨rfl, by rw [hU], by rw [hU]; exact hPc, va_K.moved hW.alike hKc, hDc.weaken (fun _ _ _ _ => trivial)⟩⟩ rfl rfl hl.1 rfl (lv_room (Nat.le_of_ble_eq_true rfl)) dX4_readAtom_68 ⟨Nat.le_of_ble_eq_true rfl, Nat.le_of_ble_eq_true rfl⟩) hS (fun q _ h => hFc q h) hFc (fun u t H1 locs ht hvm hw hB hz1 hk1 hS => ?_)
    obtain ⟨x_2, w_3⟩ := u
    obtain ⟨hP1, hK1, hD1⟩ := hB
    rw [ht] at hP1
    obtain ⟨hP, hD⟩ := cl_put (w1 := (wd_c_X4_emit_1 h0 h0_0 x_2 h0_2 h0_0 h0_0k w_3)) (nw := (wd_c_X4_readAtom_6 h1 h1_0 h1_f1 j65_h1_f2 j65_h1_f3 h1_0 h1_0k h1_0c h0 h0_0 x_2 h0_2 h0_0 h0_0k w_3)) hP hD [2, 3] [0, 1, 4, 5] 4 rfl hqc (by decide +kernel) rfl hk1 hFc hP1 hD1
    generalize H1 = H at hP hS ⊢
    as_aux_lemma =>
    rcases hw with ⟨h_4, h_5⟩
    have h_5 : (x_2, w_3) = _ := h_5
    replace hEX := hEX.trans (exc2_eq h_5)
    refine lv_goto (tgt := 105) hx hb dX4_readAtom_71 rfl ?_
    have hK9 := hK.sub (tys' := []) [] rfl
    exact W.vret hx hb hr (fun t ht hW => ⟨⟨(j65_h1_f2, j65_h1_f3, x_2, w_3), rfl, ⟨g_j65_h1_f2, g_j65_h1_f3, (RG_w h_4 (by decide +kernel)), (hR.trans hEX).symm⟩, by rw [ht]; exact hP, va_K.moved hW.alike hK9, hD⟩, hS.F ht⟩) hS.2.2 dX4_readAtom_105
  have J20 : ∀ (j20_h1_f2 : Int32) (g_h0_f1 : RG h0_f1 0 240) (g_h1_f1 : RG h1_f1 0 240) (g_h1_f2 : RG h1_f2 0 240) (g_h1_f3 : RG h1_f3 (-1) 240) (g_j20_h1_f2 : RG j20_h1_f2 0 240) (hEX : RES = fx_c_X4_readAtom_6_p20 h1_f1 h1_f3 h1_0c h0_f1 h0_0c j20_h1_f2) (H : Heap) (locs : List Loc) (ls : Array Slot) (hP : va_P (dC, dI) vwCl (wd_c_X4_readAtom_6 h1 h1_0 h1_f1 j20_h1_f2 h1_f3 h1_0 h1_0k h1_0c h0 h0_0 h0_f1 h0_2 h0_0 h0_0k h0_0c) H) (hD : va_D A (wd_c_X4_readAtom_6 h1 h1_0 h1_f1 j20_h1_f2 h1_f3 h1_0 h1_0k h1_0c h0 h0_0 h0_f1 h0_2 h0_0 h0_0k h0_0c)) (hS : va_S A s.heap H locs) (hl : lv_has ls 6 [(3, .int (-1)), (0, .ref h0), (1, .ref h1), (2, .int 6)]), G H locs (F0 m 20 ls [.int (-1)]) := by
    as_aux_lemma =>
    intro j20_h1_f2 g_h0_f1 g_h1_f1 g_h1_f2 g_h1_f3 g_j20_h1_f2 hEX H locs ls hP hD hS hl
    refine hG _ _ _ ?_
    refine lv_istore (lv' := [(4, .int (-1)), (3, .int (-1)), (0, .ref h0), (1, .ref h1), (2, .int 6)]) hx hb dX4_readAtom_20 hl (Nat.le_of_ble_eq_true rfl) rfl (fun ls hl => ?_)
    refine lv_iload hx hb dX4_readAtom_22 (lv_at hl 0 rfl) ?_
    refine lv_if_lt (tgt := 42) hx hb dX4_readAtom_24 rfl (fun c_6 => ?_) (fun c_6 => absurd c_6 (by decide +kernel))
    refine lv_iload_n hx hb dX4_readAtom_42 rfl (lv_at hl 1 rfl) ?_
    refine lv_bipush (v := 91) hx hb dX4_readAtom_43 kc_bipush_91 ?_
    refine lv_icmp_eq (tgt := 74) hx hb dX4_readAtom_45 rfl (fun c_7 => absurd c_7 (by decide +kernel)) (fun c_7 => ?_)
    refine lv_aload_n hx hb dX4_readAtom_48 rfl (lv_at hl 3 rfl) ?_
    refine lv_iconst (v := 4) hx hb dX4_readAtom_49 kc_iconst_4 ?_
    obtain ⟨hPc, hDc, hFc, hqc⟩ := cl_cut (wc := (wd_c_X9_number_1 h1 h1_0 h1_f1 j20_h1_f2 h1_f3 h1_0 h1_0k h1_0c)) hP hD hS hA [0, 1] (by decide +kernel) rfl
    have hKc := hK.sub (tys' := [(h1_0k, .int)]) [0] rfl
    have hrv := va_recv hKc hPc (ci := 9) (q0 := 0) rfl rfl
    refine va_calli (va_runV (As := [.int 4]) (rest := []) ⟨hx, hb, hml, hown, hts⟩ (c_X9_number_1 l dC dI H.size h1 h1_0 h1_f1 j20_h1_f2 h1_f3 h1_0k h1_0c g_h1_f1 g_j20_h1_f2 g_h1_f3 a_h1_0c) (cwV 1 hts gf_c_X4_readAtom_6_c_X9_number_1 rfl rfl rfl mdV_X9_number ⟨Nat.le_of_ble_eq_true rfl, Nat.le_of_ble_eq_true rfl⟩) ⟨fun a U g mk q => by obtain ⟨q0, q1, qP, qK, qD⟩ := q; exact ⟨q0, q1, qP, va_K.moved (u := U) (U := U.calling g mk a) (Vm.Alike.refl U.vm) qK, qD⟩, hrv, fun U hU hW => ⟨rfl, by rw [hU], by rw [hU]; exact hPc, va_K.moved hW.alike hKc, hDc.weaken (fun _ _ _ _ => trivial)⟩⟩ rfl rfl hl.1 rfl (lv_room (Nat.le_of_ble_eq_true rfl)) dX4_readAtom_50 ⟨Nat.le_of_ble_eq_true rfl, Nat.le_of_ble_eq_true rfl⟩) hS (fun q _ h => hFc q h) hFc (fun r_8 x_9 t H1 locs ht hvm hw hB hz1 hk1 hS => ?_)
    as_aux_lemma =>
    obtain ⟨hP1, hK1, hD1⟩ := hB
    rw [ht] at hP1
    obtain ⟨hP, hD⟩ := cl_put (w1 := (wd_c_X9_number_1 h1 h1_0 h1_f1 x_9 h1_f3 h1_0 h1_0k h1_0c)) (nw := (wd_c_X4_readAtom_6 h1 h1_0 h1_f1 x_9 h1_f3 h1_0 h1_0k h1_0c h0 h0_0 h0_f1 h0_2 h0_0 h0_0k h0_0c)) hP hD [0, 1] [4, 5, 2, 3] 4 rfl hqc (by decide +kernel) rfl hk1 hFc hP1 hD1
    generalize H1 = H at hP hS ⊢
    as_aux_lemma =>
    rcases hw with ⟨h_10, h_11, h_12, h_13⟩ | ⟨h_14, h_15, h_16, h_17, h_18, h_19⟩
    · have h_13 : (r_8, x_9) = _ := h_13
      replace hEX := hEX.trans (exc2_eq h_13)
      replace hEX := hEX.trans (if_pos (show r_8 = (-1) from h_10))
      rw [h_10]
      refine lv_istore (lv' := [(5, .int (-1)), (4, .int (-1)), (3, .int (-1)), (0, .ref h0), (1, .ref h1), (2, .int 6)]) hx hb dX4_readAtom_53 hl (Nat.le_of_ble_eq_true rfl) rfl (fun ls hl => ?_)
      refine lv_iload hx hb dX4_readAtom_55 (lv_at hl 0 rfl) ?_
      refine lv_iconst (v := (-1)) hx hb dX4_readAtom_57 kc_iconst_m1 ?_
      refine lv_icmp_ne (tgt := 65) hx hb dX4_readAtom_58 rfl (fun c_20 => absurd c_20 (by decide +kernel)) (fun c_20 => ?_)
      refine lv_aload_n hx hb dX4_readAtom_61 rfl (lv_at hl 4 rfl) ?_
      obtain ⟨hPc, hDc, hFc, hqc⟩ := cl_cut (wc := (wd_c_X9_refuseHere h1 h1_0 h1_f1 x_9 h1_f3)) hP hD hS hA [0] (by decide +kernel) rfl
      have hKc := hK.sub (tys' := []) [] rfl
      have hrv := va_recv hKc hPc (ci := 9) (q0 := 0) rfl rfl
      refine va_callv (va_runV (As := []) (rest := []) ⟨hx, hb, hml, hown, hts⟩ (c_X9_refuseHere l dC dI H.size h1 h1_0 h1_f1 x_9 h1_f3 g_h1_f1 h_11 g_h1_f3) (cwV 0 hts gf_c_X4_readAtom_6_c_X9_refuseHere rfl rfl rfl mdV_X9_refuseHere ⟨Nat.le_of_ble_eq_true rfl, Nat.le_of_ble_eq_true rfl⟩) ⟨fun a U g mk q => by obtain ⟨q0, q1, qP, qK, qD⟩ := q; exact ⟨q0, q1, qP, va_K.moved (u := U) (U := U.calling g mk a) (Vm.Alike.refl U.vm) qK, qD⟩, hrv, fun U hU hW => ⟨rfl, by rw [hU], by rw [hU]; exact hPc, va_K.moved hW.alike hKc, hDc.weaken (fun _ _ _ _ => trivial)⟩⟩ rfl rfl hl.1 rfl (lv_room (Nat.le_of_ble_eq_true rfl)) dX4_readAtom_62 ⟨Nat.le_of_ble_eq_true rfl, Nat.le_of_ble_eq_true rfl⟩) hS (fun q _ h => hFc q h) hFc (fun x_22 t H1 locs ht hvm hw hB hz1 hk1 hS => ?_)
      as_aux_lemma =>
      obtain ⟨hP1, hK1, hD1⟩ := hB
      rw [ht] at hP1
      obtain ⟨hP, hD⟩ := cl_put (w1 := (wd_c_X9_refuseHere h1 h1_0 h1_f1 x_9 x_22)) (nw := (wd_c_X4_readAtom_6 h1 h1_0 h1_f1 x_9 x_22 h1_0 h1_0k h1_0c h0 h0_0 h0_f1 h0_2 h0_0 h0_0k h0_0c)) hP hD [0] [4, 1, 2, 3] 4 rfl hqc (by decide +kernel) rfl hk1 hFc hP1 hD1
      generalize H1 = H at hP hS ⊢
      as_aux_lemma =>
      rcases hw with ⟨h_23, h_24⟩
      have h_24 : x_22 = _ := h_24
      replace hEX := hEX.trans (exc1_eq h_24)
      exact hU _ _ _ (J65 (-1) x_9 x_22 g_h0_f1 g_h1_f1 g_h1_f2 g_h1_f3 h_11 (RG_w h_23 (by decide +kernel)) (RG_w (RG_k (-1) (-1) rfl) (by decide +kernel)) hEX _ _ _ hP hD hS (lv_sub hl [0, 3] rfl))
    · have h_19 : (r_8, x_9) = _ := h_19
      replace hEX := hEX.trans (exc2_eq h_19)
      replace hEX := hEX.trans (if_neg (RG_neq (x := r_8) (c := (-1)) (show RG r_8 0 9999 from h_14) (by decide +kernel)))
      refine lv_istore (lv' := [(5, .int r_8), (4, .int (-1)), (3, .int (-1)), (0, .ref h0), (1, .ref h1), (2, .int 6)]) hx hb dX4_readAtom_53 hl (Nat.le_of_ble_eq_true rfl) rfl (fun ls hl => ?_)
      refine lv_iload hx hb dX4_readAtom_55 (lv_at hl 0 rfl) ?_
      refine lv_iconst (v := (-1)) hx hb dX4_readAtom_57 kc_iconst_m1 ?_
      refine lv_icmp_ne (tgt := 65) hx hb dX4_readAtom_58 rfl (fun c_25 => ?_) (fun c_25 => ?_)
      · replace hEX := hEX.trans (if_neg c_25)
        exact hU _ _ _ (J65 r_8 x_9 h1_f3 g_h0_f1 (RG_w h_16 (by decide +kernel)) g_h1_f2 g_h1_f3 (RG_w h_15 (by decide +kernel)) g_h1_f3 (RG_w h_14 (by decide +kernel)) hEX _ _ _ hP hD hS (lv_sub hl [0, 3] rfl))
      · replace hEX := hEX.trans (if_pos c_25)
        exact RG_dead (RG_eq1 h_14 (RG_k (-1) (-1) rfl) c_25 (a' := 0) (b' := (-1)) (by decide +kernel)) (by decide +kernel)
  have J65b : ∀ (j65b_l5 : Int32) (j65b_h1_f2 : Int32) (j65b_h1_f3 : Int32) (g_h0_f1 : RG h0_f1 0 240) (g_h1_f1 : RG h1_f1 1 240) (g_h1_f2 : RG h1_f2 0 240) (g_h1_f3 : RG h1_f3 (-1) 240) (g_j65b_h1_f2 : RG j65b_h1_f2 0 240) (g_j65b_h1_f3 : RG j65b_h1_f3 (-1) 240) (g_j65b_l5 : RG j65b_l5 (-1) 9999) (hEX : RES = fx_c_X4_readAtom_6_p65b h0_f1 h0_0c j65b_l5 j65b_h1_f2 j65b_h1_f3) (H : Heap) (locs : List Loc) (ls : Array Slot) (hP : va_P (dC, dI) vwCl (wd_c_X4_readAtom_6 h1 h1_0 h1_f1 j65b_h1_f2 j65b_h1_f3 h1_0 h1_0k h1_0c h0 h0_0 h0_f1 h0_2 h0_0 h0_0k h0_0c) H) (hD : va_D A (wd_c_X4_readAtom_6 h1 h1_0 h1_f1 j65b_h1_f2 j65b_h1_f3 h1_0 h1_0k h1_0c h0 h0_0 h0_f1 h0_2 h0_0 h0_0k h0_0c)) (hS : va_S A s.heap H locs) (hl : lv_has ls 6 [(5, .int j65b_l5), (0, .ref h0)]), G H locs (F0 m 65 ls []) := by
    as_aux_lemma =>
    intro j65b_l5 j65b_h1_f2 j65b_h1_f3 g_h0_f1 g_h1_f1 g_h1_f2 g_h1_f3 g_j65b_h1_f2 g_j65b_h1_f3 g_j65b_l5 hEX H locs ls hP hD hS hl
    refine hG _ _ _ ?_
    refine lv_aload_n hx hb dX4_readAtom_65 rfl (lv_at hl 1 rfl) ?_
    refine lv_iload hx hb dX4_readAtom_66 (lv_at hl 0 rfl) ?_
    obtain ⟨hPc, hDc, hFc, hqc⟩ := cl_cut (wc := (wd_c_X4_emit_1 h0 h0_0 h0_f1 h0_2 h0_0 h0_0k h0_0c)) hP hD hS hA [2, 3] (by decide +kernel) rfl
    have hKc := hK.sub (tys' := [(h0_0k, .int)]) [1] rfl
    have hrv := va_recv hKc hPc (ci := 4) (q0 := 0) rfl rfl
    refine va_callv (va_runV (As := [.int j65b_l5]) (rest := []) ⟨hx, hb, hml, hown, hts⟩ (c_X4_emit_1 l dC dI H.size h0 j65b_l5 h0_0 h0_f1 h0_2 h0_0k h0_0c (RG_w g_j65b_l5 (by decide +kernel)) g_h0_f1) (cwV 1 hts gf_c_X4_readAtom_6_c_X4_emit_1 rfl rfl rfl mdV_X4_emit ⟨Nat.le_of_ble_eq_true rfl, Nat.le_of_ble_eq_true rfl⟩) ⟨fun a U g mk q => by obtain ⟨q0, q1, qP, qK, qD⟩ := q; exact ⟨q0, q1, qP, va_K.moved (u := U) (U := U.calling g mk a) (Vm.Alike.refl U.vm) qK, qD⟩, hrv, fun U hU hW => ⟨rfl, by rw [hU], by rw [hU]; exact hPc, va_K.moved hW.alike hKc, hDc.weaken (fun _ _ _ _ => trivial)⟩⟩ rfl rfl hl.1 rfl (lv_room (Nat.le_of_ble_eq_true rfl)) dX4_readAtom_68 ⟨Nat.le_of_ble_eq_true rfl, Nat.le_of_ble_eq_true rfl⟩) hS (fun q _ h => hFc q h) hFc (fun u t H1 locs ht hvm hw hB hz1 hk1 hS => ?_)
    obtain ⟨x_27, w_28⟩ := u
    obtain ⟨hP1, hK1, hD1⟩ := hB
    rw [ht] at hP1
    obtain ⟨hP, hD⟩ := cl_put (w1 := (wd_c_X4_emit_1 h0 h0_0 x_27 h0_2 h0_0 h0_0k w_28)) (nw := (wd_c_X4_readAtom_6 h1 h1_0 h1_f1 j65b_h1_f2 j65b_h1_f3 h1_0 h1_0k h1_0c h0 h0_0 x_27 h0_2 h0_0 h0_0k w_28)) hP hD [2, 3] [0, 1, 4, 5] 4 rfl hqc (by decide +kernel) rfl hk1 hFc hP1 hD1
    generalize H1 = H at hP hS ⊢
    as_aux_lemma =>
    rcases hw with ⟨h_29, h_30⟩
    have h_30 : (x_27, w_28) = _ := h_30
    replace hEX := hEX.trans (exc2_eq h_30)
    refine lv_goto (tgt := 105) hx hb dX4_readAtom_71 rfl ?_
    have hK9 := hK.sub (tys' := []) [] rfl
    exact W.vret hx hb hr (fun t ht hW => ⟨⟨(j65b_h1_f2, j65b_h1_f3, x_27, w_28), rfl, ⟨g_j65b_h1_f2, g_j65b_h1_f3, (RG_w h_29 (by decide +kernel)), (hR.trans hEX).symm⟩, by rw [ht]; exact hP, va_K.moved hW.alike hK9, hD⟩, hS.F ht⟩) hS.2.2 dX4_readAtom_105
  have J20b : ∀ (j20b_l3 : Int32) (j20b_h1_f2 : Int32) (g_h0_f1 : RG h0_f1 0 240) (g_h1_f1 : RG h1_f1 1 240) (g_h1_f2 : RG h1_f2 0 240) (g_h1_f3 : RG h1_f3 (-1) 240) (g_j20b_h1_f2 : RG j20b_h1_f2 0 239) (g_j20b_l3 : RG j20b_l3 0 255) (hEX : RES = fx_c_X4_readAtom_6_p20b h1_f1 h1_f3 h1_0c h0_f1 h0_0c j20b_l3 j20b_h1_f2) (H : Heap) (locs : List Loc) (ls : Array Slot) (hP : va_P (dC, dI) vwCl (wd_c_X4_readAtom_6 h1 h1_0 h1_f1 j20b_h1_f2 h1_f3 h1_0 h1_0k h1_0c h0 h0_0 h0_f1 h0_2 h0_0 h0_0k h0_0c) H) (hD : va_D A (wd_c_X4_readAtom_6 h1 h1_0 h1_f1 j20b_h1_f2 h1_f3 h1_0 h1_0k h1_0c h0 h0_0 h0_f1 h0_2 h0_0 h0_0k h0_0c)) (hS : va_S A s.heap H locs) (hl : lv_has ls 6 [(3, .int j20b_l3), (0, .ref h0), (1, .ref h1), (2, .int 6)]), G H locs (F0 m 20 ls [.int (-1)]) := by
    as_aux_lemma =>
    intro j20b_l3 j20b_h1_f2 g_h0_f1 g_h1_f1 g_h1_f2 g_h1_f3 g_j20b_h1_f2 g_j20b_l3 hEX H locs ls hP hD hS hl
    refine hG _ _ _ ?_
    refine lv_istore (lv' := [(4, .int (-1)), (3, .int j20b_l3), (0, .ref h0), (1, .ref h1), (2, .int 6)]) hx hb dX4_readAtom_20 hl (Nat.le_of_ble_eq_true rfl) rfl (fun ls hl => ?_)
    refine lv_iload hx hb dX4_readAtom_22 (lv_at hl 0 rfl) ?_
    refine lv_if_lt (tgt := 42) hx hb dX4_readAtom_24 rfl (fun c_31 => ?_) (fun c_31 => absurd c_31 (by decide +kernel))
    refine lv_iload_n hx hb dX4_readAtom_42 rfl (lv_at hl 1 rfl) ?_
    refine lv_bipush (v := 91) hx hb dX4_readAtom_43 kc_bipush_91 ?_
    refine lv_icmp_eq (tgt := 74) hx hb dX4_readAtom_45 rfl (fun c_32 => ?_) (fun c_32 => ?_)
    · replace hEX := hEX.trans (if_pos c_32)
      have g_33 : RG j20b_l3 91 91 := RG_eq1 g_j20b_l3 (RG_k 91 91 rfl) c_32 (by decide +kernel)
      refine lv_iload_n hx hb dX4_readAtom_74 rfl (lv_at hl 4 rfl) ?_
      refine lv_bipush (v := 6) hx hb dX4_readAtom_75 kc_bipush_6 ?_
      refine lv_icmp_lt (tgt := 87) hx hb dX4_readAtom_77 rfl (fun c_34 => absurd c_34 (by decide +kernel)) (fun c_34 => ?_)
      refine lv_aload_n hx hb dX4_readAtom_80 rfl (lv_at hl 3 rfl) ?_
      as_aux_lemma =>
      obtain ⟨hPc, hDc, hFc, hqc⟩ := cl_cut (wc := (wd_c_X9_refuseHere h1 h1_0 h1_f1 j20b_h1_f2 h1_f3)) hP hD hS hA [0] (by decide +kernel) rfl
      have hKc := hK.sub (tys' := []) [] rfl
      have hrv := va_recv hKc hPc (ci := 9) (q0 := 0) rfl rfl
      refine va_callv (va_runV (As := []) (rest := []) ⟨hx, hb, hml, hown, hts⟩ (c_X9_refuseHere l dC dI H.size h1 h1_0 h1_f1 j20b_h1_f2 h1_f3 (RG_w g_h1_f1 (by decide +kernel)) (RG_w g_j20b_h1_f2 (by decide +kernel)) g_h1_f3) (cwV 0 hts gf_c_X4_readAtom_6_c_X9_refuseHere rfl rfl rfl mdV_X9_refuseHere ⟨Nat.le_of_ble_eq_true rfl, Nat.le_of_ble_eq_true rfl⟩) ⟨fun a U g mk q => by obtain ⟨q0, q1, qP, qK, qD⟩ := q; exact ⟨q0, q1, qP, va_K.moved (u := U) (U := U.calling g mk a) (Vm.Alike.refl U.vm) qK, qD⟩, hrv, fun U hU hW => ⟨rfl, by rw [hU], by rw [hU]; exact hPc, va_K.moved hW.alike hKc, hDc.weaken (fun _ _ _ _ => trivial)⟩⟩ rfl rfl hl.1 rfl (lv_room (Nat.le_of_ble_eq_true rfl)) dX4_readAtom_81 ⟨Nat.le_of_ble_eq_true rfl, Nat.le_of_ble_eq_true rfl⟩) hS (fun q _ h => hFc q h) hFc (fun x_36 t H1 locs ht hvm hw hB hz1 hk1 hS => ?_)
      obtain ⟨hP1, hK1, hD1⟩ := hB
      rw [ht] at hP1
      obtain ⟨hP, hD⟩ := cl_put (w1 := (wd_c_X9_refuseHere h1 h1_0 h1_f1 j20b_h1_f2 x_36)) (nw := (wd_c_X4_readAtom_6 h1 h1_0 h1_f1 j20b_h1_f2 x_36 h1_0 h1_0k h1_0c h0 h0_0 h0_f1 h0_2 h0_0 h0_0k h0_0c)) hP hD [0] [4, 1, 2, 3] 4 rfl hqc (by decide +kernel) rfl hk1 hFc hP1 hD1
      generalize H1 = H at hP hS ⊢
      as_aux_lemma =>
      rcases hw with ⟨h_37, h_38⟩
      have h_38 : x_36 = _ := h_38
      replace hEX := hEX.trans (exc1_eq h_38)
      refine lv_goto (tgt := 105) hx hb dX4_readAtom_84 rfl ?_
      have hK9 := hK.sub (tys' := []) [] rfl
      exact W.vret hx hb hr (fun t ht hW => ⟨⟨(j20b_h1_f2, x_36, h0_f1, h0_0c), rfl, ⟨(RG_w g_j20b_h1_f2 (by decide +kernel)), (RG_w h_37 (by decide +kernel)), g_h0_f1, (hR.trans hEX).symm⟩, by rw [ht]; exact hP, va_K.moved hW.alike hK9, hD⟩, hS.F ht⟩) hS.2.2 dX4_readAtom_105
    · replace hEX := hEX.trans (if_neg c_32)
      refine lv_aload_n hx hb dX4_readAtom_48 rfl (lv_at hl 3 rfl) ?_
      refine lv_iconst (v := 4) hx hb dX4_readAtom_49 kc_iconst_4 ?_
      obtain ⟨hPc, hDc, hFc, hqc⟩ := cl_cut (wc := (wd_c_X9_number_1 h1 h1_0 h1_f1 j20b_h1_f2 h1_f3 h1_0 h1_0k h1_0c)) hP hD hS hA [0, 1] (by decide +kernel) rfl
      have hKc := hK.sub (tys' := [(h1_0k, .int)]) [0] rfl
      have hrv := va_recv hKc hPc (ci := 9) (q0 := 0) rfl rfl
      refine va_calli (va_runV (As := [.int 4]) (rest := []) ⟨hx, hb, hml, hown, hts⟩ (c_X9_number_1 l dC dI H.size h1 h1_0 h1_f1 j20b_h1_f2 h1_f3 h1_0k h1_0c (RG_w g_h1_f1 (by decide +kernel)) (RG_w g_j20b_h1_f2 (by decide +kernel)) g_h1_f3 a_h1_0c) (cwV 1 hts gf_c_X4_readAtom_6_c_X9_number_1 rfl rfl rfl mdV_X9_number ⟨Nat.le_of_ble_eq_true rfl, Nat.le_of_ble_eq_true rfl⟩) ⟨fun a U g mk q => by obtain ⟨q0, q1, qP, qK, qD⟩ := q; exact ⟨q0, q1, qP, va_K.moved (u := U) (U := U.calling g mk a) (Vm.Alike.refl U.vm) qK, qD⟩, hrv, fun U hU hW => ⟨rfl, by rw [hU], by rw [hU]; exact hPc, va_K.moved hW.alike hKc, hDc.weaken (fun _ _ _ _ => trivial)⟩⟩ rfl rfl hl.1 rfl (lv_room (Nat.le_of_ble_eq_true rfl)) dX4_readAtom_50 ⟨Nat.le_of_ble_eq_true rfl, Nat.le_of_ble_eq_true rfl⟩) hS (fun q _ h => hFc q h) hFc (fun r_39 x_40 t H1 locs ht hvm hw hB hz1 hk1 hS => ?_)
      obtain ⟨hP1, hK1, hD1⟩ := hB
      rw [ht] at hP1
      obtain ⟨hP, hD⟩ := cl_put (w1 := (wd_c_X9_number_1 h1 h1_0 h1_f1 x_40 h1_f3 h1_0 h1_0k h1_0c)) (nw := (wd_c_X4_readAtom_6 h1 h1_0 h1_f1 x_40 h1_f3 h1_0 h1_0k h1_0c h0 h0_0 h0_f1 h0_2 h0_0 h0_0k h0_0c)) hP hD [0, 1] [4, 5, 2, 3] 4 rfl hqc (by decide +kernel) rfl hk1 hFc hP1 hD1
      generalize H1 = H at hP hS ⊢
      as_aux_lemma =>
      rcases hw with ⟨h_41, h_42, h_43, h_44⟩ | ⟨h_45, h_46, h_47, h_48, h_49, h_50⟩
      · have h_44 : (r_39, x_40) = _ := h_44
        replace hEX := hEX.trans (exc2_eq h_44)
        replace hEX := hEX.trans (if_pos (show r_39 = (-1) from h_41))
        rw [h_41]
        refine lv_istore (lv' := [(5, .int (-1)), (4, .int (-1)), (3, .int j20b_l3), (0, .ref h0), (1, .ref h1), (2, .int 6)]) hx hb dX4_readAtom_53 hl (Nat.le_of_ble_eq_true rfl) rfl (fun ls hl => ?_)
        refine lv_iload hx hb dX4_readAtom_55 (lv_at hl 0 rfl) ?_
        refine lv_iconst (v := (-1)) hx hb dX4_readAtom_57 kc_iconst_m1 ?_
        refine lv_icmp_ne (tgt := 65) hx hb dX4_readAtom_58 rfl (fun c_51 => absurd c_51 (by decide +kernel)) (fun c_51 => ?_)
        refine lv_aload_n hx hb dX4_readAtom_61 rfl (lv_at hl 4 rfl) ?_
        obtain ⟨hPc, hDc, hFc, hqc⟩ := cl_cut (wc := (wd_c_X9_refuseHere h1 h1_0 h1_f1 x_40 h1_f3)) hP hD hS hA [0] (by decide +kernel) rfl
        have hKc := hK.sub (tys' := []) [] rfl
        have hrv := va_recv hKc hPc (ci := 9) (q0 := 0) rfl rfl
        refine va_callv (va_runV (As := []) (rest := []) ⟨hx, hb, hml, hown, hts⟩ (c_X9_refuseHere l dC dI H.size h1 h1_0 h1_f1 x_40 h1_f3 (RG_w g_h1_f1 (by decide +kernel)) h_42 g_h1_f3) (cwV 0 hts gf_c_X4_readAtom_6_c_X9_refuseHere rfl rfl rfl mdV_X9_refuseHere ⟨Nat.le_of_ble_eq_true rfl, Nat.le_of_ble_eq_true rfl⟩) ⟨fun a U g mk q => by obtain ⟨q0, q1, qP, qK, qD⟩ := q; exact ⟨q0, q1, qP, va_K.moved (u := U) (U := U.calling g mk a) (Vm.Alike.refl U.vm) qK, qD⟩, hrv, fun U hU hW => ⟨rfl, by rw [hU], by rw [hU]; exact hPc, va_K.moved hW.alike hKc, hDc.weaken (fun _ _ _ _ => trivial)⟩⟩ rfl rfl hl.1 rfl (lv_room (Nat.le_of_ble_eq_true rfl)) dX4_readAtom_62 ⟨Nat.le_of_ble_eq_true rfl, Nat.le_of_ble_eq_true rfl⟩) hS (fun q _ h => hFc q h) hFc (fun x_53 t H1 locs ht hvm hw hB hz1 hk1 hS => ?_)
        as_aux_lemma =>
        obtain ⟨hP1, hK1, hD1⟩ := hB
        rw [ht] at hP1
        obtain ⟨hP, hD⟩ := cl_put (w1 := (wd_c_X9_refuseHere h1 h1_0 h1_f1 x_40 x_53)) (nw := (wd_c_X4_readAtom_6 h1 h1_0 h1_f1 x_40 x_53 h1_0 h1_0k h1_0c h0 h0_0 h0_f1 h0_2 h0_0 h0_0k h0_0c)) hP hD [0] [4, 1, 2, 3] 4 rfl hqc (by decide +kernel) rfl hk1 hFc hP1 hD1
        generalize H1 = H at hP hS ⊢
        as_aux_lemma =>
        rcases hw with ⟨h_54, h_55⟩
        have h_55 : x_53 = _ := h_55
        replace hEX := hEX.trans (exc1_eq h_55)
        exact hU _ _ _ (J65b (-1) x_40 x_53 g_h0_f1 g_h1_f1 g_h1_f2 g_h1_f3 h_42 (RG_w h_54 (by decide +kernel)) (RG_w (RG_k (-1) (-1) rfl) (by decide +kernel)) hEX _ _ _ hP hD hS (lv_sub hl [0, 3] rfl))
      · have h_50 : (r_39, x_40) = _ := h_50
        replace hEX := hEX.trans (exc2_eq h_50)
        replace hEX := hEX.trans (if_neg (RG_neq (x := r_39) (c := (-1)) (show RG r_39 0 9999 from h_45) (by decide +kernel)))
        refine lv_istore (lv' := [(5, .int r_39), (4, .int (-1)), (3, .int j20b_l3), (0, .ref h0), (1, .ref h1), (2, .int 6)]) hx hb dX4_readAtom_53 hl (Nat.le_of_ble_eq_true rfl) rfl (fun ls hl => ?_)
        refine lv_iload hx hb dX4_readAtom_55 (lv_at hl 0 rfl) ?_
        refine lv_iconst (v := (-1)) hx hb dX4_readAtom_57 kc_iconst_m1 ?_
        refine lv_icmp_ne (tgt := 65) hx hb dX4_readAtom_58 rfl (fun c_56 => ?_) (fun c_56 => ?_)
        · replace hEX := hEX.trans (if_neg c_56)
          exact hU _ _ _ (J65b r_39 x_40 h1_f3 g_h0_f1 g_h1_f1 g_h1_f2 g_h1_f3 (RG_w h_46 (by decide +kernel)) g_h1_f3 (RG_w h_45 (by decide +kernel)) hEX _ _ _ hP hD hS (lv_sub hl [0, 3] rfl))
        · replace hEX := hEX.trans (if_pos c_56)
          exact RG_dead (RG_eq1 h_45 (RG_k (-1) (-1) rfl) c_56 (a' := 0) (b' := (-1)) (by decide +kernel)) (by decide +kernel)
  have J20c : ∀ (j20c_l3 : Int32) (j20c_s0 : Int32) (j20c_h1_f2 : Int32) (g_h0_f1 : RG h0_f1 0 240) (g_h1_f1 : RG h1_f1 1 240) (g_h1_f2 : RG h1_f2 0 240) (g_h1_f3 : RG h1_f3 (-1) 240) (g_j20c_h1_f2 : RG j20c_h1_f2 0 239) (g_j20c_l3 : RG j20c_l3 0 255) (g_j20c_s0 : RG j20c_s0 0 5) (hEX : RES = fx_c_X4_readAtom_6_p20c h1_f3 h0_f1 h0_0c j20c_s0 j20c_h1_f2) (H : Heap) (locs : List Loc) (ls : Array Slot) (hP : va_P (dC, dI) vwCl (wd_c_X4_readAtom_6 h1 h1_0 h1_f1 j20c_h1_f2 h1_f3 h1_0 h1_0k h1_0c h0 h0_0 h0_f1 h0_2 h0_0 h0_0k h0_0c) H) (hD : va_D A (wd_c_X4_readAtom_6 h1 h1_0 h1_f1 j20c_h1_f2 h1_f3 h1_0 h1_0k h1_0c h0 h0_0 h0_f1 h0_2 h0_0 h0_0k h0_0c)) (hS : va_S A s.heap H locs) (hl : lv_has ls 6 [(3, .int j20c_l3), (0, .ref h0), (1, .ref h1), (2, .int 6)]), G H locs (F0 m 20 ls [.int j20c_s0]) := by
    as_aux_lemma =>
    intro j20c_l3 j20c_s0 j20c_h1_f2 g_h0_f1 g_h1_f1 g_h1_f2 g_h1_f3 g_j20c_h1_f2 g_j20c_l3 g_j20c_s0 hEX H locs ls hP hD hS hl
    refine hG _ _ _ ?_
    refine lv_istore (lv' := [(4, .int j20c_s0), (3, .int j20c_l3), (0, .ref h0), (1, .ref h1), (2, .int 6)]) hx hb dX4_readAtom_20 hl (Nat.le_of_ble_eq_true rfl) rfl (fun ls hl => ?_)
    refine lv_iload hx hb dX4_readAtom_22 (lv_at hl 0 rfl) ?_
    refine lv_if_lt (tgt := 42) hx hb dX4_readAtom_24 rfl (fun c_57 => ?_) (fun c_57 => ?_)
    · replace hEX := hEX.trans (if_pos c_57)
      have g_58 : RG j20c_s0 0 (-1) := RG_lt1 g_j20c_s0 (RG_k 0 0 rfl) c_57 (by decide +kernel)
      exact RG_dead (RG_lt1 g_j20c_s0 (RG_k 0 0 rfl) c_57 (b' := (-1)) (by decide +kernel)) (by decide +kernel)
    · replace hEX := hEX.trans (if_neg c_57)
      have d_59 := Int32.not_lt.mp c_57
      refine lv_aload_n hx hb dX4_readAtom_27 rfl (lv_at hl 3 rfl) ?_
      obtain ⟨hPc, hDc, hFc, hqc⟩ := cl_cut (wc := (wd_c_X9_skip h1 h1_0 h1_f1 j20c_h1_f2 h1_f3)) hP hD hS hA [0] (by decide +kernel) rfl
      have hKc := hK.sub (tys' := []) [] rfl
      have hrv := va_recv hKc hPc (ci := 9) (q0 := 0) rfl rfl
      refine va_callv (va_runV (As := []) (rest := []) ⟨hx, hb, hml, hown, hts⟩ (c_X9_skip l dC dI H.size h1 h1_0 h1_f1 j20c_h1_f2 h1_f3 (RG_w g_h1_f1 (by decide +kernel)) g_j20c_h1_f2 g_h1_f3) (cwV 0 hts gf_c_X4_readAtom_6_c_X9_skip rfl rfl rfl mdV_X9_skip ⟨Nat.le_of_ble_eq_true rfl, Nat.le_of_ble_eq_true rfl⟩) ⟨fun a U g mk q => by obtain ⟨q0, q1, qP, qK, qD⟩ := q; exact ⟨q0, q1, qP, va_K.moved (u := U) (U := U.calling g mk a) (Vm.Alike.refl U.vm) qK, qD⟩, hrv, fun U hU hW => ⟨rfl, by rw [hU], by rw [hU]; exact hPc, va_K.moved hW.alike hKc, hDc.weaken (fun _ _ _ _ => trivial)⟩⟩ rfl rfl hl.1 rfl (lv_room (Nat.le_of_ble_eq_true rfl)) dX4_readAtom_28 ⟨Nat.le_of_ble_eq_true rfl, Nat.le_of_ble_eq_true rfl⟩) hS (fun q _ h => hFc q h) hFc (fun x_61 t H1 locs ht hvm hw hB hz1 hk1 hS => ?_)
      as_aux_lemma =>
      obtain ⟨hP1, hK1, hD1⟩ := hB
      rw [ht] at hP1
      obtain ⟨hP, hD⟩ := cl_put (w1 := (wd_c_X9_skip h1 h1_0 h1_f1 x_61 h1_f3)) (nw := (wd_c_X4_readAtom_6 h1 h1_0 h1_f1 x_61 h1_f3 h1_0 h1_0k h1_0c h0 h0_0 h0_f1 h0_2 h0_0 h0_0k h0_0c)) hP hD [0] [4, 1, 2, 3] 4 rfl hqc (by decide +kernel) rfl hk1 hFc hP1 hD1
      generalize H1 = H at hP hS ⊢
      as_aux_lemma =>
      rcases hw with ⟨h_62, h_63, h_64, h_65⟩
      have h_65 : x_61 = _ := h_65
      replace hEX := hEX.trans (exc1_eq h_65)
      refine lv_aload_n hx hb dX4_readAtom_31 rfl (lv_at hl 2 rfl) ?_
      refine lv_iconst (v := (-1)) hx hb dX4_readAtom_32 kc_iconst_m1 ?_
      refine lv_iload hx hb dX4_readAtom_33 (lv_at hl 0 rfl) ?_
      refine lv_isub hx hb dX4_readAtom_35 ?_
      refine lv_topi (fun x_66 ex_66 => ?_)
      replace hEX := hEX.trans (exl_eq ex_66)
      have g_67 : RG x_66 (-6) (-1) := RG_sub ex_66 (RG_k (-1) (-1) rfl) g_j20c_s0 (by decide +kernel)
      obtain ⟨hPc, hDc, hFc, hqc⟩ := cl_cut (wc := (wd_c_X4_emit h0 h0_0 h0_f1 h0_2 h0_0 h0_0k h0_0c)) hP hD hS hA [2, 3] (by decide +kernel) rfl
      have hKc := hK.sub (tys' := [(h0_0k, .int)]) [1] rfl
      have hrv := va_recv hKc hPc (ci := 4) (q0 := 0) rfl rfl
      refine va_callv (va_runV (As := [.int x_66]) (rest := []) ⟨hx, hb, hml, hown, hts⟩ (c_X4_emit l dC dI H.size h0 x_66 h0_0 h0_f1 h0_2 h0_0k h0_0c g_h0_f1) (cwV 1 hts gf_c_X4_readAtom_6_c_X4_emit rfl rfl rfl mdV_X4_emit ⟨Nat.le_of_ble_eq_true rfl, Nat.le_of_ble_eq_true rfl⟩) ⟨fun a U g mk q => by obtain ⟨q0, q1, qP, qK, qD⟩ := q; exact ⟨q0, q1, qP, va_K.moved (u := U) (U := U.calling g mk a) (Vm.Alike.refl U.vm) qK, qD⟩, hrv, fun U hU hW => ⟨rfl, by rw [hU], by rw [hU]; exact hPc, va_K.moved hW.alike hKc, hDc.weaken (fun _ _ _ _ => trivial)⟩⟩ rfl rfl hl.1 rfl (lv_room (Nat.le_of_ble_eq_true rfl)) dX4_readAtom_36 ⟨Nat.le_of_ble_eq_true rfl, Nat.le_of_ble_eq_true rfl⟩) hS (fun q _ h => hFc q h) hFc (fun u t H1 locs ht hvm hw hB hz1 hk1 hS => ?_)
      as_aux_lemma =>
      obtain ⟨x_69, w_70⟩ := u
      obtain ⟨hP1, hK1, hD1⟩ := hB
      rw [ht] at hP1
      obtain ⟨hP, hD⟩ := cl_put (w1 := (wd_c_X4_emit h0 h0_0 x_69 h0_2 h0_0 h0_0k w_70)) (nw := (wd_c_X4_readAtom_6 h1 h1_0 h1_f1 x_61 h1_f3 h1_0 h1_0k h1_0c h0 h0_0 x_69 h0_2 h0_0 h0_0k w_70)) hP hD [2, 3] [0, 1, 4, 5] 4 rfl hqc (by decide +kernel) rfl hk1 hFc hP1 hD1
      generalize H1 = H at hP hS ⊢
      as_aux_lemma =>
      rcases hw with ⟨h_71, h_72⟩
      have h_72 : (x_69, w_70) = _ := h_72
      replace hEX := hEX.trans (exc2_eq h_72)
      refine lv_goto (tgt := 105) hx hb dX4_readAtom_39 rfl ?_
      have hK9 := hK.sub (tys' := []) [] rfl
      exact W.vret hx hb hr (fun t ht hW => ⟨⟨(x_61, h1_f3, x_69, w_70), rfl, ⟨(RG_w h_62 (by decide +kernel)), g_h1_f3, (RG_w h_71 (by decide +kernel)), (hR.trans hEX).symm⟩, by rw [ht]; exact hP, va_K.moved hW.alike hK9, hD⟩, hS.F ht⟩) hS.2.2 dX4_readAtom_105
  refine hG _ _ _ ?_
  refine lv_aload_n hx hb dX4_readAtom_0 rfl (lv_at hl 1 rfl) ?_
  obtain ⟨hPc, hDc, hFc, hqc⟩ := cl_cut (wc := (wd_c_X9_peek h1 h1_0 h1_f1 h1_f2 h1_f3 h1_0 h1_0k h1_0c)) hP hD hS hA [0, 1] (by decide +kernel) rfl
  have hKc := hK.sub (tys' := [(h1_0k, .int)]) [0] rfl
  have hrv := va_recv hKc hPc (ci := 9) (q0 := 0) rfl rfl
  refine va_calli (va_runV (As := []) (rest := []) ⟨hx, hb, hml, hown, hts⟩ (c_X9_peek l dC dI H.size h1 h1_0 h1_f1 h1_f2 h1_f3 h1_0k h1_0c g_h1_f1 g_h1_f2 g_h1_f3 a_h1_0c) (cwV 0 hts gf_c_X4_readAtom_6_c_X9_peek rfl rfl rfl mdV_X9_peek ⟨Nat.le_of_ble_eq_true rfl, Nat.le_of_ble_eq_true rfl⟩) ⟨fun a U g mk q => by obtain ⟨q0, q1, qP, qK, qD⟩ := q; exact ⟨q0, q1, qP, va_K.moved (u := U) (U := U.calling g mk a) (Vm.Alike.refl U.vm) qK, qD⟩, hrv, fun U hU hW => ⟨rfl, by rw [hU], by rw [hU]; exact hPc, va_K.moved hW.alike hKc, hDc.weaken (fun _ _ _ _ => trivial)⟩⟩ rfl rfl hl.1 rfl (lv_room (Nat.le_of_ble_eq_true rfl)) dX4_readAtom_1 ⟨Nat.le_of_ble_eq_true rfl, Nat.le_of_ble_eq_true rfl⟩) hS (fun q _ h => hFc q h) hFc (fun r_73 x_74 t H1 locs ht hvm hw hB hz1 hk1 hS => ?_)
  obtain ⟨hP1, hK1, hD1⟩ := hB
  rw [ht] at hP1
  obtain ⟨hP, hD⟩ := cl_put (w1 := (wd_c_X9_peek h1 h1_0 h1_f1 x_74 h1_f3 h1_0 h1_0k h1_0c)) (nw := (wd_c_X4_readAtom_6 h1 h1_0 h1_f1 x_74 h1_f3 h1_0 h1_0k h1_0c h0 h0_0 h0_f1 h0_2 h0_0 h0_0k h0_0c)) hP hD [0, 1] [4, 5, 2, 3] 4 rfl hqc (by decide +kernel) rfl hk1 hFc hP1 hD1
  generalize H1 = H at hP hS ⊢
  as_aux_lemma =>
  rcases hw with ⟨h_75, h_76, h_77, h_78⟩ | ⟨h_79, h_80, h_81, h_82, h_83⟩
  · have h_78 : (r_73, x_74) = _ := h_78
    replace hEX := hEX.trans (exc2_eq h_78)
    replace hEX := hEX.trans (if_pos (show r_73 = (-1) from h_75))
    rw [h_75]
    refine lv_istore_n (lv' := [(3, .int (-1)), (0, .ref h0), (1, .ref h1), (2, .int 6)]) hx hb dX4_readAtom_4 rfl hl (Nat.le_of_ble_eq_true rfl) rfl (fun ls hl => ?_)
    refine lv_iload_n hx hb dX4_readAtom_5 rfl (lv_at hl 0 rfl) ?_
    refine lv_if_ge (tgt := 13) hx hb dX4_readAtom_6 rfl (fun c_84 => absurd c_84 (by decide +kernel)) (fun c_84 => ?_)
    refine lv_iconst (v := (-1)) hx hb dX4_readAtom_9 kc_iconst_m1 ?_
    refine lv_goto (tgt := 20) hx hb dX4_readAtom_10 rfl ?_
    exact hU _ _ _ (J20 x_74 g_h0_f1 g_h1_f1 g_h1_f2 g_h1_f3 h_76 hEX _ _ _ hP hD hS (lv_sub hl [0, 1, 2, 3] rfl))
  · have h_83 : (r_73, x_74) = _ := h_83
    replace hEX := hEX.trans (exc2_eq h_83)
    replace hEX := hEX.trans (if_neg (RG_neq (x := r_73) (c := (-1)) (show RG r_73 0 255 from h_79) (by decide +kernel)))
    refine lv_istore_n (lv' := [(3, .int r_73), (0, .ref h0), (1, .ref h1), (2, .int 6)]) hx hb dX4_readAtom_4 rfl hl (Nat.le_of_ble_eq_true rfl) rfl (fun ls hl => ?_)
    as_aux_lemma =>
    refine lv_iload_n hx hb dX4_readAtom_5 rfl (lv_at hl 0 rfl) ?_
    refine lv_if_ge (tgt := 13) hx hb dX4_readAtom_6 rfl (fun c_85 => ?_) (fun c_85 => ?_)
    · replace hEX := hEX.trans (if_pos c_85)
      refine va_ldcS hx hb hown hE_32 dX4_readAtom_13 ?_
      refine lv_iload_n hx hb dX4_readAtom_15 rfl (lv_at hl 0 rfl) ?_
      refine lv_i2c hx hb dX4_readAtom_16 rfl ?_
      refine lv_topi (fun x_86 ex_86 => ?_)
      replace hEX := hEX.trans (exl_eq ex_86)
      have g_87 : RG x_86 0 65535 := RG_i2c ex_86
      obtain ⟨hPc, hDc, hFc, hqc⟩ := cl_cut (wc := []) hP hD hS hA [] (by decide +kernel) rfl
      have hKc := hK.sub (tys' := []) [] rfl
      have hrv := bv_Orecv hE_33 hS
      refine va_calli (va_runV (As := [.int x_86]) (rest := []) ⟨hx, hb, hml, hown, hts⟩ (c_J0_indexOf_0f7a4_4 l dC dI H.size ts4 x_86 tv4 g_87) (cwV 1 hts gf_c_X4_readAtom_6_c_J0_indexOf_0f7a4_4 rfl rfl rfl mdV_J0_indexOf_0f7a4 ⟨Nat.le_of_ble_eq_true rfl, Nat.le_of_ble_eq_true rfl⟩) ⟨fun a U g mk q => by obtain ⟨q0, q1, qP, qK, qD, qE0, qE1, qE2, qE3, qE4⟩ := q; exact ⟨q0, q1, qP, va_K.moved (u := U) (U := U.calling g mk a) (Vm.Alike.refl U.vm) qK, qD, va_Z.moved (u := U) (U := U.calling g mk a) (Vm.Alike.refl U.vm) qE0, va_OF.moved (u := U) (U := U.calling g mk a) (Vm.Alike.refl U.vm) qE1, va_O.moved (u := U) (U := U.calling g mk a) (Vm.Alike.refl U.vm) qE2, va_OF.moved (u := U) (U := U.calling g mk a) (Vm.Alike.refl U.vm) qE3, va_T.moved (u := U) (U := U.calling g mk a) (Vm.Alike.refl U.vm) qE4⟩, hrv, fun U hU hW => ⟨rfl, by rw [hU], by rw [hU]; exact hPc, va_K.moved hW.alike hKc, hDc.weaken (fun _ _ _ _ => trivial), va_Z.moved hW.alike (by rw [hU]; exact (hE_10.kept hS.2.1).narrow hFc), va_OF.moved hW.alike (by rw [hU]; exact (hE_34.kept hS.2.1).narrow hFc), va_O.moved hW.alike (by rw [hU]; exact (hE_33.kept hS.2.1).narrow hFc), va_OF.moved hW.alike (by rw [hU]; exact (hE_35.kept hS.2.1).narrow hFc), va_T.moved hW.alike (by rw [hU]; exact (hE_36.kept hS.2.1).narrow hFc)⟩⟩ rfl rfl hl.1 rfl (lv_room (Nat.le_of_ble_eq_true rfl)) dX4_readAtom_17 ⟨Nat.le_of_ble_eq_true rfl, Nat.le_of_ble_eq_true rfl⟩) hS (fun q _ h => hFc q h) hFc (fun r_88 u t H1 locs ht hvm hw hB hz1 hk1 hS => ?_)
      obtain ⟨hP1, hK1, hD1⟩ := hB
      rw [ht] at hP1
      have hP := bv_still hP hk1
      generalize H1 = H at hP hS ⊢
      as_aux_lemma =>
      rcases hw with ⟨h_89, h_90⟩ | ⟨h_91, h_92, h_93⟩
      · have h_90 : r_88 = _ := h_90
        replace hEX := hEX.trans (exc1_eq h_90)
        replace hEX := hEX.trans (if_pos (show r_88 = (-1) from h_89))
        rw [h_89]
        exact hU _ _ _ (J20b r_73 x_74 g_h0_f1 h_81 g_h1_f2 g_h1_f3 h_80 h_79 hEX _ _ _ hP hD hS (lv_sub hl [0, 1, 2, 3] rfl))
      · have h_93 : r_88 = _ := h_93
        replace hEX := hEX.trans (exc1_eq h_93)
        replace hEX := hEX.trans (if_neg (RG_neq (x := r_88) (c := (-1)) (show RG r_88 0 5 from h_91) (by decide +kernel)))
        exact hU _ _ _ (J20c r_73 r_88 x_74 g_h0_f1 h_81 g_h1_f2 g_h1_f3 h_80 h_79 h_91 hEX _ _ _ hP hD hS (lv_sub hl [0, 1, 2, 3] rfl))
    · replace hEX := hEX.trans (if_neg c_85)
      have d_94 := Int32.not_le.mp c_85
      have g_95 : RG r_73 0 (-1) := RG_lt1 h_79 (RG_k 0 0 rfl) d_94 (by decide +kernel)
      exact RG_dead (RG_lt1 h_79 (RG_k 0 0 rfl) d_94 (b' := (-1)) (by decide +kernel)) (by decide +kernel)
noncomputable def wd_c_X9_takeEither (a0 : Nat) (a1 : Nat) (a2 : Int32) (a3 : Int32) (a4 : Int32) (a5 : Nat) (a6 : ClassId) (a7 : Nat → Int32) : va_W := [(a0, .inr (9, [.ref a1, .int a2, .int a3, .int a4])), (a5, .inl (a6, 240, .inl a7))]
noncomputable def wf_c_X9_takeEither : List Cond := List.cons (.code yX9_takeEither cX9_takeEither 4 (some .int)) (@HAppend.hAppend (List Cond) (List Cond) (List Cond) _ [.methodLink RX9 29 yX9_peek, .instanceMethod yX9_peek, .selects RX9 yX9_peek yX9_peek, .initialized RX9, .code yX9_peek cX9_peek 1 (some .int), .fieldLink RX9 22 "BuoyVote$Tape" "at" "I", .fieldLink RX9 19 "BuoyVote$Tape" "length" "I", .fieldLink RX9 11 "BuoyVote$Tape" "bytes" "[I", .fieldLink RX9 15 "BuoyVote$Tape" "wrong" "I"] wsX90)
theorem iw_c_X9_takeEither_X9 : ∀ w ∈ wsX90, w ∈ wf_c_X9_takeEither := fun w h => List.mem_cons_of_mem _ (List.mem_append_right _ h)
set_option maxRecDepth 20000 in
theorem gf_c_X9_takeEither_c_X9_peek : GoodIn wf_c_X9_takeEither (wsV RX9 29 RX9 yX9_peek wf_c_X9_peek) := goodIn_app (gi_l [1, 2, 3, 4] rfl rfl) (gi_cons (j := 5) rfl rfl (goodIn_app (gi_l [6, 7, 8] rfl rfl) (goodIn_sub iw_c_X9_takeEither_X9 gw_X9)))
set_option maxHeartbeats 4000000 in
set_option maxRecDepth 100000 in
theorem c_X9_takeEither (l : Launch) (dC : Nat → ClassId) (dI : Nat → Nat → Nat) (sz : Nat) (h0 : Nat) (p1 : Int32) (p2 : Int32) (h0_0 : Nat) (h0_f1 : Int32) (h0_f2 : Int32) (h0_f3 : Int32) (h0_0k : ClassId) (h0_0c : Nat → Int32) (g_p1 : RG p1 0 60) (g_p2 : RG p2 0 60) (g_h0_f1 : RG h0_f1 0 240) (g_h0_f2 : RG h0_f2 0 240) (g_h0_f3 : RG h0_f3 (-1) 240) (a_h0_0c : AI h0_0c 0 255) : Met l yX9_takeEither wf_c_X9_takeEither ({ frames := 1, cells := 0, slots := 0, locals := 20 }) (va_Pc [.ref h0, .int p1, .int p2] (fun U => U.heap.size = sz ∧ va_P (dC, dI) vwCl (wd_c_X9_takeEither h0 h0_0 h0_f1 h0_f2 h0_f3 h0_0 h0_0k h0_0c) U.heap ∧ va_K (dC, dI) vwCl [(h0_0k, .int)] U ∧ va_D (fun _ => True) (wd_c_X9_takeEither h0 h0_0 h0_f1 h0_f2 h0_f3 h0_0 h0_0k h0_0c))) (va_Qi (fun (r : Int32) (u : (Int32)) => (RG r 0 60 ∧ RG u 0 240 ∧ h0_f2.toInt + 0 ≤ (u).toInt ∧ (r, u) = fx_c_X9_takeEither p1 p2 h0_f1 h0_f2 h0_f3 h0_0c)) (fun (u : (Int32)) t => va_P (dC, dI) vwCl (wd_c_X9_takeEither h0 h0_0 h0_f1 u h0_f3 h0_0 h0_0k h0_0c) t.heap ∧ va_K (dC, dI) vwCl [] t ∧ va_D (va_A (wd_c_X9_takeEither h0 h0_0 h0_f1 h0_f2 h0_f3 h0_0 h0_0k h0_0c) sz) (wd_c_X9_takeEither h0 h0_0 h0_f1 u h0_f3 h0_0 h0_0k h0_0c)) (va_A (wd_c_X9_takeEither h0 h0_0 h0_f1 h0_f2 h0_f3 h0_0 h0_0k h0_0c) sz)) 0 0 (va_A (wd_c_X9_takeEither h0 h0_0 h0_f1 h0_f2 h0_f3 h0_0 h0_0k h0_0c) sz) := by
  refine Met.ofW (cc := cX9_takeEither) (maxL := 4) (ret := (some .int)) (by decide +kernel) rfl ?_
  intro p e s m args below meth c s₁ B hml hv
  obtain ⟨rfl, hsz, hP, hK, hD0⟩ := hv
  have hx := B.exec
  have hb := B.bytes
  have hr := B.returns
  have hts := atoms_spec (ws := wf_c_X9_takeEither) B.pre
  have hown : s.vm.findClass RX9 = some m.cls := findClass_of_methodNamed B.named
  have hlocks := B.notSynchronized
  subst hsz
  have hD := hD0.self (sz := s.heap.size)
  generalize hAe : va_A (wd_c_X9_takeEither h0 h0_0 h0_f1 h0_f2 h0_f3 h0_0 h0_0k h0_0c) s.heap.size = A at hD ⊢
  have hA : ∀ q : Nat, s.heap.size ≤ q → A q := fun q h => by rw [← hAe]; exact Or.inr h
  have hP : va_P (dC, dI) vwCl (wd_c_X9_takeEither h0 h0_0 h0_f1 h0_f2 h0_f3 h0_0 h0_0k h0_0c) s.heap := hP
  have hl := lv_entry ([.ref h0, .int p1, .int p2]) (n := 4) (Nat.le_of_ble_eq_true rfl)
  rw [lg_entry_eq]
  generalize (lg_sl ([.ref h0, .int p1, .int p2]) ++ List.replicate (4 - (lg_sl ([.ref h0, .int p1, .int p2])).length) Slot.unset).toArray = ls at hl ⊢
  have hl : lv_has ls 4 [(0, .ref h0), (1, .int p1), (2, .int p2)] := hl
  obtain ⟨H, hHe⟩ : ∃ H : Heap, s.heap = H := ⟨_, rfl⟩
  have hS : va_S A s.heap H [] := by rw [hHe]; exact va_S.rf
  have hP : va_P (dC, dI) vwCl (wd_c_X9_takeEither h0 h0_0 h0_f1 h0_f2 h0_f3 h0_0 h0_0k h0_0c) H := by rw [← hHe]; exact hP
  rw [hHe]
  obtain ⟨RES, hR⟩ : ∃ z, fx_c_X9_takeEither p1 p2 h0_f1 h0_f2 h0_f3 h0_0c = z := ⟨_, rfl⟩
  have hEX : RES = fx_c_X9_takeEither p1 p2 h0_f1 h0_f2 h0_f3 h0_0c := hR.symm
  refine wj (fun G hG hU => ?_)
  as_aux_lemma =>
  have J25 : ∀ (j25_l3 : Int32) (j25_h0_f2 : Int32) (g_h0_f1 : RG h0_f1 1 240) (g_h0_f2 : RG h0_f2 0 240) (g_h0_f3 : RG h0_f3 (-1) (-1)) (g_j25_h0_f2 : RG j25_h0_f2 0 239) (g_j25_l3 : RG j25_l3 0 60) (g_p1 : RG p1 0 60) (g_p2 : RG p2 0 60) (r_h0_f2_j25_h0_f2 : h0_f2.toInt + 0 ≤ j25_h0_f2.toInt) (hEX : RES = fx_c_X9_takeEither_p25 j25_l3 j25_h0_f2) (H : Heap) (locs : List Loc) (ls : Array Slot) (hP : va_P (dC, dI) vwCl (wd_c_X9_takeEither h0 h0_0 h0_f1 j25_h0_f2 h0_f3 h0_0 h0_0k h0_0c) H) (hD : va_D A (wd_c_X9_takeEither h0 h0_0 h0_f1 j25_h0_f2 h0_f3 h0_0 h0_0k h0_0c)) (hS : va_S A s.heap H locs) (hl : lv_has ls 4 [(3, .int j25_l3), (0, .ref h0)]), G H locs (F0 m 25 ls []) := by
    as_aux_lemma =>
    intro j25_l3 j25_h0_f2 g_h0_f1 g_h0_f2 g_h0_f3 g_j25_h0_f2 g_j25_l3 g_p1 g_p2 r_h0_f2_j25_h0_f2 hEX H locs ls hP hD hS hl
    refine hG _ _ _ ?_
    refine lv_aload_n hx hb dX9_takeEither_25 rfl (lv_at hl 1 rfl) ?_
    refine lv_dup hx hb dX9_takeEither_26 rfl ?_
    refine va_get (D := (dC, dI)) (ci := 9) (v := .int j25_h0_f2) (C := RX9) (T := TX9) (N := 4) hx hb hts iw_c_X9_takeEither_X9 hown hK hP 0 rfl rfl 2 (by decide +kernel) (hts (.fieldLink RX9 22 "BuoyVote$Tape" "at" "I") (List.mem_of_getElem? (i := 6) rfl)) (fun _ h9 => h9) rfl dX9_takeEither_27 ?_
    refine lv_iconst (v := 1) hx hb dX9_takeEither_30 kc_iconst_1 ?_
    refine lv_iadd hx hb dX9_takeEither_31 ?_
    refine lv_topi (fun x_1 ex_1 => ?_)
    replace hEX := hEX.trans (exl_eq ex_1)
    have g_2 : RG x_1 1 240 := RG_add ex_1 g_j25_h0_f2 (RG_k 1 1 rfl) (by decide +kernel)
    have q_3 : x_1.toInt = j25_h0_f2.toInt + 1 := eq_add ex_1 g_j25_h0_f2 (q := 1) rfl (by decide +kernel)
    refine va_put (D := (dC, dI)) (ci := 9) (v := .int x_1) (ty := .int) (C := RX9) (T := TX9) (N := 4) hx hb hts iw_c_X9_takeEither_X9 tyX9 tyX9_ok nmX9 hown hK hP hD hS 0 rfl rfl 2 (by decide +kernel) (hts (.fieldLink RX9 22 "BuoyVote$Tape" "at" "I") (List.mem_of_getElem? (i := 6) rfl)) (fun _ h9 => h9) rfl (by decide +kernel) rfl rfl (Nat.le_of_ble_eq_true rfl) dX9_takeEither_32 (fun H locs hP hD hS => ?_)
    have hP : va_P (dC, dI) vwCl (wd_c_X9_takeEither h0 h0_0 h0_f1 x_1 h0_f3 h0_0 h0_0k h0_0c) H := hP
    have hD : va_D A (wd_c_X9_takeEither h0 h0_0 h0_f1 x_1 h0_f3 h0_0 h0_0k h0_0c) := hD
    refine lv_iload_n hx hb dX9_takeEither_35 rfl (lv_at hl 0 rfl) ?_
    as_aux_lemma =>
    have hK9 := hK.sub (tys' := []) [] rfl
    exact W.iret (v := j25_l3) hx hb hr (fun t ht hW => ⟨⟨j25_l3, x_1, rfl, ⟨g_j25_l3, (RG_w g_2 (by decide +kernel)), (by have := r_h0_f2_j25_h0_f2; have := q_3; show h0_f2.toInt + 0 ≤ x_1.toInt; omega), (hR.trans hEX).symm⟩, by rw [ht]; exact hP, va_K.moved hW.alike hK9, hD⟩, hS.F ht⟩) hS.2.2 dX9_takeEither_36
  refine hG _ _ _ ?_
  refine lv_aload_n hx hb dX9_takeEither_0 rfl (lv_at hl 0 rfl) ?_
  obtain ⟨hPc, hDc, hFc, hqc⟩ := cl_cut (wc := (wd_c_X9_peek h0 h0_0 h0_f1 h0_f2 h0_f3 h0_0 h0_0k h0_0c)) hP hD hS hA [0, 1] (by decide +kernel) rfl
  have hKc := hK.sub (tys' := [(h0_0k, .int)]) [0] rfl
  have hrv := va_recv hKc hPc (ci := 9) (q0 := 0) rfl rfl
  refine va_calli (va_runV (As := []) (rest := []) ⟨hx, hb, hml, hown, hts⟩ (c_X9_peek l dC dI H.size h0 h0_0 h0_f1 h0_f2 h0_f3 h0_0k h0_0c g_h0_f1 g_h0_f2 g_h0_f3 a_h0_0c) (cwV 0 hts gf_c_X9_takeEither_c_X9_peek rfl rfl rfl mdV_X9_peek ⟨Nat.le_of_ble_eq_true rfl, Nat.le_of_ble_eq_true rfl⟩) ⟨fun a U g mk q => by obtain ⟨q0, q1, qP, qK, qD⟩ := q; exact ⟨q0, q1, qP, va_K.moved (u := U) (U := U.calling g mk a) (Vm.Alike.refl U.vm) qK, qD⟩, hrv, fun U hU hW => ⟨rfl, by rw [hU], by rw [hU]; exact hPc, va_K.moved hW.alike hKc, hDc.weaken (fun _ _ _ _ => trivial)⟩⟩ rfl rfl hl.1 rfl (lv_room (Nat.le_of_ble_eq_true rfl)) dX9_takeEither_1 ⟨Nat.le_of_ble_eq_true rfl, Nat.le_of_ble_eq_true rfl⟩) hS (fun q _ h => hFc q h) hFc (fun r_4 x_5 t H1 locs ht hvm hw hB hz1 hk1 hS => ?_)
  obtain ⟨hP1, hK1, hD1⟩ := hB
  rw [ht] at hP1
  obtain ⟨hP, hD⟩ := cl_put (w1 := (wd_c_X9_peek h0 h0_0 h0_f1 x_5 h0_f3 h0_0 h0_0k h0_0c)) (nw := (wd_c_X9_takeEither h0 h0_0 h0_f1 x_5 h0_f3 h0_0 h0_0k h0_0c)) hP hD [0, 1] [2, 3] 2 rfl hqc (by decide +kernel) rfl hk1 hFc hP1 hD1
  generalize H1 = H at hP hS ⊢
  as_aux_lemma =>
  rcases hw with ⟨h_6, h_7, h_8, h_9⟩ | ⟨h_10, h_11, h_12, h_13, h_14⟩
  · have h_9 : (r_4, x_5) = _ := h_9
    replace hEX := hEX.trans (exc2_eq h_9)
    replace hEX := hEX.trans (if_pos (show r_4 = (-1) from h_6))
    rw [h_6]
    refine lv_istore_n (lv' := [(3, .int (-1)), (0, .ref h0), (1, .int p1), (2, .int p2)]) hx hb dX9_takeEither_4 rfl hl (Nat.le_of_ble_eq_true rfl) rfl (fun ls hl => ?_)
    refine lv_aload_n hx hb dX9_takeEither_5 rfl (lv_at hl 1 rfl) ?_
    refine va_get (D := (dC, dI)) (ci := 9) (v := .int h0_f3) (C := RX9) (T := TX9) (N := 4) hx hb hts iw_c_X9_takeEither_X9 hown hK hP 0 rfl rfl 3 (by decide +kernel) (hts (.fieldLink RX9 15 "BuoyVote$Tape" "wrong" "I") (List.mem_of_getElem? (i := 9) rfl)) (fun _ h9 => h9) rfl dX9_takeEither_6 ?_
    refine lv_iconst (v := (-1)) hx hb dX9_takeEither_9 kc_iconst_m1 ?_
    refine lv_icmp_ne (tgt := 23) hx hb dX9_takeEither_10 rfl (fun c_15 => ?_) (fun c_15 => ?_)
    · replace hEX := hEX.trans (if_neg c_15)
      have g_16 : RG h0_f3 0 240 := RG_ne1 g_h0_f3 (q := (-1)) rfl c_15 (by decide +kernel)
      refine lv_iconst (v := 0) hx hb dX9_takeEither_23 kc_iconst_0 ?_
      have hK9 := hK.sub (tys' := []) [] rfl
      exact W.iret (v := 0) hx hb hr (fun t ht hW => ⟨⟨0, x_5, rfl, ⟨(RG_w (RG_k 0 0 rfl) (by decide +kernel)), h_7, (by have := h_8; show h0_f2.toInt + 0 ≤ x_5.toInt; omega), (hR.trans hEX).symm⟩, by rw [ht]; exact hP, va_K.moved hW.alike hK9, hD⟩, hS.F ht⟩) hS.2.2 dX9_takeEither_24
    · replace hEX := hEX.trans (if_pos c_15)
      have g_17 : RG h0_f3 (-1) (-1) := RG_eq1 g_h0_f3 (RG_k (-1) (-1) rfl) c_15 (by decide +kernel)
      refine lv_iload_n hx hb dX9_takeEither_13 rfl (lv_at hl 0 rfl) ?_
      as_aux_lemma =>
      refine lv_iload_n hx hb dX9_takeEither_14 rfl (lv_at hl 2 rfl) ?_
      refine lv_icmp_eq (tgt := 25) hx hb dX9_takeEither_15 rfl (fun c_18 => ?_) (fun c_18 => ?_)
      · replace hEX := hEX.trans (if_pos c_18)
        exact RG_dead (RG_eq1 (RG_k (-1) (-1) rfl) g_p1 c_18 (a' := 0) (b' := (-1)) (by decide +kernel)) (by decide +kernel)
      · replace hEX := hEX.trans (if_neg c_18)
        refine lv_iload_n hx hb dX9_takeEither_18 rfl (lv_at hl 0 rfl) ?_
        refine lv_iload_n hx hb dX9_takeEither_19 rfl (lv_at hl 3 rfl) ?_
        refine lv_icmp_eq (tgt := 25) hx hb dX9_takeEither_20 rfl (fun c_19 => ?_) (fun c_19 => ?_)
        · replace hEX := hEX.trans (if_pos c_19)
          exact RG_dead (RG_eq1 (RG_k (-1) (-1) rfl) g_p2 c_19 (a' := 0) (b' := (-1)) (by decide +kernel)) (by decide +kernel)
        · replace hEX := hEX.trans (if_neg c_19)
          refine lv_iconst (v := 0) hx hb dX9_takeEither_23 kc_iconst_0 ?_
          have hK9 := hK.sub (tys' := []) [] rfl
          exact W.iret (v := 0) hx hb hr (fun t ht hW => ⟨⟨0, x_5, rfl, ⟨(RG_w (RG_k 0 0 rfl) (by decide +kernel)), h_7, (by have := h_8; show h0_f2.toInt + 0 ≤ x_5.toInt; omega), (hR.trans hEX).symm⟩, by rw [ht]; exact hP, va_K.moved hW.alike hK9, hD⟩, hS.F ht⟩) hS.2.2 dX9_takeEither_24
  · have h_14 : (r_4, x_5) = _ := h_14
    replace hEX := hEX.trans (exc2_eq h_14)
    replace hEX := hEX.trans (if_neg (RG_neq (x := r_4) (c := (-1)) (show RG r_4 0 255 from h_10) (by decide +kernel)))
    refine lv_istore_n (lv' := [(3, .int r_4), (0, .ref h0), (1, .int p1), (2, .int p2)]) hx hb dX9_takeEither_4 rfl hl (Nat.le_of_ble_eq_true rfl) rfl (fun ls hl => ?_)
    as_aux_lemma =>
    refine lv_aload_n hx hb dX9_takeEither_5 rfl (lv_at hl 1 rfl) ?_
    refine va_get (D := (dC, dI)) (ci := 9) (v := .int h0_f3) (C := RX9) (T := TX9) (N := 4) hx hb hts iw_c_X9_takeEither_X9 hown hK hP 0 rfl rfl 3 (by decide +kernel) (hts (.fieldLink RX9 15 "BuoyVote$Tape" "wrong" "I") (List.mem_of_getElem? (i := 9) rfl)) (fun _ h9 => h9) rfl dX9_takeEither_6 ?_
    refine lv_iconst (v := (-1)) hx hb dX9_takeEither_9 kc_iconst_m1 ?_
    refine lv_icmp_ne (tgt := 23) hx hb dX9_takeEither_10 rfl (fun c_20 => ?_) (fun c_20 => ?_)
    · replace hEX := hEX.trans (if_neg c_20)
      have g_21 : RG h0_f3 0 240 := RG_ne1 g_h0_f3 (q := (-1)) rfl c_20 (by decide +kernel)
      refine lv_iconst (v := 0) hx hb dX9_takeEither_23 kc_iconst_0 ?_
      have hK9 := hK.sub (tys' := []) [] rfl
      exact W.iret (v := 0) hx hb hr (fun t ht hW => ⟨⟨0, x_5, rfl, ⟨(RG_w (RG_k 0 0 rfl) (by decide +kernel)), (RG_w h_11 (by decide +kernel)), (by have := h_13; show h0_f2.toInt + 0 ≤ x_5.toInt; omega), (hR.trans hEX).symm⟩, by rw [ht]; exact hP, va_K.moved hW.alike hK9, hD⟩, hS.F ht⟩) hS.2.2 dX9_takeEither_24
    · replace hEX := hEX.trans (if_pos c_20)
      have g_22 : RG h0_f3 (-1) (-1) := RG_eq1 g_h0_f3 (RG_k (-1) (-1) rfl) c_20 (by decide +kernel)
      refine lv_iload_n hx hb dX9_takeEither_13 rfl (lv_at hl 0 rfl) ?_
      refine lv_iload_n hx hb dX9_takeEither_14 rfl (lv_at hl 2 rfl) ?_
      refine lv_icmp_eq (tgt := 25) hx hb dX9_takeEither_15 rfl (fun c_23 => ?_) (fun c_23 => ?_)
      · replace hEX := hEX.trans (if_pos c_23)
        have g_24 : RG r_4 0 60 := RG_eq1 h_10 g_p1 c_23 (by decide +kernel)
        exact hU _ _ _ (J25 r_4 x_5 h_12 g_h0_f2 g_22 h_11 g_24 g_p1 g_p2 (by have := h_13; omega) hEX _ _ _ hP hD hS (lv_sub hl [0, 1] rfl))
      · replace hEX := hEX.trans (if_neg c_23)
        refine lv_iload_n hx hb dX9_takeEither_18 rfl (lv_at hl 0 rfl) ?_
        as_aux_lemma =>
        refine lv_iload_n hx hb dX9_takeEither_19 rfl (lv_at hl 3 rfl) ?_
        refine lv_icmp_eq (tgt := 25) hx hb dX9_takeEither_20 rfl (fun c_25 => ?_) (fun c_25 => ?_)
        · replace hEX := hEX.trans (if_pos c_25)
          have g_26 : RG r_4 0 60 := RG_eq1 h_10 g_p2 c_25 (by decide +kernel)
          exact hU _ _ _ (J25 r_4 x_5 h_12 g_h0_f2 g_22 h_11 g_26 g_p1 g_p2 (by have := h_13; omega) hEX _ _ _ hP hD hS (lv_sub hl [0, 1] rfl))
        · replace hEX := hEX.trans (if_neg c_25)
          refine lv_iconst (v := 0) hx hb dX9_takeEither_23 kc_iconst_0 ?_
          have hK9 := hK.sub (tys' := []) [] rfl
          exact W.iret (v := 0) hx hb hr (fun t ht hW => ⟨⟨0, x_5, rfl, ⟨(RG_w (RG_k 0 0 rfl) (by decide +kernel)), (RG_w h_11 (by decide +kernel)), (by have := h_13; show h0_f2.toInt + 0 ≤ x_5.toInt; omega), (hR.trans hEX).symm⟩, by rw [ht]; exact hP, va_K.moved hW.alike hK9, hD⟩, hS.F ht⟩) hS.2.2 dX9_takeEither_24
noncomputable def wd_c_X4_readSum_6 (a0 : Nat) (a1 : Nat) (a2 : Int32) (a3 : Int32) (a4 : Int32) (a5 : Nat) (a6 : ClassId) (a7 : Nat → Int32) (a8 : Nat) (a9 : Nat) (a10 : Int32) (a11 : Nat) (a12 : Nat) (a13 : ClassId) (a14 : Nat → Int32) : va_W := [(a0, .inr (9, [.ref a1, .int a2, .int a3, .int a4])), (a5, .inl (a6, 240, .inl a7)), (a8, .inr (4, [.ref a9, .int a10, .ref a11])), (a12, .inl (a13, 240, .inl a14))]
noncomputable def wf_c_X4_readSum_6 : List Cond := List.cons (.code yX4_readSum cX4_readSum 6 none) (@HAppend.hAppend (List Cond) (List Cond) (List Cond) _ (@HAppend.hAppend (List Cond) (List Cond) (List Cond) _ [.methodLink RX4 72 yX9_isRight, .instanceMethod yX9_isRight, .selects RX9 yX9_isRight yX9_isRight, .initialized RX9, .code yX9_isRight cX9_isRight 1 (some .boolean), .fieldLink RX9 15 "BuoyVote$Tape" "wrong" "I", .methodLink RX4 85 yX4_readAtom, .instanceMethod yX4_readAtom, .selects RX4 yX4_readAtom yX4_readAtom, .initialized RX4, .code yX4_readAtom cX4_readAtom 6 none, .methodLink RX4 41 yX9_peek, .instanceMethod yX9_peek, .selects RX9 yX9_peek yX9_peek, .code yX9_peek cX9_peek 1 (some .int), .fieldLink RX9 22 "BuoyVote$Tape" "at" "I", .fieldLink RX9 19 "BuoyVote$Tape" "length" "I", .fieldLink RX9 11 "BuoyVote$Tape" "bytes" "[I", .methodLink RX4 93 yJ0_indexOf_0f7a4, .instanceMethod yJ0_indexOf_0f7a4, .selects RJ0 yJ0_indexOf_0f7a4 yJ0_indexOf_0f7a4, .initialized RJ0, .code yJ0_indexOf_0f7a4 cJ0_indexOf_0f7a4 2 (some .int), .methodLink RJ0 633 yJ0_indexOf_7cf53, .instanceMethod yJ0_indexOf_7cf53, .selects RJ0 yJ0_indexOf_7cf53 yJ0_indexOf_7cf53, .code yJ0_indexOf_7cf53 cJ0_indexOf_7cf53 3 (some .int), .methodLink RJ0 492 yJ0_isLatin1_aae02, .instanceMethod yJ0_isLatin1_aae02, .selects RJ0 yJ0_isLatin1_aae02 yJ0_isLatin1_aae02, .code yJ0_isLatin1_aae02 cJ0_isLatin1_aae02 1 (some .boolean), .fieldLink RJ0 38 "java/lang/String" "COMPACT_STRINGS" "Z", .fieldLink RJ0 15 "java/lang/String" "coder" "B", .fieldLink RJ0 9 "java/lang/String" "value" "[B", .methodLink RJ0 505 yJ0_length_8abf5, .instanceMethod yJ0_length_8abf5, .selects RJ0 yJ0_length_8abf5 yJ0_length_8abf5, .code yJ0_length_8abf5 cJ0_length_8abf5 1 (some .int), .methodLink RJ0 335 yJ0_coder_7d493, .instanceMethod yJ0_coder_7d493, .selects RJ0 yJ0_coder_7d493 yJ0_coder_7d493, .code yJ0_coder_7d493 cJ0_coder_7d493 1 (some .byte), .methodLink RJ0 637 yJ1_indexOf_4cfef, .static yJ1_indexOf_4cfef, .initialized RJ1, .code yJ1_indexOf_4cfef cJ1_indexOf_4cfef 4 (some .int), .methodLink RJ1 88 yJ1_canEncode_9a6ad, .static yJ1_canEncode_9a6ad, .code yJ1_canEncode_9a6ad cJ1_canEncode_9a6ad 1 (some .boolean), .methodLink RJ1 92 Lib.Math.max.name, .static Lib.Math.max.name, .initialized "java/lang/Math", .code Lib.Math.max.name Lib.Math.max.code 2 (some .int), .methodLink RJ1 38 Lib.Math.min.name, .static Lib.Math.min.name, .code Lib.Math.min.name Lib.Math.min.code 2 (some .int), .methodLink RJ1 95 yJ1_indexOfChar_4cfef, .static yJ1_indexOfChar_4cfef, .code yJ1_indexOfChar_4cfef cJ1_indexOfChar_4cfef 6 (some .int), .methodLink RX4 99 yX9_number, .instanceMethod yX9_number, .selects RX9 yX9_number yX9_number, .code yX9_number cX9_number 4 (some .int), .methodLink RX4 82 yX9_refuseHere, .instanceMethod yX9_refuseHere, .selects RX9 yX9_refuseHere yX9_refuseHere, .code yX9_refuseHere cX9_refuseHere 1 none, .methodLink RX9 25 yX9_refuse, .instanceMethod yX9_refuse, .selects RX9 yX9_refuse yX9_refuse, .code yX9_refuse cX9_refuse 2 none, .methodLink RX4 79 yX9_skip, .instanceMethod yX9_skip, .selects RX9 yX9_skip yX9_skip, .code yX9_skip cX9_skip 1 none, .methodLink RX4 60 yX4_emit, .instanceMethod yX4_emit, .selects RX4 yX4_emit yX4_emit, .code yX4_emit cX4_emit 2 none, .fieldLink RX4 20 "BuoyVote$Law" "length" "I", .fieldLink RX4 11 "BuoyVote$Law" "code" "[I", .methodLink RX4 88 yX9_takeEither, .instanceMethod yX9_takeEither, .selects RX9 yX9_takeEither yX9_takeEither, .code yX9_takeEither cX9_takeEither 4 (some .int), .methodLink RX9 29 yX9_peek] wsX90) wsX40)
theorem iw_c_X4_readSum_6_X9 : ∀ w ∈ wsX90, w ∈ wf_c_X4_readSum_6 := fun w h => List.mem_cons_of_mem _ (List.mem_append_left _ (List.mem_append_right _ h))
theorem iw_c_X4_readSum_6_X4 : ∀ w ∈ wsX40, w ∈ wf_c_X4_readSum_6 := fun w h => List.mem_cons_of_mem _ (List.mem_append_right _ h)
set_option maxRecDepth 20000 in
theorem gf_c_X4_readSum_6_c_X9_takeEither : GoodIn wf_c_X4_readSum_6 (wsV RX4 88 RX9 yX9_takeEither wf_c_X9_takeEither) := goodIn_app (gi_l [82, 83, 84, 4] rfl rfl) (gi_cons (j := 85) rfl rfl (goodIn_app (gi_l [86, 13, 14, 4, 15, 16, 17, 18, 6] rfl rfl) (goodIn_sub iw_c_X4_readSum_6_X9 gw_X9)))
set_option maxRecDepth 20000 in
theorem gf_c_X4_readSum_6_c_X4_emit : GoodIn wf_c_X4_readSum_6 (wsV RX4 60 RX4 yX4_emit wf_c_X4_emit) := goodIn_app (gi_l [76, 77, 78, 10] rfl rfl) (gi_cons (j := 79) rfl rfl (goodIn_app (gi_l [80, 81] rfl rfl) (goodIn_sub iw_c_X4_readSum_6_X4 gw_X4)))
set_option maxRecDepth 20000 in
theorem gf_c_X4_readSum_6_c_X9_isRight : GoodIn wf_c_X4_readSum_6 (wsV RX4 72 RX9 yX9_isRight wf_c_X9_isRight) := goodIn_app (gi_l [1, 2, 3, 4] rfl rfl) (gi_cons (j := 5) rfl rfl (goodIn_app (gi_l [6] rfl rfl) (goodIn_sub iw_c_X4_readSum_6_X9 gw_X9)))
set_option maxRecDepth 20000 in
theorem gf_c_X4_readSum_6_c_X4_readAtom_6 : GoodIn wf_c_X4_readSum_6 (wsV RX4 85 RX4 yX4_readAtom wf_c_X4_readAtom_6) := goodIn_app (gi_l [7, 8, 9, 10] rfl rfl) (gi_cons (j := 11) rfl rfl (goodIn_app (goodIn_app (gi_l [12, 13, 14, 4, 15, 16, 17, 18, 19, 20, 21, 22, 23, 24, 25, 26, 27, 28, 29, 30, 31, 32, 33, 34, 35, 36, 37, 38, 39, 40, 41, 42, 43, 44, 45, 46, 47, 48, 49, 50, 51, 52, 53, 54, 55, 56, 57, 58, 59, 60, 61, 62, 63, 64, 65, 66, 67, 68, 69, 70, 71, 6, 72, 73, 74, 75, 76, 77, 78, 10, 79, 80, 81] rfl rfl) (goodIn_sub iw_c_X4_readSum_6_X9 gw_X9)) (goodIn_sub iw_c_X4_readSum_6_X4 gw_X4)))
set_option maxHeartbeats 4000000 in
set_option maxRecDepth 100000 in
theorem c_X4_readSum_6 (l : Launch) (dC : Nat → ClassId) (dI : Nat → Nat → Nat) (sz : Nat) (h0 : Nat) (h1 : Nat) (h1_0 : Nat) (h1_f1 : Int32) (h1_f2 : Int32) (h1_f3 : Int32) (h1_0k : ClassId) (h1_0c : Nat → Int32) (h0_0 : Nat) (h0_f1 : Int32) (h0_2 : Nat) (h0_0k : ClassId) (h0_0c : Nat → Int32) (ts4 : Nat) (tv4 : Nat) (g_h1_f1 : RG h1_f1 0 240) (g_h1_f2 : RG h1_f2 0 240) (g_h1_f3 : RG h1_f3 (-1) 240) (a_h1_0c : AI h1_0c 0 255) (g_h0_f1 : RG h0_f1 0 240) : Met l yX4_readSum wf_c_X4_readSum_6 ({ frames := 5, cells := 0, slots := 0, locals := 116 }) (va_Pc [.ref h0, .ref h1, .int 6] (fun U => U.heap.size = sz ∧ va_P (dC, dI) vwCl (wd_c_X4_readSum_6 h1 h1_0 h1_f1 h1_f2 h1_f3 h1_0 h1_0k h1_0c h0 h0_0 h0_f1 h0_2 h0_0 h0_0k h0_0c) U.heap ∧ va_K (dC, dI) vwCl [(h1_0k, .int), (h0_0k, .int)] U ∧ va_D (fun _ => True) (wd_c_X4_readSum_6 h1 h1_0 h1_f1 h1_f2 h1_f3 h1_0 h1_0k h1_0c h0 h0_0 h0_f1 h0_2 h0_0 h0_0k h0_0c) ∧ vk_R RX4 91 "vlrdph" ts4 U ∧ va_Z "java/lang/String" "COMPACT_STRINGS" "Z" (.int 1) (va_A (wd_c_X4_readSum_6 h1 h1_0 h1_f1 h1_f2 h1_f3 h1_0 h1_0k h1_0c h0 h0_0 h0_f1 h0_2 h0_0 h0_0k h0_0c) sz) U U.heap ∧ va_OF "java/lang/String" "coder" "B" (.int 0) ts4 (va_A (wd_c_X4_readSum_6 h1 h1_0 h1_f1 h1_f2 h1_f3 h1_0 h1_0k h1_0c h0 h0_0 h0_f1 h0_2 h0_0 h0_0k h0_0c) sz) U U.heap ∧ va_O "java/lang/String" ts4 (va_A (wd_c_X4_readSum_6 h1 h1_0 h1_f1 h1_f2 h1_f3 h1_0 h1_0k h1_0c h0 h0_0 h0_f1 h0_2 h0_0 h0_0k h0_0c) sz) U U.heap ∧ va_OF "java/lang/String" "value" "[B" (.ref tv4) ts4 (va_A (wd_c_X4_readSum_6 h1 h1_0 h1_f1 h1_f2 h1_f3 h1_0 h1_0k h1_0c h0 h0_0 h0_f1 h0_2 h0_0 h0_0k h0_0c) sz) U U.heap ∧ va_T .byte tv4 6 (fun j => .int ([118, 108, 114, 100, 112, 104].getD j 0)) (va_A (wd_c_X4_readSum_6 h1 h1_0 h1_f1 h1_f2 h1_f3 h1_0 h1_0k h1_0c h0 h0_0 h0_f1 h0_2 h0_0 h0_0k h0_0c) sz) U U.heap)) (va_Qv (fun (u : (Int32) × (Int32) × (Int32) × (Nat → Int32)) => (RG u.1 0 240 ∧ RG u.2.1 (-1) 240 ∧ RG u.2.2.1 0 240 ∧ (u.1, u.2.1, u.2.2.1, u.2.2.2) = fx_c_X4_readSum_6 h1_f1 h1_f2 h1_f3 h1_0c h0_f1 h0_0c)) (fun (u : (Int32) × (Int32) × (Int32) × (Nat → Int32)) t => va_P (dC, dI) vwCl (wd_c_X4_readSum_6 h1 h1_0 h1_f1 (u.1) (u.2.1) h1_0 h1_0k h1_0c h0 h0_0 (u.2.2.1) h0_2 h0_0 h0_0k (u.2.2.2)) t.heap ∧ va_K (dC, dI) vwCl [] t ∧ va_D (va_A (wd_c_X4_readSum_6 h1 h1_0 h1_f1 h1_f2 h1_f3 h1_0 h1_0k h1_0c h0 h0_0 h0_f1 h0_2 h0_0 h0_0k h0_0c) sz) (wd_c_X4_readSum_6 h1 h1_0 h1_f1 (u.1) (u.2.1) h1_0 h1_0k h1_0c h0 h0_0 (u.2.2.1) h0_2 h0_0 h0_0k (u.2.2.2))) (va_A (wd_c_X4_readSum_6 h1 h1_0 h1_f1 h1_f2 h1_f3 h1_0 h1_0k h1_0c h0 h0_0 h0_f1 h0_2 h0_0 h0_0k h0_0c) sz)) 0 0 (va_A (wd_c_X4_readSum_6 h1 h1_0 h1_f1 h1_f2 h1_f3 h1_0 h1_0k h1_0c h0 h0_0 h0_f1 h0_2 h0_0 h0_0k h0_0c) sz) := by
  refine Met.ofW (cc := cX4_readSum) (maxL := 6) (ret := none) (by decide +kernel) rfl ?_
  intro p e s m args below meth c s₁ B hml hv
  obtain ⟨rfl, hsz, hP, hK, hD0, hE_32, hE_10, hE_34, hE_33, hE_35, hE_36⟩ := hv
  have hx := B.exec
  have hb := B.bytes
  have hr := B.returns
  have hts := atoms_spec (ws := wf_c_X4_readSum_6) B.pre
  have hown : s.vm.findClass RX4 = some m.cls := findClass_of_methodNamed B.named
  have hlocks := B.notSynchronized
  subst hsz
  have hD := hD0.self (sz := s.heap.size)
  generalize hAe : va_A (wd_c_X4_readSum_6 h1 h1_0 h1_f1 h1_f2 h1_f3 h1_0 h1_0k h1_0c h0 h0_0 h0_f1 h0_2 h0_0 h0_0k h0_0c) s.heap.size = A at hD hE_10 hE_34 hE_33 hE_35 hE_36 ⊢
  have hA : ∀ q : Nat, s.heap.size ≤ q → A q := fun q h => by rw [← hAe]; exact Or.inr h
  have hP : va_P (dC, dI) vwCl (wd_c_X4_readSum_6 h1 h1_0 h1_f1 h1_f2 h1_f3 h1_0 h1_0k h1_0c h0 h0_0 h0_f1 h0_2 h0_0 h0_0k h0_0c) s.heap := hP
  have hl := lv_entry ([.ref h0, .ref h1, .int 6]) (n := 6) (Nat.le_of_ble_eq_true rfl)
  rw [lg_entry_eq]
  generalize (lg_sl ([.ref h0, .ref h1, .int 6]) ++ List.replicate (6 - (lg_sl ([.ref h0, .ref h1, .int 6])).length) Slot.unset).toArray = ls at hl ⊢
  have hl : lv_has ls 6 [(0, .ref h0), (1, .ref h1), (2, .int 6)] := hl
  obtain ⟨H, hHe⟩ : ∃ H : Heap, s.heap = H := ⟨_, rfl⟩
  have hS : va_S A s.heap H [] := by rw [hHe]; exact va_S.rf
  have hP : va_P (dC, dI) vwCl (wd_c_X4_readSum_6 h1 h1_0 h1_f1 h1_f2 h1_f3 h1_0 h1_0k h1_0c h0 h0_0 h0_f1 h0_2 h0_0 h0_0k h0_0c) H := by rw [← hHe]; exact hP
  rw [hHe]
  obtain ⟨RES, hR⟩ : ∃ z, fx_c_X4_readSum_6 h1_f1 h1_f2 h1_f3 h1_0c h0_f1 h0_0c = z := ⟨_, rfl⟩
  have hEX : RES = fx_c_X4_readSum_6 h1_f1 h1_f2 h1_f3 h1_0c h0_f1 h0_0c := hR.symm
  refine wj (fun G hG hU => ?_)
  as_aux_lemma =>
  have J8 : ∀ (n8 : Nat) (j8_l5 : Int32) (j8_l4 : Int32) (j8_l3 : Int32) (j8_h1_f2 : Int32) (j8_h1_f3 : Int32) (j8_h0_f1 : Int32) (j8_h0_0c : Nat → Int32) (hM8 : MU j8_l5 < n8) (g_h0_f1 : RG h0_f1 0 240) (g_h1_f1 : RG h1_f1 0 240) (g_h1_f2 : RG h1_f2 0 240) (g_h1_f3 : RG h1_f3 (-1) 240) (g_j8_h0_f1 : RG j8_h0_f1 0 240) (g_j8_h1_f2 : RG j8_h1_f2 0 240) (g_j8_h1_f3 : RG j8_h1_f3 (-1) 240) (g_j8_l3 : RG j8_l3 0 60) (g_j8_l4 : RG j8_l4 0 60) (g_j8_l5 : RG j8_l5 0 240) (hEX : RES = fx_c_X4_readSum_6_p8 h1_f1 h1_0c n8 j8_l5 j8_l4 j8_l3 j8_h1_f2 j8_h1_f3 j8_h0_f1 j8_h0_0c) (H : Heap) (locs : List Loc) (ls : Array Slot) (hP : va_P (dC, dI) vwCl (wd_c_X4_readSum_6 h1 h1_0 h1_f1 j8_h1_f2 j8_h1_f3 h1_0 h1_0k h1_0c h0 h0_0 j8_h0_f1 h0_2 h0_0 h0_0k j8_h0_0c) H) (hD : va_D A (wd_c_X4_readSum_6 h1 h1_0 h1_f1 j8_h1_f2 j8_h1_f3 h1_0 h1_0k h1_0c h0 h0_0 j8_h0_f1 h0_2 h0_0 h0_0k j8_h0_0c)) (hS : va_S A s.heap H locs) (hl : lv_has ls 6 [(5, .int j8_l5), (4, .int j8_l4), (3, .int j8_l3), (0, .ref h0), (1, .ref h1), (2, .int 6)]), G H locs (F0 m 8 ls []) := by
    as_aux_lemma =>
    intro n8
    induction n8 with
    | zero => intros; exact absurd (by assumption) (Nat.not_lt_zero _)
    | succ n8 ih8 =>
      intro j8_l5 j8_l4 j8_l3 j8_h1_f2 j8_h1_f3 j8_h0_f1 j8_h0_0c hM8 g_h0_f1 g_h1_f1 g_h1_f2 g_h1_f3 g_j8_h0_f1 g_j8_h1_f2 g_j8_h1_f3 g_j8_l3 g_j8_l4 g_j8_l5 hEX H locs ls hP hD hS hl
      have J80 : ∀ (j80_l3 : Int32) (j80_l4 : Int32) (j80_h1_f2 : Int32) (j80_h1_f3 : Int32) (j80_h0_f1 : Int32) (j80_h0_0c : Nat → Int32) (g_h0_f1 : RG h0_f1 0 240) (g_h1_f1 : RG h1_f1 0 240) (g_h1_f2 : RG h1_f2 0 240) (g_h1_f3 : RG h1_f3 (-1) 240) (g_j80_h0_f1 : RG j80_h0_f1 0 240) (g_j80_h1_f2 : RG j80_h1_f2 0 240) (g_j80_h1_f3 : RG j80_h1_f3 (-1) 240) (g_j80_l3 : RG j80_l3 0 60) (g_j80_l4 : RG j80_l4 0 60) (g_j8_h0_f1 : RG j8_h0_f1 0 240) (g_j8_h1_f2 : RG j8_h1_f2 0 240) (g_j8_h1_f3 : RG j8_h1_f3 (-1) (-1)) (g_j8_l3 : RG j8_l3 0 60) (g_j8_l4 : RG j8_l4 0 60) (g_j8_l5 : RG j8_l5 0 239) (hEX : RES = fx_c_X4_readSum_6_p80 j8_l5 (fx_c_X4_readSum_6_p8 h1_f1 h1_0c n8) j80_l3 j80_l4 j80_h1_f2 j80_h1_f3 j80_h0_f1 j80_h0_0c) (H : Heap) (locs : List Loc) (ls : Array Slot) (hP : va_P (dC, dI) vwCl (wd_c_X4_readSum_6 h1 h1_0 h1_f1 j80_h1_f2 j80_h1_f3 h1_0 h1_0k h1_0c h0 h0_0 j80_h0_f1 h0_2 h0_0 h0_0k j80_h0_0c) H) (hD : va_D A (wd_c_X4_readSum_6 h1 h1_0 h1_f1 j80_h1_f2 j80_h1_f3 h1_0 h1_0k h1_0c h0 h0_0 j80_h0_f1 h0_2 h0_0 h0_0k j80_h0_0c)) (hS : va_S A s.heap H locs) (hl : lv_has ls 6 [(3, .int j80_l3), (5, .int j8_l5), (4, .int j80_l4), (0, .ref h0), (1, .ref h1), (2, .int 6)]), G H locs (F0 m 80 ls []) := by
        as_aux_lemma =>
        intro j80_l3 j80_l4 j80_h1_f2 j80_h1_f3 j80_h0_f1 j80_h0_0c g_h0_f1 g_h1_f1 g_h1_f2 g_h1_f3 g_j80_h0_f1 g_j80_h1_f2 g_j80_h1_f3 g_j80_l3 g_j80_l4 g_j8_h0_f1 g_j8_h1_f2 g_j8_h1_f3 g_j8_l3 g_j8_l4 g_j8_l5 hEX H locs ls hP hD hS hl
        refine hG _ _ _ ?_
        obtain ⟨x_1, ex_1⟩ : ∃ y : Int32, y = j8_l5 + 1 := ⟨_, rfl⟩
        have g_2 : RG x_1 1 240 := RG_add ex_1 g_j8_l5 (RG_k 1 1 rfl) (by decide +kernel)
        replace hEX := hEX.trans (exl_eq ex_1)
        refine lv_iinc (v := x_1) (lv' := [(5, .int x_1), (3, .int j80_l3), (4, .int j80_l4), (0, .ref h0), (1, .ref h1), (2, .int 6)]) hx hb dX4_readSum_80 hl (k := 1) rfl (by rw [ex_1]; rfl) (Nat.le_of_ble_eq_true rfl) rfl (fun ls hl => ?_)
        refine lv_goto (tgt := 8) hx hb dX4_readSum_83 rfl ?_
        exact hU _ _ _ (ih8 x_1 j80_l4 j80_l3 j80_h1_f2 j80_h1_f3 j80_h0_f1 j80_h0_0c (mu_s (MU_add ex_1 g_j8_l5 (q := 1) rfl (by decide +kernel)) hM8) g_h0_f1 g_h1_f1 g_h1_f2 g_h1_f3 g_j80_h0_f1 g_j80_h1_f2 g_j80_h1_f3 g_j80_l3 g_j80_l4 (RG_w g_2 (by decide +kernel)) hEX _ _ _ hP hD hS (lv_sub hl [0, 2, 1, 3, 4, 5] rfl))
      have J64 : ∀ (j64_l3 : Int32) (j64_h1_f2 : Int32) (j64_h1_f3 : Int32) (j64_h0_f1 : Int32) (j64_h0_0c : Nat → Int32) (g_h0_f1 : RG h0_f1 0 240) (g_h1_f1 : RG h1_f1 0 240) (g_h1_f2 : RG h1_f2 0 240) (g_h1_f3 : RG h1_f3 (-1) 240) (g_j64_h0_f1 : RG j64_h0_f1 0 240) (g_j64_h1_f2 : RG j64_h1_f2 0 240) (g_j64_h1_f3 : RG j64_h1_f3 (-1) 240) (g_j64_l3 : RG j64_l3 0 0) (g_j8_h0_f1 : RG j8_h0_f1 0 240) (g_j8_h1_f2 : RG j8_h1_f2 0 240) (g_j8_h1_f3 : RG j8_h1_f3 (-1) (-1)) (g_j8_l3 : RG j8_l3 0 60) (g_j8_l4 : RG j8_l4 0 60) (g_j8_l5 : RG j8_l5 0 239) (hEX : RES = fx_c_X4_readSum_6_p64 h1_f1 h1_0c j8_l5 (fx_c_X4_readSum_6_p8 h1_f1 h1_0c n8) j64_l3 j64_h1_f2 j64_h1_f3 j64_h0_f1 j64_h0_0c) (H : Heap) (locs : List Loc) (ls : Array Slot) (hP : va_P (dC, dI) vwCl (wd_c_X4_readSum_6 h1 h1_0 h1_f1 j64_h1_f2 j64_h1_f3 h1_0 h1_0k h1_0c h0 h0_0 j64_h0_f1 h0_2 h0_0 h0_0k j64_h0_0c) H) (hD : va_D A (wd_c_X4_readSum_6 h1 h1_0 h1_f1 j64_h1_f2 j64_h1_f3 h1_0 h1_0k h1_0c h0 h0_0 j64_h0_f1 h0_2 h0_0 h0_0k j64_h0_0c)) (hS : va_S A s.heap H locs) (hl : lv_has ls 6 [(3, .int j64_l3), (5, .int j8_l5), (0, .ref h0), (1, .ref h1), (2, .int 6)]), G H locs (F0 m 64 ls []) := by
        as_aux_lemma =>
        intro j64_l3 j64_h1_f2 j64_h1_f3 j64_h0_f1 j64_h0_0c g_h0_f1 g_h1_f1 g_h1_f2 g_h1_f3 g_j64_h0_f1 g_j64_h1_f2 g_j64_h1_f3 g_j64_l3 g_j8_h0_f1 g_j8_h1_f2 g_j8_h1_f3 g_j8_l3 g_j8_l4 g_j8_l5 hEX H locs ls hP hD hS hl
        refine hG _ _ _ ?_
        refine lv_aload_n hx hb dX4_readSum_64 rfl (lv_at hl 3 rfl) ?_
        refine lv_bipush (v := 43) hx hb dX4_readSum_65 kc_bipush_43 ?_
        refine lv_bipush (v := 45) hx hb dX4_readSum_67 kc_bipush_45 ?_
        obtain ⟨hPc, hDc, hFc, hqc⟩ := cl_cut (wc := (wd_c_X9_takeEither h1 h1_0 h1_f1 j64_h1_f2 j64_h1_f3 h1_0 h1_0k h1_0c)) hP hD hS hA [0, 1] (by decide +kernel) rfl
        have hKc := hK.sub (tys' := [(h1_0k, .int)]) [0] rfl
        have hrv := va_recv hKc hPc (ci := 9) (q0 := 0) rfl rfl
        refine va_calli (va_runV (As := [.int 43, .int 45]) (rest := []) ⟨hx, hb, hml, hown, hts⟩ (c_X9_takeEither l dC dI H.size h1 43 45 h1_0 h1_f1 j64_h1_f2 j64_h1_f3 h1_0k h1_0c (RG_w (RG_k 43 43 rfl) (by decide +kernel)) (RG_w (RG_k 45 45 rfl) (by decide +kernel)) g_h1_f1 g_j64_h1_f2 g_j64_h1_f3 a_h1_0c) (cwV 2 hts gf_c_X4_readSum_6_c_X9_takeEither rfl rfl rfl mdV_X9_takeEither ⟨Nat.le_of_ble_eq_true rfl, Nat.le_of_ble_eq_true rfl⟩) ⟨fun a U g mk q => by obtain ⟨q0, q1, qP, qK, qD⟩ := q; exact ⟨q0, q1, qP, va_K.moved (u := U) (U := U.calling g mk a) (Vm.Alike.refl U.vm) qK, qD⟩, hrv, fun U hU hW => ⟨rfl, by rw [hU], by rw [hU]; exact hPc, va_K.moved hW.alike hKc, hDc.weaken (fun _ _ _ _ => trivial)⟩⟩ rfl rfl hl.1 rfl (lv_room (Nat.le_of_ble_eq_true rfl)) dX4_readSum_69 ⟨Nat.le_of_ble_eq_true rfl, Nat.le_of_ble_eq_true rfl⟩) hS (fun q _ h => hFc q h) hFc (fun r_3 x_4 t H1 locs ht hvm hw hB hz1 hk1 hS => ?_)
        obtain ⟨hP1, hK1, hD1⟩ := hB
        rw [ht] at hP1
        obtain ⟨hP, hD⟩ := cl_put (w1 := (wd_c_X9_takeEither h1 h1_0 h1_f1 x_4 j64_h1_f3 h1_0 h1_0k h1_0c)) (nw := (wd_c_X4_readSum_6 h1 h1_0 h1_f1 x_4 j64_h1_f3 h1_0 h1_0k h1_0c h0 h0_0 j64_h0_f1 h0_2 h0_0 h0_0k j64_h0_0c)) hP hD [0, 1] [4, 5, 2, 3] 4 rfl hqc (by decide +kernel) rfl hk1 hFc hP1 hD1
        generalize H1 = H at hP hS ⊢
        as_aux_lemma =>
        rcases hw with ⟨h_5, h_6, h_7, h_8⟩
        have h_8 : (r_3, x_4) = _ := h_8
        replace hEX := hEX.trans (exc2_eq h_8)
        refine lv_istore (lv' := [(4, .int r_3), (3, .int j64_l3), (5, .int j8_l5), (0, .ref h0), (1, .ref h1), (2, .int 6)]) hx hb dX4_readSum_72 hl (Nat.le_of_ble_eq_true rfl) rfl (fun ls hl => ?_)
        refine lv_iload hx hb dX4_readSum_74 (lv_at hl 0 rfl) ?_
        refine lv_if_ne (tgt := 80) hx hb dX4_readSum_76 rfl (fun c_9 => ?_) (fun c_9 => ?_)
        · replace hEX := hEX.trans (if_neg c_9)
          have g_10 : RG r_3 1 60 := RG_ne1 h_5 (q := 0) rfl c_9 (by decide +kernel)
          exact hU _ _ _ (J80 j64_l3 r_3 x_4 j64_h1_f3 j64_h0_f1 j64_h0_0c g_h0_f1 g_h1_f1 g_h1_f2 g_h1_f3 g_j64_h0_f1 h_6 g_j64_h1_f3 (RG_w g_j64_l3 (by decide +kernel)) (RG_w g_10 (by decide +kernel)) g_j8_h0_f1 g_j8_h1_f2 g_j8_h1_f3 g_j8_l3 g_j8_l4 g_j8_l5 hEX _ _ _ hP hD hS (lv_sub hl [1, 2, 0, 3, 4, 5] rfl))
        · replace hEX := hEX.trans (if_pos c_9)
          have g_11 : RG r_3 0 0 := RG_eq1 h_5 (RG_k 0 0 rfl) c_9 (by decide +kernel)
          have hK9 := hK.sub (tys' := []) [] rfl
          exact W.vret hx hb hr (fun t ht hW => ⟨⟨(x_4, j64_h1_f3, j64_h0_f1, j64_h0_0c), rfl, ⟨h_6, g_j64_h1_f3, g_j64_h0_f1, (hR.trans hEX).symm⟩, by rw [ht]; exact hP, va_K.moved hW.alike hK9, hD⟩, hS.F ht⟩) hS.2.2 dX4_readSum_79
      have J39 : ∀ (j39_h1_f2 : Int32) (j39_h1_f3 : Int32) (j39_h0_f1 : Int32) (j39_h0_0c : Nat → Int32) (g_h0_f1 : RG h0_f1 0 240) (g_h1_f1 : RG h1_f1 0 240) (g_h1_f2 : RG h1_f2 0 240) (g_h1_f3 : RG h1_f3 (-1) 240) (g_j39_h0_f1 : RG j39_h0_f1 0 240) (g_j39_h1_f2 : RG j39_h1_f2 0 240) (g_j39_h1_f3 : RG j39_h1_f3 (-1) 240) (g_j8_h0_f1 : RG j8_h0_f1 0 240) (g_j8_h1_f2 : RG j8_h1_f2 0 240) (g_j8_h1_f3 : RG j8_h1_f3 (-1) (-1)) (g_j8_l3 : RG j8_l3 0 60) (g_j8_l4 : RG j8_l4 0 60) (g_j8_l5 : RG j8_l5 0 239) (hEX : RES = fx_c_X4_readSum_6_p39 h1_f1 h1_0c j8_l5 j8_l4 (fx_c_X4_readSum_6_p8 h1_f1 h1_0c n8) j39_h1_f2 j39_h1_f3 j39_h0_f1 j39_h0_0c) (H : Heap) (locs : List Loc) (ls : Array Slot) (hP : va_P (dC, dI) vwCl (wd_c_X4_readSum_6 h1 h1_0 h1_f1 j39_h1_f2 j39_h1_f3 h1_0 h1_0k h1_0c h0 h0_0 j39_h0_f1 h0_2 h0_0 h0_0k j39_h0_0c) H) (hD : va_D A (wd_c_X4_readSum_6 h1 h1_0 h1_f1 j39_h1_f2 j39_h1_f3 h1_0 h1_0k h1_0c h0 h0_0 j39_h0_f1 h0_2 h0_0 h0_0k j39_h0_0c)) (hS : va_S A s.heap H locs) (hl : lv_has ls 6 [(5, .int j8_l5), (4, .int j8_l4), (0, .ref h0), (1, .ref h1), (2, .int 6)]), G H locs (F0 m 39 ls []) := by
        as_aux_lemma =>
        intro j39_h1_f2 j39_h1_f3 j39_h0_f1 j39_h0_0c g_h0_f1 g_h1_f1 g_h1_f2 g_h1_f3 g_j39_h0_f1 g_j39_h1_f2 g_j39_h1_f3 g_j8_h0_f1 g_j8_h1_f2 g_j8_h1_f3 g_j8_l3 g_j8_l4 g_j8_l5 hEX H locs ls hP hD hS hl
        refine hG _ _ _ ?_
        refine lv_aload_n hx hb dX4_readSum_39 rfl (lv_at hl 3 rfl) ?_
        refine lv_bipush (v := 42) hx hb dX4_readSum_40 kc_bipush_42 ?_
        refine lv_bipush (v := 47) hx hb dX4_readSum_42 kc_bipush_47 ?_
        obtain ⟨hPc, hDc, hFc, hqc⟩ := cl_cut (wc := (wd_c_X9_takeEither h1 h1_0 h1_f1 j39_h1_f2 j39_h1_f3 h1_0 h1_0k h1_0c)) hP hD hS hA [0, 1] (by decide +kernel) rfl
        have hKc := hK.sub (tys' := [(h1_0k, .int)]) [0] rfl
        have hrv := va_recv hKc hPc (ci := 9) (q0 := 0) rfl rfl
        refine va_calli (va_runV (As := [.int 42, .int 47]) (rest := []) ⟨hx, hb, hml, hown, hts⟩ (c_X9_takeEither l dC dI H.size h1 42 47 h1_0 h1_f1 j39_h1_f2 j39_h1_f3 h1_0k h1_0c (RG_w (RG_k 42 42 rfl) (by decide +kernel)) (RG_w (RG_k 47 47 rfl) (by decide +kernel)) g_h1_f1 g_j39_h1_f2 g_j39_h1_f3 a_h1_0c) (cwV 2 hts gf_c_X4_readSum_6_c_X9_takeEither rfl rfl rfl mdV_X9_takeEither ⟨Nat.le_of_ble_eq_true rfl, Nat.le_of_ble_eq_true rfl⟩) ⟨fun a U g mk q => by obtain ⟨q0, q1, qP, qK, qD⟩ := q; exact ⟨q0, q1, qP, va_K.moved (u := U) (U := U.calling g mk a) (Vm.Alike.refl U.vm) qK, qD⟩, hrv, fun U hU hW => ⟨rfl, by rw [hU], by rw [hU]; exact hPc, va_K.moved hW.alike hKc, hDc.weaken (fun _ _ _ _ => trivial)⟩⟩ rfl rfl hl.1 rfl (lv_room (Nat.le_of_ble_eq_true rfl)) dX4_readSum_44 ⟨Nat.le_of_ble_eq_true rfl, Nat.le_of_ble_eq_true rfl⟩) hS (fun q _ h => hFc q h) hFc (fun r_12 x_13 t H1 locs ht hvm hw hB hz1 hk1 hS => ?_)
        obtain ⟨hP1, hK1, hD1⟩ := hB
        rw [ht] at hP1
        obtain ⟨hP, hD⟩ := cl_put (w1 := (wd_c_X9_takeEither h1 h1_0 h1_f1 x_13 j39_h1_f3 h1_0 h1_0k h1_0c)) (nw := (wd_c_X4_readSum_6 h1 h1_0 h1_f1 x_13 j39_h1_f3 h1_0 h1_0k h1_0c h0 h0_0 j39_h0_f1 h0_2 h0_0 h0_0k j39_h0_0c)) hP hD [0, 1] [4, 5, 2, 3] 4 rfl hqc (by decide +kernel) rfl hk1 hFc hP1 hD1
        generalize H1 = H at hP hS ⊢
        as_aux_lemma =>
        rcases hw with ⟨h_14, h_15, h_16, h_17⟩
        have h_17 : (r_12, x_13) = _ := h_17
        replace hEX := hEX.trans (exc2_eq h_17)
        refine lv_istore_n (lv' := [(3, .int r_12), (5, .int j8_l5), (4, .int j8_l4), (0, .ref h0), (1, .ref h1), (2, .int 6)]) hx hb dX4_readSum_47 rfl hl (Nat.le_of_ble_eq_true rfl) rfl (fun ls hl => ?_)
        refine lv_iload_n hx hb dX4_readSum_48 rfl (lv_at hl 0 rfl) ?_
        refine lv_if_ne (tgt := 80) hx hb dX4_readSum_49 rfl (fun c_18 => ?_) (fun c_18 => ?_)
        · replace hEX := hEX.trans (if_neg c_18)
          have g_19 : RG r_12 1 60 := RG_ne1 h_14 (q := 0) rfl c_18 (by decide +kernel)
          exact hU _ _ _ (J80 r_12 j8_l4 x_13 j39_h1_f3 j39_h0_f1 j39_h0_0c g_h0_f1 g_h1_f1 g_h1_f2 g_h1_f3 g_j39_h0_f1 h_15 g_j39_h1_f3 (RG_w g_19 (by decide +kernel)) g_j8_l4 g_j8_h0_f1 g_j8_h1_f2 g_j8_h1_f3 g_j8_l3 g_j8_l4 g_j8_l5 hEX _ _ _ hP hD hS (lv_sub hl [0, 1, 2, 3, 4, 5] rfl))
        · replace hEX := hEX.trans (if_pos c_18)
          have g_20 : RG r_12 0 0 := RG_eq1 h_14 (RG_k 0 0 rfl) c_18 (by decide +kernel)
          refine lv_iload hx hb dX4_readSum_52 (lv_at hl 2 rfl) ?_
          refine lv_if_eq (tgt := 64) hx hb dX4_readSum_54 rfl (fun c_21 => ?_) (fun c_21 => ?_)
          · replace hEX := hEX.trans (if_pos c_21)
            have g_22 : RG j8_l4 0 0 := RG_eq1 g_j8_l4 (RG_k 0 0 rfl) c_21 (by decide +kernel)
            exact hU _ _ _ (J64 r_12 x_13 j39_h1_f3 j39_h0_f1 j39_h0_0c g_h0_f1 g_h1_f1 g_h1_f2 g_h1_f3 g_j39_h0_f1 h_15 g_j39_h1_f3 g_20 g_j8_h0_f1 g_j8_h1_f2 g_j8_h1_f3 g_j8_l3 (RG_w g_22 (by decide +kernel)) g_j8_l5 hEX _ _ _ hP hD hS (lv_sub hl [0, 1, 3, 4, 5] rfl))
          · replace hEX := hEX.trans (if_neg c_21)
            have g_23 : RG j8_l4 1 60 := RG_ne1 g_j8_l4 (q := 0) rfl c_21 (by decide +kernel)
            refine lv_aload_n hx hb dX4_readSum_57 rfl (lv_at hl 3 rfl) ?_
            as_aux_lemma =>
            refine lv_iload hx hb dX4_readSum_58 (lv_at hl 2 rfl) ?_
            refine lv_ineg hx hb dX4_readSum_60 ?_
            refine lv_topi (fun x_24 ex_24 => ?_)
            replace hEX := hEX.trans (exl_eq ex_24)
            have g_25 : RG x_24 (-60) (-1) := RG_neg ex_24 g_23 (by decide +kernel)
            obtain ⟨hPc, hDc, hFc, hqc⟩ := cl_cut (wc := (wd_c_X4_emit h0 h0_0 j39_h0_f1 h0_2 h0_0 h0_0k j39_h0_0c)) hP hD hS hA [2, 3] (by decide +kernel) rfl
            have hKc := hK.sub (tys' := [(h0_0k, .int)]) [1] rfl
            have hrv := va_recv hKc hPc (ci := 4) (q0 := 0) rfl rfl
            refine va_callv (va_runV (As := [.int x_24]) (rest := []) ⟨hx, hb, hml, hown, hts⟩ (c_X4_emit l dC dI H.size h0 x_24 h0_0 j39_h0_f1 h0_2 h0_0k j39_h0_0c g_j39_h0_f1) (cwV 1 hts gf_c_X4_readSum_6_c_X4_emit rfl rfl rfl mdV_X4_emit ⟨Nat.le_of_ble_eq_true rfl, Nat.le_of_ble_eq_true rfl⟩) ⟨fun a U g mk q => by obtain ⟨q0, q1, qP, qK, qD⟩ := q; exact ⟨q0, q1, qP, va_K.moved (u := U) (U := U.calling g mk a) (Vm.Alike.refl U.vm) qK, qD⟩, hrv, fun U hU hW => ⟨rfl, by rw [hU], by rw [hU]; exact hPc, va_K.moved hW.alike hKc, hDc.weaken (fun _ _ _ _ => trivial)⟩⟩ rfl rfl hl.1 rfl (lv_room (Nat.le_of_ble_eq_true rfl)) dX4_readSum_61 ⟨Nat.le_of_ble_eq_true rfl, Nat.le_of_ble_eq_true rfl⟩) hS (fun q _ h => hFc q h) hFc (fun u t H1 locs ht hvm hw hB hz1 hk1 hS => ?_)
            obtain ⟨x_27, w_28⟩ := u
            obtain ⟨hP1, hK1, hD1⟩ := hB
            rw [ht] at hP1
            obtain ⟨hP, hD⟩ := cl_put (w1 := (wd_c_X4_emit h0 h0_0 x_27 h0_2 h0_0 h0_0k w_28)) (nw := (wd_c_X4_readSum_6 h1 h1_0 h1_f1 x_13 j39_h1_f3 h1_0 h1_0k h1_0c h0 h0_0 x_27 h0_2 h0_0 h0_0k w_28)) hP hD [2, 3] [0, 1, 4, 5] 4 rfl hqc (by decide +kernel) rfl hk1 hFc hP1 hD1
            generalize H1 = H at hP hS ⊢
            as_aux_lemma =>
            rcases hw with ⟨h_29, h_30⟩
            have h_30 : (x_27, w_28) = _ := h_30
            replace hEX := hEX.trans (exc2_eq h_30)
            exact hU _ _ _ (J64 r_12 x_13 j39_h1_f3 x_27 w_28 g_h0_f1 g_h1_f1 g_h1_f2 g_h1_f3 (RG_w h_29 (by decide +kernel)) h_15 g_j39_h1_f3 g_20 g_j8_h0_f1 g_j8_h1_f2 g_j8_h1_f3 g_j8_l3 (RG_w g_23 (by decide +kernel)) g_j8_l5 hEX _ _ _ hP hD hS (lv_sub hl [0, 1, 3, 4, 5] rfl))
      refine hG _ _ _ ?_
      replace hEX := hEX.trans (if_pos (rfl : j8_l5 = j8_l5))
      refine lv_iload hx hb dX4_readSum_8 (lv_at hl 0 rfl) ?_
      refine lv_sipush (v := 240) hx hb dX4_readSum_10 kc_sipush_240 ?_
      refine lv_icmp_ge (tgt := 86) hx hb dX4_readSum_13 rfl (fun c_31 => ?_) (fun c_31 => ?_)
      · replace hEX := hEX.trans (if_pos c_31)
        have g_32 : RG j8_l5 240 240 := RG_le2 (RG_k 240 240 rfl) g_j8_l5 c_31 (by decide +kernel)
        have hK9 := hK.sub (tys' := []) [] rfl
        exact W.vret hx hb hr (fun t ht hW => ⟨⟨(j8_h1_f2, j8_h1_f3, j8_h0_f1, j8_h0_0c), rfl, ⟨g_j8_h1_f2, g_j8_h1_f3, g_j8_h0_f1, (hR.trans hEX).symm⟩, by rw [ht]; exact hP, va_K.moved hW.alike hK9, hD⟩, hS.F ht⟩) hS.2.2 dX4_readSum_86
      · replace hEX := hEX.trans (if_neg c_31)
        have d_33 := Int32.not_le.mp c_31
        have g_34 : RG j8_l5 0 239 := RG_lt1 g_j8_l5 (RG_k 240 240 rfl) d_33 (by decide +kernel)
        refine lv_aload_n hx hb dX4_readSum_16 rfl (lv_at hl 4 rfl) ?_
        as_aux_lemma =>
        obtain ⟨hPc, hDc, hFc, hqc⟩ := cl_cut (wc := (wd_c_X9_isRight h1 h1_0 h1_f1 j8_h1_f2 j8_h1_f3)) hP hD hS hA [0] (by decide +kernel) rfl
        have hKc := hK.sub (tys' := []) [] rfl
        have hrv := va_recv hKc hPc (ci := 9) (q0 := 0) rfl rfl
        refine va_calli (va_runV (As := []) (rest := []) ⟨hx, hb, hml, hown, hts⟩ (c_X9_isRight l dC dI H.size h1 h1_0 h1_f1 j8_h1_f2 j8_h1_f3 g_h1_f1 g_j8_h1_f2 g_j8_h1_f3) (cwV 0 hts gf_c_X4_readSum_6_c_X9_isRight rfl rfl rfl mdV_X9_isRight ⟨Nat.le_of_ble_eq_true rfl, Nat.le_of_ble_eq_true rfl⟩) ⟨fun a U g mk q => by obtain ⟨q0, q1, qP, qK, qD⟩ := q; exact ⟨q0, q1, qP, va_K.moved (u := U) (U := U.calling g mk a) (Vm.Alike.refl U.vm) qK, qD⟩, hrv, fun U hU hW => ⟨rfl, by rw [hU], by rw [hU]; exact hPc, va_K.moved hW.alike hKc, hDc.weaken (fun _ _ _ _ => trivial)⟩⟩ rfl rfl hl.1 rfl (lv_room (Nat.le_of_ble_eq_true rfl)) dX4_readSum_17 ⟨Nat.le_of_ble_eq_true rfl, Nat.le_of_ble_eq_true rfl⟩) hS (fun q _ h => hFc q h) hFc (fun r_35 u t H1 locs ht hvm hw hB hz1 hk1 hS => ?_)
        obtain ⟨hP1, hK1, hD1⟩ := hB
        rw [ht] at hP1
        obtain ⟨hP, hD⟩ := cl_put (w1 := (wd_c_X9_isRight h1 h1_0 h1_f1 j8_h1_f2 j8_h1_f3)) (nw := (wd_c_X4_readSum_6 h1 h1_0 h1_f1 j8_h1_f2 j8_h1_f3 h1_0 h1_0k h1_0c h0 h0_0 j8_h0_f1 h0_2 h0_0 h0_0k j8_h0_0c)) hP hD [0] [4, 1, 2, 3] 4 rfl hqc (by decide +kernel) rfl hk1 hFc hP1 hD1
        generalize H1 = H at hP hS ⊢
        as_aux_lemma =>
        rcases hw with ⟨h_36, h_37, h_38⟩ | ⟨h_39, h_40, h_41⟩
        · have h_38 : r_35 = _ := h_38
          replace hEX := hEX.trans (exc1_eq h_38)
          replace hEX := hEX.trans (if_pos (show r_35 = 0 from h_36))
          rw [h_36]
          refine lv_if_eq (tgt := 86) hx hb dX4_readSum_20 rfl (fun c_42 => ?_) (fun c_42 => absurd c_42 (by decide +kernel))
          have hK9 := hK.sub (tys' := []) [] rfl
          exact W.vret hx hb hr (fun t ht hW => ⟨⟨(j8_h1_f2, j8_h1_f3, j8_h0_f1, j8_h0_0c), rfl, ⟨g_j8_h1_f2, (RG_w h_37 (by decide +kernel)), g_j8_h0_f1, (hR.trans hEX).symm⟩, by rw [ht]; exact hP, va_K.moved hW.alike hK9, hD⟩, hS.F ht⟩) hS.2.2 dX4_readSum_86
        · have h_41 : r_35 = _ := h_41
          replace hEX := hEX.trans (exc1_eq h_41)
          replace hEX := hEX.trans (if_neg (fun q9 : r_35 = 0 => absurd ((show r_35 = 1 from h_39).symm.trans q9) (by decide +kernel)))
          rw [h_39]
          refine lv_if_eq (tgt := 86) hx hb dX4_readSum_20 rfl (fun c_43 => absurd c_43 (by decide +kernel)) (fun c_43 => ?_)
          refine lv_aload_n hx hb dX4_readSum_23 rfl (lv_at hl 3 rfl) ?_
          as_aux_lemma =>
          refine lv_aload_n hx hb dX4_readSum_24 rfl (lv_at hl 4 rfl) ?_
          refine lv_iload_n hx hb dX4_readSum_25 rfl (lv_at hl 5 rfl) ?_
          obtain ⟨hPc, hDc, hFc, hqc⟩ := cl_cut (wc := (wd_c_X4_readAtom_6 h1 h1_0 h1_f1 j8_h1_f2 j8_h1_f3 h1_0 h1_0k h1_0c h0 h0_0 j8_h0_f1 h0_2 h0_0 h0_0k j8_h0_0c)) hP hD hS hA [0, 1, 2, 3] (by decide +kernel) rfl
          have hKc := hK.sub (tys' := [(h1_0k, .int), (h0_0k, .int)]) [0, 1] rfl
          have hrv := va_recv hKc hPc (ci := 4) (q0 := 2) rfl rfl
          refine va_callv (va_runV (As := [.ref h1, .int 6]) (rest := []) ⟨hx, hb, hml, hown, hts⟩ (c_X4_readAtom_6 l dC dI H.size h0 h1 h1_0 h1_f1 j8_h1_f2 j8_h1_f3 h1_0k h1_0c h0_0 j8_h0_f1 h0_2 h0_0k j8_h0_0c ts4 tv4 g_h1_f1 g_j8_h1_f2 (RG_w h_40 (by decide +kernel)) a_h1_0c g_j8_h0_f1) (cwV 2 hts gf_c_X4_readSum_6_c_X4_readAtom_6 rfl rfl rfl mdV_X4_readAtom ⟨Nat.le_of_ble_eq_true rfl, Nat.le_of_ble_eq_true rfl⟩) ⟨fun a U g mk q => by obtain ⟨q0, q1, qP, qK, qD, qE0, qE1, qE2, qE3, qE4, qE5⟩ := q; exact ⟨q0, q1, qP, va_K.moved (u := U) (U := U.calling g mk a) (Vm.Alike.refl U.vm) qK, qD, vk_R.same rfl qE0, va_Z.moved (u := U) (U := U.calling g mk a) (Vm.Alike.refl U.vm) qE1, va_OF.moved (u := U) (U := U.calling g mk a) (Vm.Alike.refl U.vm) qE2, va_O.moved (u := U) (U := U.calling g mk a) (Vm.Alike.refl U.vm) qE3, va_OF.moved (u := U) (U := U.calling g mk a) (Vm.Alike.refl U.vm) qE4, va_T.moved (u := U) (U := U.calling g mk a) (Vm.Alike.refl U.vm) qE5⟩, hrv, fun U hU hW => ⟨rfl, by rw [hU], by rw [hU]; exact hPc, va_K.moved hW.alike hKc, hDc.weaken (fun _ _ _ _ => trivial), vk_R.warm hW hE_32, va_Z.moved hW.alike (by rw [hU]; exact (hE_10.kept hS.2.1).narrow hFc), va_OF.moved hW.alike (by rw [hU]; exact (hE_34.kept hS.2.1).narrow hFc), va_O.moved hW.alike (by rw [hU]; exact (hE_33.kept hS.2.1).narrow hFc), va_OF.moved hW.alike (by rw [hU]; exact (hE_35.kept hS.2.1).narrow hFc), va_T.moved hW.alike (by rw [hU]; exact (hE_36.kept hS.2.1).narrow hFc)⟩⟩ rfl rfl hl.1 rfl (lv_room (Nat.le_of_ble_eq_true rfl)) dX4_readSum_26 ⟨Nat.le_of_ble_eq_true rfl, Nat.le_of_ble_eq_true rfl⟩) hS (fun q _ h => hFc q h) hFc (fun u t H1 locs ht hvm hw hB hz1 hk1 hS => ?_)
          obtain ⟨x_45, x_46, x_47, w_48⟩ := u
          obtain ⟨hP1, hK1, hD1⟩ := hB
          rw [ht] at hP1
          obtain ⟨hP, hD⟩ := cl_put (w1 := (wd_c_X4_readAtom_6 h1 h1_0 h1_f1 x_45 x_46 h1_0 h1_0k h1_0c h0 h0_0 x_47 h0_2 h0_0 h0_0k w_48)) (nw := (wd_c_X4_readSum_6 h1 h1_0 h1_f1 x_45 x_46 h1_0 h1_0k h1_0c h0 h0_0 x_47 h0_2 h0_0 h0_0k w_48)) hP hD [0, 1, 2, 3] [4, 5, 6, 7] 4 rfl hqc (by decide +kernel) rfl hk1 hFc hP1 hD1
          generalize H1 = H at hP hS ⊢
          as_aux_lemma =>
          rcases hw with ⟨h_49, h_50, h_51, h_52⟩
          have h_52 : (x_45, x_46, x_47, w_48) = _ := h_52
          replace hEX := hEX.trans (exc4_eq h_52)
          refine lv_iload_n hx hb dX4_readSum_29 rfl (lv_at hl 2 rfl) ?_
          refine lv_if_eq (tgt := 39) hx hb dX4_readSum_30 rfl (fun c_53 => ?_) (fun c_53 => ?_)
          · replace hEX := hEX.trans (if_pos c_53)
            have g_54 : RG j8_l3 0 0 := RG_eq1 g_j8_l3 (RG_k 0 0 rfl) c_53 (by decide +kernel)
            exact hU _ _ _ (J39 x_45 x_46 x_47 w_48 g_h0_f1 g_h1_f1 g_h1_f2 g_h1_f3 h_51 h_49 h_50 g_j8_h0_f1 g_j8_h1_f2 h_40 (RG_w g_54 (by decide +kernel)) g_j8_l4 g_34 hEX _ _ _ hP hD hS (lv_sub hl [0, 1, 3, 4, 5] rfl))
          · replace hEX := hEX.trans (if_neg c_53)
            have g_55 : RG j8_l3 1 60 := RG_ne1 g_j8_l3 (q := 0) rfl c_53 (by decide +kernel)
            refine lv_aload_n hx hb dX4_readSum_33 rfl (lv_at hl 3 rfl) ?_
            refine lv_iload_n hx hb dX4_readSum_34 rfl (lv_at hl 2 rfl) ?_
            refine lv_ineg hx hb dX4_readSum_35 ?_
            refine lv_topi (fun x_56 ex_56 => ?_)
            as_aux_lemma =>
            replace hEX := hEX.trans (exl_eq ex_56)
            have g_57 : RG x_56 (-60) (-1) := RG_neg ex_56 g_55 (by decide +kernel)
            obtain ⟨hPc, hDc, hFc, hqc⟩ := cl_cut (wc := (wd_c_X4_emit h0 h0_0 x_47 h0_2 h0_0 h0_0k w_48)) hP hD hS hA [2, 3] (by decide +kernel) rfl
            have hKc := hK.sub (tys' := [(h0_0k, .int)]) [1] rfl
            have hrv := va_recv hKc hPc (ci := 4) (q0 := 0) rfl rfl
            refine va_callv (va_runV (As := [.int x_56]) (rest := []) ⟨hx, hb, hml, hown, hts⟩ (c_X4_emit l dC dI H.size h0 x_56 h0_0 x_47 h0_2 h0_0k w_48 h_51) (cwV 1 hts gf_c_X4_readSum_6_c_X4_emit rfl rfl rfl mdV_X4_emit ⟨Nat.le_of_ble_eq_true rfl, Nat.le_of_ble_eq_true rfl⟩) ⟨fun a U g mk q => by obtain ⟨q0, q1, qP, qK, qD⟩ := q; exact ⟨q0, q1, qP, va_K.moved (u := U) (U := U.calling g mk a) (Vm.Alike.refl U.vm) qK, qD⟩, hrv, fun U hU hW => ⟨rfl, by rw [hU], by rw [hU]; exact hPc, va_K.moved hW.alike hKc, hDc.weaken (fun _ _ _ _ => trivial)⟩⟩ rfl rfl hl.1 rfl (lv_room (Nat.le_of_ble_eq_true rfl)) dX4_readSum_36 ⟨Nat.le_of_ble_eq_true rfl, Nat.le_of_ble_eq_true rfl⟩) hS (fun q _ h => hFc q h) hFc (fun u t H1 locs ht hvm hw hB hz1 hk1 hS => ?_)
            obtain ⟨x_59, w_60⟩ := u
            obtain ⟨hP1, hK1, hD1⟩ := hB
            rw [ht] at hP1
            obtain ⟨hP, hD⟩ := cl_put (w1 := (wd_c_X4_emit h0 h0_0 x_59 h0_2 h0_0 h0_0k w_60)) (nw := (wd_c_X4_readSum_6 h1 h1_0 h1_f1 x_45 x_46 h1_0 h1_0k h1_0c h0 h0_0 x_59 h0_2 h0_0 h0_0k w_60)) hP hD [2, 3] [0, 1, 4, 5] 4 rfl hqc (by decide +kernel) rfl hk1 hFc hP1 hD1
            generalize H1 = H at hP hS ⊢
            as_aux_lemma =>
            rcases hw with ⟨h_61, h_62⟩
            have h_62 : (x_59, w_60) = _ := h_62
            replace hEX := hEX.trans (exc2_eq h_62)
            exact hU _ _ _ (J39 x_45 x_46 x_59 w_60 g_h0_f1 g_h1_f1 g_h1_f2 g_h1_f3 (RG_w h_61 (by decide +kernel)) h_49 h_50 g_j8_h0_f1 g_j8_h1_f2 h_40 (RG_w g_55 (by decide +kernel)) g_j8_l4 g_34 hEX _ _ _ hP hD hS (lv_sub hl [0, 1, 3, 4, 5] rfl))
  refine hG _ _ _ ?_
  refine lv_iconst (v := 0) hx hb dX4_readSum_0 kc_iconst_0 ?_
  refine lv_istore_n (lv' := [(3, .int 0), (0, .ref h0), (1, .ref h1), (2, .int 6)]) hx hb dX4_readSum_1 rfl hl (Nat.le_of_ble_eq_true rfl) rfl (fun ls hl => ?_)
  refine lv_iconst (v := 0) hx hb dX4_readSum_2 kc_iconst_0 ?_
  refine lv_istore (lv' := [(4, .int 0), (3, .int 0), (0, .ref h0), (1, .ref h1), (2, .int 6)]) hx hb dX4_readSum_3 hl (Nat.le_of_ble_eq_true rfl) rfl (fun ls hl => ?_)
  refine lv_iconst (v := 0) hx hb dX4_readSum_5 kc_iconst_0 ?_
  refine lv_istore (lv' := [(5, .int 0), (4, .int 0), (3, .int 0), (0, .ref h0), (1, .ref h1), (2, .int 6)]) hx hb dX4_readSum_6 hl (Nat.le_of_ble_eq_true rfl) rfl (fun ls hl => ?_)
  exact hU _ _ _ (J8 exF 0 0 0 h1_f2 h1_f3 h0_f1 h0_0c MU_F g_h0_f1 g_h1_f1 g_h1_f2 g_h1_f3 g_h0_f1 g_h1_f2 g_h1_f3 (RG_w (RG_k 0 0 rfl) (by decide +kernel)) (RG_w (RG_k 0 0 rfl) (by decide +kernel)) (RG_w (RG_k 0 0 rfl) (by decide +kernel)) hEX _ _ _ hP hD hS (lv_sub hl [0, 1, 2, 3, 4, 5] rfl))
noncomputable def wd_c_X9_expect_2 (a0 : Nat) (a1 : Nat) (a2 : Int32) (a3 : Int32) (a4 : Int32) (a5 : Nat) (a6 : ClassId) (a7 : Nat → Int32) : va_W := [(a0, .inr (9, [.ref a1, .int a2, .int a3, .int a4])), (a5, .inl (a6, 240, .inl a7))]
noncomputable def wf_c_X9_expect_2 : List Cond := List.cons (.code yX9_expect cX9_expect 2 none) (@HAppend.hAppend (List Cond) (List Cond) (List Cond) _ [.fieldLink RX9 15 "BuoyVote$Tape" "wrong" "I", .methodLink RX9 29 yX9_peek, .instanceMethod yX9_peek, .selects RX9 yX9_peek yX9_peek, .initialized RX9, .code yX9_peek cX9_peek 1 (some .int), .fieldLink RX9 22 "BuoyVote$Tape" "at" "I", .fieldLink RX9 19 "BuoyVote$Tape" "length" "I", .fieldLink RX9 11 "BuoyVote$Tape" "bytes" "[I", .methodLink RX9 25 yX9_refuse, .instanceMethod yX9_refuse, .selects RX9 yX9_refuse yX9_refuse, .code yX9_refuse cX9_refuse 2 none] wsX90)
theorem iw_c_X9_expect_2_X9 : ∀ w ∈ wsX90, w ∈ wf_c_X9_expect_2 := fun w h => List.mem_cons_of_mem _ (List.mem_append_right _ h)
set_option maxRecDepth 20000 in
theorem gf_c_X9_expect_2_c_X9_refuse : GoodIn wf_c_X9_expect_2 (wsV RX9 25 RX9 yX9_refuse wf_c_X9_refuse) := goodIn_app (gi_l [10, 11, 12, 5] rfl rfl) (gi_cons (j := 13) rfl rfl (goodIn_app (gi_l [1] rfl rfl) (goodIn_sub iw_c_X9_expect_2_X9 gw_X9)))
set_option maxRecDepth 20000 in
theorem gf_c_X9_expect_2_c_X9_peek : GoodIn wf_c_X9_expect_2 (wsV RX9 29 RX9 yX9_peek wf_c_X9_peek) := goodIn_app (gi_l [2, 3, 4, 5] rfl rfl) (gi_cons (j := 6) rfl rfl (goodIn_app (gi_l [7, 8, 9] rfl rfl) (goodIn_sub iw_c_X9_expect_2_X9 gw_X9)))
set_option maxHeartbeats 4000000 in
set_option maxRecDepth 100000 in
theorem c_X9_expect_2 (l : Launch) (dC : Nat → ClassId) (dI : Nat → Nat → Nat) (sz : Nat) (h0 : Nat) (p1 : Int32) (h0_0 : Nat) (h0_f1 : Int32) (h0_f2 : Int32) (h0_f3 : Int32) (h0_0k : ClassId) (h0_0c : Nat → Int32) (g_p1 : RG p1 0 99) (g_h0_f1 : RG h0_f1 0 240) (g_h0_f2 : RG h0_f2 0 240) (g_h0_f3 : RG h0_f3 (-1) 240) (a_h0_0c : AI h0_0c 0 255) : Met l yX9_expect wf_c_X9_expect_2 ({ frames := 1, cells := 0, slots := 0, locals := 21 }) (va_Pc [.ref h0, .int p1] (fun U => U.heap.size = sz ∧ va_P (dC, dI) vwCl (wd_c_X9_expect_2 h0 h0_0 h0_f1 h0_f2 h0_f3 h0_0 h0_0k h0_0c) U.heap ∧ va_K (dC, dI) vwCl [(h0_0k, .int)] U ∧ va_D (fun _ => True) (wd_c_X9_expect_2 h0 h0_0 h0_f1 h0_f2 h0_f3 h0_0 h0_0k h0_0c))) (va_Qv (fun (u : (Int32) × (Int32)) => (RG u.1 0 240 ∧ RG u.2 (-1) 240 ∧ h0_f2.toInt + 0 ≤ (u.1).toInt ∧ (u.1, u.2) = fx_c_X9_expect_2 p1 h0_f1 h0_f2 h0_f3 h0_0c)) (fun (u : (Int32) × (Int32)) t => va_P (dC, dI) vwCl (wd_c_X9_expect_2 h0 h0_0 h0_f1 (u.1) (u.2) h0_0 h0_0k h0_0c) t.heap ∧ va_K (dC, dI) vwCl [] t ∧ va_D (va_A (wd_c_X9_expect_2 h0 h0_0 h0_f1 h0_f2 h0_f3 h0_0 h0_0k h0_0c) sz) (wd_c_X9_expect_2 h0 h0_0 h0_f1 (u.1) (u.2) h0_0 h0_0k h0_0c)) (va_A (wd_c_X9_expect_2 h0 h0_0 h0_f1 h0_f2 h0_f3 h0_0 h0_0k h0_0c) sz)) 0 0 (va_A (wd_c_X9_expect_2 h0 h0_0 h0_f1 h0_f2 h0_f3 h0_0 h0_0k h0_0c) sz) := by
  refine Met.ofW (cc := cX9_expect) (maxL := 2) (ret := none) (by decide +kernel) rfl ?_
  intro p e s m args below meth c s₁ B hml hv
  obtain ⟨rfl, hsz, hP, hK, hD0⟩ := hv
  have hx := B.exec
  have hb := B.bytes
  have hr := B.returns
  have hts := atoms_spec (ws := wf_c_X9_expect_2) B.pre
  have hown : s.vm.findClass RX9 = some m.cls := findClass_of_methodNamed B.named
  have hlocks := B.notSynchronized
  subst hsz
  have hD := hD0.self (sz := s.heap.size)
  generalize hAe : va_A (wd_c_X9_expect_2 h0 h0_0 h0_f1 h0_f2 h0_f3 h0_0 h0_0k h0_0c) s.heap.size = A at hD ⊢
  have hA : ∀ q : Nat, s.heap.size ≤ q → A q := fun q h => by rw [← hAe]; exact Or.inr h
  have hP : va_P (dC, dI) vwCl (wd_c_X9_expect_2 h0 h0_0 h0_f1 h0_f2 h0_f3 h0_0 h0_0k h0_0c) s.heap := hP
  have hl := lv_entry ([.ref h0, .int p1]) (n := 2) (Nat.le_of_ble_eq_true rfl)
  rw [lg_entry_eq]
  generalize (lg_sl ([.ref h0, .int p1]) ++ List.replicate (2 - (lg_sl ([.ref h0, .int p1])).length) Slot.unset).toArray = ls at hl ⊢
  have hl : lv_has ls 2 [(0, .ref h0), (1, .int p1)] := hl
  obtain ⟨H, hHe⟩ : ∃ H : Heap, s.heap = H := ⟨_, rfl⟩
  have hS : va_S A s.heap H [] := by rw [hHe]; exact va_S.rf
  have hP : va_P (dC, dI) vwCl (wd_c_X9_expect_2 h0 h0_0 h0_f1 h0_f2 h0_f3 h0_0 h0_0k h0_0c) H := by rw [← hHe]; exact hP
  rw [hHe]
  obtain ⟨RES, hR⟩ : ∃ z, fx_c_X9_expect_2 p1 h0_f1 h0_f2 h0_f3 h0_0c = z := ⟨_, rfl⟩
  have hEX : RES = fx_c_X9_expect_2 p1 h0_f1 h0_f2 h0_f3 h0_0c := hR.symm
  refine wj (fun G hG hU => ?_)
  as_aux_lemma =>
  have J29 : ∀ (j29_h0_f2 : Int32) (g_h0_f1 : RG h0_f1 0 240) (g_h0_f2 : RG h0_f2 0 240) (g_h0_f3 : RG h0_f3 (-1) 240) (g_j29_h0_f2 : RG j29_h0_f2 0 240) (g_p1 : RG p1 0 99) (r_h0_f2_j29_h0_f2 : h0_f2.toInt + 0 ≤ j29_h0_f2.toInt) (hEX : RES = fx_c_X9_expect_2_p29 h0_f3 j29_h0_f2) (H : Heap) (locs : List Loc) (ls : Array Slot) (hP : va_P (dC, dI) vwCl (wd_c_X9_expect_2 h0 h0_0 h0_f1 j29_h0_f2 h0_f3 h0_0 h0_0k h0_0c) H) (hD : va_D A (wd_c_X9_expect_2 h0 h0_0 h0_f1 j29_h0_f2 h0_f3 h0_0 h0_0k h0_0c)) (hS : va_S A s.heap H locs) (hl : lv_has ls 2 [(0, .ref h0)]), G H locs (F0 m 29 ls []) := by
    as_aux_lemma =>
    intro j29_h0_f2 g_h0_f1 g_h0_f2 g_h0_f3 g_j29_h0_f2 g_p1 r_h0_f2_j29_h0_f2 hEX H locs ls hP hD hS hl
    refine hG _ _ _ ?_
    refine lv_aload_n hx hb dX9_expect_29 rfl (lv_at hl 0 rfl) ?_
    refine lv_aload_n hx hb dX9_expect_30 rfl (lv_at hl 0 rfl) ?_
    refine va_get (D := (dC, dI)) (ci := 9) (v := .int j29_h0_f2) (C := RX9) (T := TX9) (N := 4) hx hb hts iw_c_X9_expect_2_X9 hown hK hP 0 rfl rfl 2 (by decide +kernel) (hts (.fieldLink RX9 22 "BuoyVote$Tape" "at" "I") (List.mem_of_getElem? (i := 7) rfl)) (fun _ h9 => h9) rfl dX9_expect_31 ?_
    obtain ⟨hPc, hDc, hFc, hqc⟩ := cl_cut (wc := (wd_c_X9_refuse h0 h0_0 h0_f1 j29_h0_f2 h0_f3)) hP hD hS hA [0] (by decide +kernel) rfl
    have hKc := hK.sub (tys' := []) [] rfl
    have hrv := va_recv hKc hPc (ci := 9) (q0 := 0) rfl rfl
    refine va_callv (va_runV (As := [.int j29_h0_f2]) (rest := []) ⟨hx, hb, hml, hown, hts⟩ (c_X9_refuse l dC dI H.size h0 j29_h0_f2 h0_0 h0_f1 j29_h0_f2 h0_f3 g_j29_h0_f2 g_h0_f1 g_j29_h0_f2 g_h0_f3) (cwV 1 hts gf_c_X9_expect_2_c_X9_refuse rfl rfl rfl mdV_X9_refuse ⟨Nat.le_of_ble_eq_true rfl, Nat.le_of_ble_eq_true rfl⟩) ⟨fun a U g mk q => by obtain ⟨q0, q1, qP, qK, qD⟩ := q; exact ⟨q0, q1, qP, va_K.moved (u := U) (U := U.calling g mk a) (Vm.Alike.refl U.vm) qK, qD⟩, hrv, fun U hU hW => ⟨rfl, by rw [hU], by rw [hU]; exact hPc, va_K.moved hW.alike hKc, hDc.weaken (fun _ _ _ _ => trivial)⟩⟩ rfl rfl hl.1 rfl (lv_room (Nat.le_of_ble_eq_true rfl)) dX9_expect_34 ⟨Nat.le_of_ble_eq_true rfl, Nat.le_of_ble_eq_true rfl⟩) hS (fun q _ h => hFc q h) hFc (fun x_2 t H1 locs ht hvm hw hB hz1 hk1 hS => ?_)
    obtain ⟨hP1, hK1, hD1⟩ := hB
    rw [ht] at hP1
    obtain ⟨hP, hD⟩ := cl_put (w1 := (wd_c_X9_refuse h0 h0_0 h0_f1 j29_h0_f2 x_2)) (nw := (wd_c_X9_expect_2 h0 h0_0 h0_f1 j29_h0_f2 x_2 h0_0 h0_0k h0_0c)) hP hD [0] [2, 1] 2 rfl hqc (by decide +kernel) rfl hk1 hFc hP1 hD1
    generalize H1 = H at hP hS ⊢
    as_aux_lemma =>
    rcases hw with ⟨h_3, h_4⟩
    have h_4 : x_2 = _ := h_4
    replace hEX := hEX.trans (exc1_eq h_4)
    have hK9 := hK.sub (tys' := []) [] rfl
    exact W.vret hx hb hr (fun t ht hW => ⟨⟨(j29_h0_f2, x_2), rfl, ⟨g_j29_h0_f2, (RG_w h_3 (by decide +kernel)), (by have := r_h0_f2_j29_h0_f2; show h0_f2.toInt + 0 ≤ j29_h0_f2.toInt; omega), (hR.trans hEX).symm⟩, by rw [ht]; exact hP, va_K.moved hW.alike hK9, hD⟩, hS.F ht⟩) hS.2.2 dX9_expect_37
  refine hG _ _ _ ?_
  refine lv_aload_n hx hb dX9_expect_0 rfl (lv_at hl 0 rfl) ?_
  refine va_get (D := (dC, dI)) (ci := 9) (v := .int h0_f3) (C := RX9) (T := TX9) (N := 4) hx hb hts iw_c_X9_expect_2_X9 hown hK hP 0 rfl rfl 3 (by decide +kernel) (hts (.fieldLink RX9 15 "BuoyVote$Tape" "wrong" "I") (List.mem_of_getElem? (i := 1) rfl)) (fun _ h9 => h9) rfl dX9_expect_1 ?_
  refine lv_iconst (v := (-1)) hx hb dX9_expect_4 kc_iconst_m1 ?_
  refine lv_icmp_ne (tgt := 29) hx hb dX9_expect_5 rfl (fun c_5 => ?_) (fun c_5 => ?_)
  · replace hEX := hEX.trans (if_neg c_5)
    have g_6 : RG h0_f3 0 240 := RG_ne1 g_h0_f3 (q := (-1)) rfl c_5 (by decide +kernel)
    exact hU _ _ _ (J29 h0_f2 g_h0_f1 g_h0_f2 (RG_w g_6 (by decide +kernel)) g_h0_f2 g_p1 (by omega) hEX _ _ _ hP hD hS (lv_sub hl [0] rfl))
  · replace hEX := hEX.trans (if_pos c_5)
    have g_7 : RG h0_f3 (-1) (-1) := RG_eq1 g_h0_f3 (RG_k (-1) (-1) rfl) c_5 (by decide +kernel)
    refine lv_aload_n hx hb dX9_expect_8 rfl (lv_at hl 0 rfl) ?_
    as_aux_lemma =>
    obtain ⟨hPc, hDc, hFc, hqc⟩ := cl_cut (wc := (wd_c_X9_peek h0 h0_0 h0_f1 h0_f2 h0_f3 h0_0 h0_0k h0_0c)) hP hD hS hA [0, 1] (by decide +kernel) rfl
    have hKc := hK.sub (tys' := [(h0_0k, .int)]) [0] rfl
    have hrv := va_recv hKc hPc (ci := 9) (q0 := 0) rfl rfl
    refine va_calli (va_runV (As := []) (rest := []) ⟨hx, hb, hml, hown, hts⟩ (c_X9_peek l dC dI H.size h0 h0_0 h0_f1 h0_f2 h0_f3 h0_0k h0_0c g_h0_f1 g_h0_f2 (RG_w g_7 (by decide +kernel)) a_h0_0c) (cwV 0 hts gf_c_X9_expect_2_c_X9_peek rfl rfl rfl mdV_X9_peek ⟨Nat.le_of_ble_eq_true rfl, Nat.le_of_ble_eq_true rfl⟩) ⟨fun a U g mk q => by obtain ⟨q0, q1, qP, qK, qD⟩ := q; exact ⟨q0, q1, qP, va_K.moved (u := U) (U := U.calling g mk a) (Vm.Alike.refl U.vm) qK, qD⟩, hrv, fun U hU hW => ⟨rfl, by rw [hU], by rw [hU]; exact hPc, va_K.moved hW.alike hKc, hDc.weaken (fun _ _ _ _ => trivial)⟩⟩ rfl rfl hl.1 rfl (lv_room (Nat.le_of_ble_eq_true rfl)) dX9_expect_9 ⟨Nat.le_of_ble_eq_true rfl, Nat.le_of_ble_eq_true rfl⟩) hS (fun q _ h => hFc q h) hFc (fun r_8 x_9 t H1 locs ht hvm hw hB hz1 hk1 hS => ?_)
    obtain ⟨hP1, hK1, hD1⟩ := hB
    rw [ht] at hP1
    obtain ⟨hP, hD⟩ := cl_put (w1 := (wd_c_X9_peek h0 h0_0 h0_f1 x_9 h0_f3 h0_0 h0_0k h0_0c)) (nw := (wd_c_X9_expect_2 h0 h0_0 h0_f1 x_9 h0_f3 h0_0 h0_0k h0_0c)) hP hD [0, 1] [2, 3] 2 rfl hqc (by decide +kernel) rfl hk1 hFc hP1 hD1
    generalize H1 = H at hP hS ⊢
    as_aux_lemma =>
    rcases hw with ⟨h_10, h_11, h_12, h_13⟩ | ⟨h_14, h_15, h_16, h_17, h_18⟩
    · have h_13 : (r_8, x_9) = _ := h_13
      replace hEX := hEX.trans (exc2_eq h_13)
      replace hEX := hEX.trans (if_pos (show r_8 = (-1) from h_10))
      rw [h_10]
      refine lv_iload_n hx hb dX9_expect_12 rfl (lv_at hl 1 rfl) ?_
      refine lv_icmp_ne (tgt := 29) hx hb dX9_expect_13 rfl (fun c_19 => ?_) (fun c_19 => ?_)
      · replace hEX := hEX.trans (if_neg c_19)
        exact hU _ _ _ (J29 x_9 g_h0_f1 g_h0_f2 (RG_w g_7 (by decide +kernel)) h_11 g_p1 (by have := h_12; omega) hEX _ _ _ hP hD hS (lv_sub hl [0] rfl))
      · replace hEX := hEX.trans (if_pos c_19)
        exact RG_dead (RG_eq1 (RG_k (-1) (-1) rfl) g_p1 c_19 (a' := 0) (b' := (-1)) (by decide +kernel)) (by decide +kernel)
    · have h_18 : (r_8, x_9) = _ := h_18
      replace hEX := hEX.trans (exc2_eq h_18)
      replace hEX := hEX.trans (if_neg (RG_neq (x := r_8) (c := (-1)) (show RG r_8 0 255 from h_14) (by decide +kernel)))
      refine lv_iload_n hx hb dX9_expect_12 rfl (lv_at hl 1 rfl) ?_
      as_aux_lemma =>
      refine lv_icmp_ne (tgt := 29) hx hb dX9_expect_13 rfl (fun c_20 => ?_) (fun c_20 => ?_)
      · replace hEX := hEX.trans (if_neg c_20)
        exact hU _ _ _ (J29 x_9 (RG_w h_16 (by decide +kernel)) g_h0_f2 (RG_w g_7 (by decide +kernel)) (RG_w h_15 (by decide +kernel)) g_p1 (by have := h_17; omega) hEX _ _ _ hP hD hS (lv_sub hl [0] rfl))
      · replace hEX := hEX.trans (if_pos c_20)
        have g_21 : RG r_8 0 99 := RG_eq1 h_14 g_p1 c_20 (by decide +kernel)
        refine lv_aload_n hx hb dX9_expect_16 rfl (lv_at hl 0 rfl) ?_
        refine lv_dup hx hb dX9_expect_17 rfl ?_
        refine va_get (D := (dC, dI)) (ci := 9) (v := .int x_9) (C := RX9) (T := TX9) (N := 4) hx hb hts iw_c_X9_expect_2_X9 hown hK hP 0 rfl rfl 2 (by decide +kernel) (hts (.fieldLink RX9 22 "BuoyVote$Tape" "at" "I") (List.mem_of_getElem? (i := 7) rfl)) (fun _ h9 => h9) rfl dX9_expect_18 ?_
        refine lv_iconst (v := 1) hx hb dX9_expect_21 kc_iconst_1 ?_
        refine lv_iadd hx hb dX9_expect_22 ?_
        refine lv_topi (fun x_22 ex_22 => ?_)
        replace hEX := hEX.trans (exl_eq ex_22)
        have g_23 : RG x_22 1 240 := RG_add ex_22 h_15 (RG_k 1 1 rfl) (by decide +kernel)
        have q_24 : x_22.toInt = x_9.toInt + 1 := eq_add ex_22 h_15 (q := 1) rfl (by decide +kernel)
        refine va_put (D := (dC, dI)) (ci := 9) (v := .int x_22) (ty := .int) (C := RX9) (T := TX9) (N := 4) hx hb hts iw_c_X9_expect_2_X9 tyX9 tyX9_ok nmX9 hown hK hP hD hS 0 rfl rfl 2 (by decide +kernel) (hts (.fieldLink RX9 22 "BuoyVote$Tape" "at" "I") (List.mem_of_getElem? (i := 7) rfl)) (fun _ h9 => h9) rfl (by decide +kernel) rfl rfl (Nat.le_of_ble_eq_true rfl) dX9_expect_23 (fun H locs hP hD hS => ?_)
        as_aux_lemma =>
        have hP : va_P (dC, dI) vwCl (wd_c_X9_expect_2 h0 h0_0 h0_f1 x_22 h0_f3 h0_0 h0_0k h0_0c) H := hP
        have hD : va_D A (wd_c_X9_expect_2 h0 h0_0 h0_f1 x_22 h0_f3 h0_0 h0_0k h0_0c) := hD
        refine lv_goto (tgt := 37) hx hb dX9_expect_26 rfl ?_
        have hK9 := hK.sub (tys' := []) [] rfl
        exact W.vret hx hb hr (fun t ht hW => ⟨⟨(x_22, h0_f3), rfl, ⟨(RG_w g_23 (by decide +kernel)), (RG_w g_7 (by decide +kernel)), (by have := h_17; have := q_24; show h0_f2.toInt + 0 ≤ x_22.toInt; omega), (hR.trans hEX).symm⟩, by rw [ht]; exact hP, va_K.moved hW.alike hK9, hD⟩, hS.F ht⟩) hS.2.2 dX9_expect_37
noncomputable def wd_c_X4_readAtom_5 (a0 : Nat) (a1 : Nat) (a2 : Int32) (a3 : Int32) (a4 : Int32) (a5 : Nat) (a6 : ClassId) (a7 : Nat → Int32) (a8 : Nat) (a9 : Nat) (a10 : Int32) (a11 : Nat) (a12 : Nat) (a13 : ClassId) (a14 : Nat → Int32) : va_W := [(a0, .inr (9, [.ref a1, .int a2, .int a3, .int a4])), (a5, .inl (a6, 240, .inl a7)), (a8, .inr (4, [.ref a9, .int a10, .ref a11])), (a12, .inl (a13, 240, .inl a14))]
noncomputable def wf_c_X4_readAtom_5 : List Cond := List.cons (.code yX4_readAtom cX4_readAtom 6 none) (@HAppend.hAppend (List Cond) (List Cond) (List Cond) _ (@HAppend.hAppend (List Cond) (List Cond) (List Cond) _ [.methodLink RX4 41 yX9_peek, .instanceMethod yX9_peek, .selects RX9 yX9_peek yX9_peek, .initialized RX9, .code yX9_peek cX9_peek 1 (some .int), .fieldLink RX9 22 "BuoyVote$Tape" "at" "I", .fieldLink RX9 19 "BuoyVote$Tape" "length" "I", .fieldLink RX9 11 "BuoyVote$Tape" "bytes" "[I", .methodLink RX4 93 yJ0_indexOf_0f7a4, .instanceMethod yJ0_indexOf_0f7a4, .selects RJ0 yJ0_indexOf_0f7a4 yJ0_indexOf_0f7a4, .initialized RJ0, .code yJ0_indexOf_0f7a4 cJ0_indexOf_0f7a4 2 (some .int), .methodLink RJ0 633 yJ0_indexOf_7cf53, .instanceMethod yJ0_indexOf_7cf53, .selects RJ0 yJ0_indexOf_7cf53 yJ0_indexOf_7cf53, .code yJ0_indexOf_7cf53 cJ0_indexOf_7cf53 3 (some .int), .methodLink RJ0 492 yJ0_isLatin1_aae02, .instanceMethod yJ0_isLatin1_aae02, .selects RJ0 yJ0_isLatin1_aae02 yJ0_isLatin1_aae02, .code yJ0_isLatin1_aae02 cJ0_isLatin1_aae02 1 (some .boolean), .fieldLink RJ0 38 "java/lang/String" "COMPACT_STRINGS" "Z", .fieldLink RJ0 15 "java/lang/String" "coder" "B", .fieldLink RJ0 9 "java/lang/String" "value" "[B", .methodLink RJ0 505 yJ0_length_8abf5, .instanceMethod yJ0_length_8abf5, .selects RJ0 yJ0_length_8abf5 yJ0_length_8abf5, .code yJ0_length_8abf5 cJ0_length_8abf5 1 (some .int), .methodLink RJ0 335 yJ0_coder_7d493, .instanceMethod yJ0_coder_7d493, .selects RJ0 yJ0_coder_7d493 yJ0_coder_7d493, .code yJ0_coder_7d493 cJ0_coder_7d493 1 (some .byte), .methodLink RJ0 637 yJ1_indexOf_4cfef, .static yJ1_indexOf_4cfef, .initialized RJ1, .code yJ1_indexOf_4cfef cJ1_indexOf_4cfef 4 (some .int), .methodLink RJ1 88 yJ1_canEncode_9a6ad, .static yJ1_canEncode_9a6ad, .code yJ1_canEncode_9a6ad cJ1_canEncode_9a6ad 1 (some .boolean), .methodLink RJ1 92 Lib.Math.max.name, .static Lib.Math.max.name, .initialized "java/lang/Math", .code Lib.Math.max.name Lib.Math.max.code 2 (some .int), .methodLink RJ1 38 Lib.Math.min.name, .static Lib.Math.min.name, .code Lib.Math.min.name Lib.Math.min.code 2 (some .int), .methodLink RJ1 95 yJ1_indexOfChar_4cfef, .static yJ1_indexOfChar_4cfef, .code yJ1_indexOfChar_4cfef cJ1_indexOfChar_4cfef 6 (some .int), .methodLink RX4 99 yX9_number, .instanceMethod yX9_number, .selects RX9 yX9_number yX9_number, .code yX9_number cX9_number 4 (some .int), .methodLink RX4 82 yX9_refuseHere, .instanceMethod yX9_refuseHere, .selects RX9 yX9_refuseHere yX9_refuseHere, .code yX9_refuseHere cX9_refuseHere 1 none, .methodLink RX9 25 yX9_refuse, .instanceMethod yX9_refuse, .selects RX9 yX9_refuse yX9_refuse, .code yX9_refuse cX9_refuse 2 none, .fieldLink RX9 15 "BuoyVote$Tape" "wrong" "I", .methodLink RX4 79 yX9_skip, .instanceMethod yX9_skip, .selects RX9 yX9_skip yX9_skip, .code yX9_skip cX9_skip 1 none, .methodLink RX4 49 yX4_readSum, .instanceMethod yX4_readSum, .selects RX4 yX4_readSum yX4_readSum, .initialized RX4, .code yX4_readSum cX4_readSum 6 none, .methodLink RX4 72 yX9_isRight, .instanceMethod yX9_isRight, .selects RX9 yX9_isRight yX9_isRight, .code yX9_isRight cX9_isRight 1 (some .boolean), .methodLink RX4 85 yX4_readAtom, .instanceMethod yX4_readAtom, .selects RX4 yX4_readAtom yX4_readAtom, .methodLink RX4 60 yX4_emit, .instanceMethod yX4_emit, .selects RX4 yX4_emit yX4_emit, .code yX4_emit cX4_emit 2 none, .fieldLink RX4 20 "BuoyVote$Law" "length" "I", .fieldLink RX4 11 "BuoyVote$Law" "code" "[I", .methodLink RX4 88 yX9_takeEither, .instanceMethod yX9_takeEither, .selects RX9 yX9_takeEither yX9_takeEither, .code yX9_takeEither cX9_takeEither 4 (some .int), .methodLink RX9 29 yX9_peek, .methodLink RX4 37 yX9_expect, .instanceMethod yX9_expect, .selects RX9 yX9_expect yX9_expect, .code yX9_expect cX9_expect 2 none] wsX90) wsX40)
theorem iw_c_X4_readAtom_5_X9 : ∀ w ∈ wsX90, w ∈ wf_c_X4_readAtom_5 := fun w h => List.mem_cons_of_mem _ (List.mem_append_left _ (List.mem_append_right _ h))
theorem iw_c_X4_readAtom_5_X4 : ∀ w ∈ wsX40, w ∈ wf_c_X4_readAtom_5 := fun w h => List.mem_cons_of_mem _ (List.mem_append_right _ h)
set_option maxRecDepth 20000 in
theorem gf_c_X4_readAtom_5_c_X4_emit_1 : GoodIn wf_c_X4_readAtom_5 (wsV RX4 60 RX4 yX4_emit wf_c_X4_emit_1) := goodIn_app (gi_l [79, 80, 81, 70] rfl rfl) (gi_cons (j := 82) rfl rfl (goodIn_app (gi_l [83, 84] rfl rfl) (goodIn_sub iw_c_X4_readAtom_5_X4 gw_X4)))
set_option maxRecDepth 20000 in
theorem gf_c_X4_readAtom_5_c_X9_number_1 : GoodIn wf_c_X4_readAtom_5 (wsV RX4 99 RX9 yX9_number wf_c_X9_number_1) := goodIn_app (gi_l [50, 51, 52, 4] rfl rfl) (gi_cons (j := 53) rfl rfl (goodIn_app (gi_l [6, 7, 8] rfl rfl) (goodIn_sub iw_c_X4_readAtom_5_X9 gw_X9)))
set_option maxRecDepth 20000 in
theorem gf_c_X4_readAtom_5_c_X9_refuseHere : GoodIn wf_c_X4_readAtom_5 (wsV RX4 82 RX9 yX9_refuseHere wf_c_X9_refuseHere) := goodIn_app (gi_l [54, 55, 56, 4] rfl rfl) (gi_cons (j := 57) rfl rfl (goodIn_app (gi_l [6, 58, 59, 60, 4, 61, 62] rfl rfl) (goodIn_sub iw_c_X4_readAtom_5_X9 gw_X9)))
set_option maxRecDepth 20000 in
theorem gf_c_X4_readAtom_5_c_X9_skip : GoodIn wf_c_X4_readAtom_5 (wsV RX4 79 RX9 yX9_skip wf_c_X9_skip) := goodIn_app (gi_l [63, 64, 65, 4] rfl rfl) (gi_cons (j := 66) rfl rfl (goodIn_app (gi_l [6] rfl rfl) (goodIn_sub iw_c_X4_readAtom_5_X9 gw_X9)))
set_option maxRecDepth 20000 in
theorem gf_c_X4_readAtom_5_c_X4_readSum_6 : GoodIn wf_c_X4_readAtom_5 (wsV RX4 49 RX4 yX4_readSum wf_c_X4_readSum_6) := goodIn_app (gi_l [67, 68, 69, 70] rfl rfl) (gi_cons (j := 71) rfl rfl (goodIn_app (goodIn_app (gi_l [72, 73, 74, 4, 75, 62, 76, 77, 78, 70, 0, 1, 2, 3, 5, 6, 7, 8, 9, 10, 11, 12, 13, 14, 15, 16, 17, 18, 19, 20, 21, 22, 23, 24, 25, 26, 27, 28, 29, 30, 31, 32, 33, 34, 35, 36, 37, 38, 39, 40, 41, 42, 43, 44, 45, 46, 47, 48, 49, 50, 51, 52, 53, 54, 55, 56, 57, 58, 59, 60, 61, 63, 64, 65, 66, 79, 80, 81, 82, 83, 84, 85, 86, 87, 88, 89] rfl rfl) (goodIn_sub iw_c_X4_readAtom_5_X9 gw_X9)) (goodIn_sub iw_c_X4_readAtom_5_X4 gw_X4)))
set_option maxRecDepth 20000 in
theorem gf_c_X4_readAtom_5_c_X9_expect_2 : GoodIn wf_c_X4_readAtom_5 (wsV RX4 37 RX9 yX9_expect wf_c_X9_expect_2) := goodIn_app (gi_l [90, 91, 92, 4] rfl rfl) (gi_cons (j := 93) rfl rfl (goodIn_app (gi_l [62, 89, 2, 3, 4, 5, 6, 7, 8, 58, 59, 60, 61] rfl rfl) (goodIn_sub iw_c_X4_readAtom_5_X9 gw_X9)))
set_option maxRecDepth 20000 in
theorem gf_c_X4_readAtom_5_c_X4_emit : GoodIn wf_c_X4_readAtom_5 (wsV RX4 60 RX4 yX4_emit wf_c_X4_emit) := goodIn_app (gi_l [79, 80, 81, 70] rfl rfl) (gi_cons (j := 82) rfl rfl (goodIn_app (gi_l [83, 84] rfl rfl) (goodIn_sub iw_c_X4_readAtom_5_X4 gw_X4)))
set_option maxRecDepth 20000 in
theorem gf_c_X4_readAtom_5_c_X9_peek : GoodIn wf_c_X4_readAtom_5 (wsV RX4 41 RX9 yX9_peek wf_c_X9_peek) := goodIn_app (gi_l [1, 2, 3, 4] rfl rfl) (gi_cons (j := 5) rfl rfl (goodIn_app (gi_l [6, 7, 8] rfl rfl) (goodIn_sub iw_c_X4_readAtom_5_X9 gw_X9)))
set_option maxRecDepth 20000 in
theorem gf_c_X4_readAtom_5_c_J0_indexOf_0f7a4_4 : GoodIn wf_c_X4_readAtom_5 (wsV RX4 93 RJ0 yJ0_indexOf_0f7a4 wf_c_J0_indexOf_0f7a4_4) := goodIn_app (gi_l [9, 10, 11, 12] rfl rfl) (gi_cons (j := 13) rfl rfl (gi_l [14, 15, 16, 12, 17, 18, 19, 20, 21, 22, 23, 24, 25, 26, 27, 28, 29, 30, 31, 32, 33, 34, 35, 36, 37, 38, 39, 40, 41, 42, 43, 44, 45, 46, 47, 48, 49] rfl rfl))
set_option maxHeartbeats 4000000 in
set_option maxRecDepth 100000 in
theorem c_X4_readAtom_5 (l : Launch) (dC : Nat → ClassId) (dI : Nat → Nat → Nat) (sz : Nat) (h0 : Nat) (h1 : Nat) (h1_0 : Nat) (h1_f1 : Int32) (h1_f2 : Int32) (h1_f3 : Int32) (h1_0k : ClassId) (h1_0c : Nat → Int32) (h0_0 : Nat) (h0_f1 : Int32) (h0_2 : Nat) (h0_0k : ClassId) (h0_0c : Nat → Int32) (ts4 : Nat) (tv4 : Nat) (g_h1_f1 : RG h1_f1 0 240) (g_h1_f2 : RG h1_f2 0 240) (g_h1_f3 : RG h1_f3 (-1) 240) (a_h1_0c : AI h1_0c 0 255) (g_h0_f1 : RG h0_f1 0 240) : Met l yX4_readAtom wf_c_X4_readAtom_5 ({ frames := 6, cells := 0, slots := 0, locals := 141 }) (va_Pc [.ref h0, .ref h1, .int 5] (fun U => U.heap.size = sz ∧ va_P (dC, dI) vwCl (wd_c_X4_readAtom_5 h1 h1_0 h1_f1 h1_f2 h1_f3 h1_0 h1_0k h1_0c h0 h0_0 h0_f1 h0_2 h0_0 h0_0k h0_0c) U.heap ∧ va_K (dC, dI) vwCl [(h1_0k, .int), (h0_0k, .int)] U ∧ va_D (fun _ => True) (wd_c_X4_readAtom_5 h1 h1_0 h1_f1 h1_f2 h1_f3 h1_0 h1_0k h1_0c h0 h0_0 h0_f1 h0_2 h0_0 h0_0k h0_0c) ∧ vk_R RX4 91 "vlrdph" ts4 U ∧ va_Z "java/lang/String" "COMPACT_STRINGS" "Z" (.int 1) (va_A (wd_c_X4_readAtom_5 h1 h1_0 h1_f1 h1_f2 h1_f3 h1_0 h1_0k h1_0c h0 h0_0 h0_f1 h0_2 h0_0 h0_0k h0_0c) sz) U U.heap ∧ va_OF "java/lang/String" "coder" "B" (.int 0) ts4 (va_A (wd_c_X4_readAtom_5 h1 h1_0 h1_f1 h1_f2 h1_f3 h1_0 h1_0k h1_0c h0 h0_0 h0_f1 h0_2 h0_0 h0_0k h0_0c) sz) U U.heap ∧ va_O "java/lang/String" ts4 (va_A (wd_c_X4_readAtom_5 h1 h1_0 h1_f1 h1_f2 h1_f3 h1_0 h1_0k h1_0c h0 h0_0 h0_f1 h0_2 h0_0 h0_0k h0_0c) sz) U U.heap ∧ va_OF "java/lang/String" "value" "[B" (.ref tv4) ts4 (va_A (wd_c_X4_readAtom_5 h1 h1_0 h1_f1 h1_f2 h1_f3 h1_0 h1_0k h1_0c h0 h0_0 h0_f1 h0_2 h0_0 h0_0k h0_0c) sz) U U.heap ∧ va_T .byte tv4 6 (fun j => .int ([118, 108, 114, 100, 112, 104].getD j 0)) (va_A (wd_c_X4_readAtom_5 h1 h1_0 h1_f1 h1_f2 h1_f3 h1_0 h1_0k h1_0c h0 h0_0 h0_f1 h0_2 h0_0 h0_0k h0_0c) sz) U U.heap)) (va_Qv (fun (u : (Int32) × (Int32) × (Int32) × (Nat → Int32)) => (RG u.1 0 240 ∧ RG u.2.1 (-1) 240 ∧ RG u.2.2.1 0 240 ∧ (u.1, u.2.1, u.2.2.1, u.2.2.2) = fx_c_X4_readAtom_5 h1_f1 h1_f2 h1_f3 h1_0c h0_f1 h0_0c)) (fun (u : (Int32) × (Int32) × (Int32) × (Nat → Int32)) t => va_P (dC, dI) vwCl (wd_c_X4_readAtom_5 h1 h1_0 h1_f1 (u.1) (u.2.1) h1_0 h1_0k h1_0c h0 h0_0 (u.2.2.1) h0_2 h0_0 h0_0k (u.2.2.2)) t.heap ∧ va_K (dC, dI) vwCl [] t ∧ va_D (va_A (wd_c_X4_readAtom_5 h1 h1_0 h1_f1 h1_f2 h1_f3 h1_0 h1_0k h1_0c h0 h0_0 h0_f1 h0_2 h0_0 h0_0k h0_0c) sz) (wd_c_X4_readAtom_5 h1 h1_0 h1_f1 (u.1) (u.2.1) h1_0 h1_0k h1_0c h0 h0_0 (u.2.2.1) h0_2 h0_0 h0_0k (u.2.2.2))) (va_A (wd_c_X4_readAtom_5 h1 h1_0 h1_f1 h1_f2 h1_f3 h1_0 h1_0k h1_0c h0 h0_0 h0_f1 h0_2 h0_0 h0_0k h0_0c) sz)) 0 0 (va_A (wd_c_X4_readAtom_5 h1 h1_0 h1_f1 h1_f2 h1_f3 h1_0 h1_0k h1_0c h0 h0_0 h0_f1 h0_2 h0_0 h0_0k h0_0c) sz) := by
  refine Met.ofW (cc := cX4_readAtom) (maxL := 6) (ret := none) (by decide +kernel) rfl ?_
  intro p e s m args below meth c s₁ B hml hv
  obtain ⟨rfl, hsz, hP, hK, hD0, hE_32, hE_10, hE_34, hE_33, hE_35, hE_36⟩ := hv
  have hx := B.exec
  have hb := B.bytes
  have hr := B.returns
  have hts := atoms_spec (ws := wf_c_X4_readAtom_5) B.pre
  have hown : s.vm.findClass RX4 = some m.cls := findClass_of_methodNamed B.named
  have hlocks := B.notSynchronized
  subst hsz
  have hD := hD0.self (sz := s.heap.size)
  generalize hAe : va_A (wd_c_X4_readAtom_5 h1 h1_0 h1_f1 h1_f2 h1_f3 h1_0 h1_0k h1_0c h0 h0_0 h0_f1 h0_2 h0_0 h0_0k h0_0c) s.heap.size = A at hD hE_10 hE_34 hE_33 hE_35 hE_36 ⊢
  have hA : ∀ q : Nat, s.heap.size ≤ q → A q := fun q h => by rw [← hAe]; exact Or.inr h
  have hP : va_P (dC, dI) vwCl (wd_c_X4_readAtom_5 h1 h1_0 h1_f1 h1_f2 h1_f3 h1_0 h1_0k h1_0c h0 h0_0 h0_f1 h0_2 h0_0 h0_0k h0_0c) s.heap := hP
  have hl := lv_entry ([.ref h0, .ref h1, .int 5]) (n := 6) (Nat.le_of_ble_eq_true rfl)
  rw [lg_entry_eq]
  generalize (lg_sl ([.ref h0, .ref h1, .int 5]) ++ List.replicate (6 - (lg_sl ([.ref h0, .ref h1, .int 5])).length) Slot.unset).toArray = ls at hl ⊢
  have hl : lv_has ls 6 [(0, .ref h0), (1, .ref h1), (2, .int 5)] := hl
  obtain ⟨H, hHe⟩ : ∃ H : Heap, s.heap = H := ⟨_, rfl⟩
  have hS : va_S A s.heap H [] := by rw [hHe]; exact va_S.rf
  have hP : va_P (dC, dI) vwCl (wd_c_X4_readAtom_5 h1 h1_0 h1_f1 h1_f2 h1_f3 h1_0 h1_0k h1_0c h0 h0_0 h0_f1 h0_2 h0_0 h0_0k h0_0c) H := by rw [← hHe]; exact hP
  rw [hHe]
  obtain ⟨RES, hR⟩ : ∃ z, fx_c_X4_readAtom_5 h1_f1 h1_f2 h1_f3 h1_0c h0_f1 h0_0c = z := ⟨_, rfl⟩
  have hEX : RES = fx_c_X4_readAtom_5 h1_f1 h1_f2 h1_f3 h1_0c h0_f1 h0_0c := hR.symm
  refine wj (fun G hG hU => ?_)
  as_aux_lemma =>
  have J65 : ∀ (j65_l5 : Int32) (j65_h1_f2 : Int32) (j65_h1_f3 : Int32) (g_h0_f1 : RG h0_f1 0 240) (g_h1_f1 : RG h1_f1 0 240) (g_h1_f2 : RG h1_f2 0 240) (g_h1_f3 : RG h1_f3 (-1) 240) (g_j65_h1_f2 : RG j65_h1_f2 0 240) (g_j65_h1_f3 : RG j65_h1_f3 (-1) 240) (g_j65_l5 : RG j65_l5 (-1) 9999) (hEX : RES = fx_c_X4_readAtom_5_p65 h0_f1 h0_0c j65_l5 j65_h1_f2 j65_h1_f3) (H : Heap) (locs : List Loc) (ls : Array Slot) (hP : va_P (dC, dI) vwCl (wd_c_X4_readAtom_5 h1 h1_0 h1_f1 j65_h1_f2 j65_h1_f3 h1_0 h1_0k h1_0c h0 h0_0 h0_f1 h0_2 h0_0 h0_0k h0_0c) H) (hD : va_D A (wd_c_X4_readAtom_5 h1 h1_0 h1_f1 j65_h1_f2 j65_h1_f3 h1_0 h1_0k h1_0c h0 h0_0 h0_f1 h0_2 h0_0 h0_0k h0_0c)) (hS : va_S A s.heap H locs) (hl : lv_has ls 6 [(5, .int j65_l5), (0, .ref h0)]), G H locs (F0 m 65 ls []) := by
    as_aux_lemma =>
    intro j65_l5 j65_h1_f2 j65_h1_f3 g_h0_f1 g_h1_f1 g_h1_f2 g_h1_f3 g_j65_h1_f2 g_j65_h1_f3 g_j65_l5 hEX H locs ls hP hD hS hl
    refine hG _ _ _ ?_
    refine lv_aload_n hx hb dX4_readAtom_65 rfl (lv_at hl 1 rfl) ?_
    refine lv_iload hx hb dX4_readAtom_66 (lv_at hl 0 rfl) ?_
    obtain ⟨hPc, hDc, hFc, hqc⟩ := cl_cut (wc := (wd_c_X4_emit_1 h0 h0_0 h0_f1 h0_2 h0_0 h0_0k h0_0c)) hP hD hS hA [2, 3] (by decide +kernel) rfl
    have hKc := hK.sub (tys' := [(h0_0k, .int)]) [1] rfl
    have hrv := va_recv hKc hPc (ci := 4) (q0 := 0) rfl rfl
    refine va_callv (va_runV (As := [.int j65_l5]) (rest := []) ⟨hx, hb, hml, hown, hts⟩ (c_X4_emit_1 l dC dI H.size h0 j65_l5 h0_0 h0_f1 h0_2 h0_0k h0_0c (RG_w g_j65_l5 (by decide +kernel)) g_h0_f1) (cwV 1 hts gf_c_X4_readAtom_5_c_X4_emit_1 rfl rfl rfl mdV_X4_emit ⟨Nat.le_of_ble_eq_true rfl, Nat.le_of_ble_eq_true rfl⟩) ⟨fun a U g mk q => by obtain ⟨q0, q1, qP, qK, qD⟩ := q; exact ⟨q0, q1, qP, va_K.moved (u := U) (U := U.calling g mk a) (Vm.Alike.refl U.vm) qK, qD⟩, hrv, fun U hU hW => ⟨rfl, by rw [hU], by rw [hU]; exact hPc, va_K.moved hW.alike hKc, hDc.weaken (fun _ _ _ _ => trivial)⟩⟩ rfl rfl hl.1 rfl (lv_room (Nat.le_of_ble_eq_true rfl)) dX4_readAtom_68 ⟨Nat.le_of_ble_eq_true rfl, Nat.le_of_ble_eq_true rfl⟩) hS (fun q _ h => hFc q h) hFc (fun u t H1 locs ht hvm hw hB hz1 hk1 hS => ?_)
    obtain ⟨x_2, w_3⟩ := u
    obtain ⟨hP1, hK1, hD1⟩ := hB
    rw [ht] at hP1
    obtain ⟨hP, hD⟩ := cl_put (w1 := (wd_c_X4_emit_1 h0 h0_0 x_2 h0_2 h0_0 h0_0k w_3)) (nw := (wd_c_X4_readAtom_5 h1 h1_0 h1_f1 j65_h1_f2 j65_h1_f3 h1_0 h1_0k h1_0c h0 h0_0 x_2 h0_2 h0_0 h0_0k w_3)) hP hD [2, 3] [0, 1, 4, 5] 4 rfl hqc (by decide +kernel) rfl hk1 hFc hP1 hD1
    generalize H1 = H at hP hS ⊢
    as_aux_lemma =>
    rcases hw with ⟨h_4, h_5⟩
    have h_5 : (x_2, w_3) = _ := h_5
    replace hEX := hEX.trans (exc2_eq h_5)
    refine lv_goto (tgt := 105) hx hb dX4_readAtom_71 rfl ?_
    have hK9 := hK.sub (tys' := []) [] rfl
    exact W.vret hx hb hr (fun t ht hW => ⟨⟨(j65_h1_f2, j65_h1_f3, x_2, w_3), rfl, ⟨g_j65_h1_f2, g_j65_h1_f3, (RG_w h_4 (by decide +kernel)), (hR.trans hEX).symm⟩, by rw [ht]; exact hP, va_K.moved hW.alike hK9, hD⟩, hS.F ht⟩) hS.2.2 dX4_readAtom_105
  have J20 : ∀ (j20_h1_f2 : Int32) (g_h0_f1 : RG h0_f1 0 240) (g_h1_f1 : RG h1_f1 0 240) (g_h1_f2 : RG h1_f2 0 240) (g_h1_f3 : RG h1_f3 (-1) 240) (g_j20_h1_f2 : RG j20_h1_f2 0 240) (hEX : RES = fx_c_X4_readAtom_5_p20 h1_f1 h1_f3 h1_0c h0_f1 h0_0c j20_h1_f2) (H : Heap) (locs : List Loc) (ls : Array Slot) (hP : va_P (dC, dI) vwCl (wd_c_X4_readAtom_5 h1 h1_0 h1_f1 j20_h1_f2 h1_f3 h1_0 h1_0k h1_0c h0 h0_0 h0_f1 h0_2 h0_0 h0_0k h0_0c) H) (hD : va_D A (wd_c_X4_readAtom_5 h1 h1_0 h1_f1 j20_h1_f2 h1_f3 h1_0 h1_0k h1_0c h0 h0_0 h0_f1 h0_2 h0_0 h0_0k h0_0c)) (hS : va_S A s.heap H locs) (hl : lv_has ls 6 [(3, .int (-1)), (0, .ref h0), (1, .ref h1), (2, .int 5)]), G H locs (F0 m 20 ls [.int (-1)]) := by
    as_aux_lemma =>
    intro j20_h1_f2 g_h0_f1 g_h1_f1 g_h1_f2 g_h1_f3 g_j20_h1_f2 hEX H locs ls hP hD hS hl
    refine hG _ _ _ ?_
    refine lv_istore (lv' := [(4, .int (-1)), (3, .int (-1)), (0, .ref h0), (1, .ref h1), (2, .int 5)]) hx hb dX4_readAtom_20 hl (Nat.le_of_ble_eq_true rfl) rfl (fun ls hl => ?_)
    refine lv_iload hx hb dX4_readAtom_22 (lv_at hl 0 rfl) ?_
    refine lv_if_lt (tgt := 42) hx hb dX4_readAtom_24 rfl (fun c_6 => ?_) (fun c_6 => absurd c_6 (by decide +kernel))
    refine lv_iload_n hx hb dX4_readAtom_42 rfl (lv_at hl 1 rfl) ?_
    refine lv_bipush (v := 91) hx hb dX4_readAtom_43 kc_bipush_91 ?_
    refine lv_icmp_eq (tgt := 74) hx hb dX4_readAtom_45 rfl (fun c_7 => absurd c_7 (by decide +kernel)) (fun c_7 => ?_)
    refine lv_aload_n hx hb dX4_readAtom_48 rfl (lv_at hl 3 rfl) ?_
    refine lv_iconst (v := 4) hx hb dX4_readAtom_49 kc_iconst_4 ?_
    obtain ⟨hPc, hDc, hFc, hqc⟩ := cl_cut (wc := (wd_c_X9_number_1 h1 h1_0 h1_f1 j20_h1_f2 h1_f3 h1_0 h1_0k h1_0c)) hP hD hS hA [0, 1] (by decide +kernel) rfl
    have hKc := hK.sub (tys' := [(h1_0k, .int)]) [0] rfl
    have hrv := va_recv hKc hPc (ci := 9) (q0 := 0) rfl rfl
    refine va_calli (va_runV (As := [.int 4]) (rest := []) ⟨hx, hb, hml, hown, hts⟩ (c_X9_number_1 l dC dI H.size h1 h1_0 h1_f1 j20_h1_f2 h1_f3 h1_0k h1_0c g_h1_f1 g_j20_h1_f2 g_h1_f3 a_h1_0c) (cwV 1 hts gf_c_X4_readAtom_5_c_X9_number_1 rfl rfl rfl mdV_X9_number ⟨Nat.le_of_ble_eq_true rfl, Nat.le_of_ble_eq_true rfl⟩) ⟨fun a U g mk q => by obtain ⟨q0, q1, qP, qK, qD⟩ := q; exact ⟨q0, q1, qP, va_K.moved (u := U) (U := U.calling g mk a) (Vm.Alike.refl U.vm) qK, qD⟩, hrv, fun U hU hW => ⟨rfl, by rw [hU], by rw [hU]; exact hPc, va_K.moved hW.alike hKc, hDc.weaken (fun _ _ _ _ => trivial)⟩⟩ rfl rfl hl.1 rfl (lv_room (Nat.le_of_ble_eq_true rfl)) dX4_readAtom_50 ⟨Nat.le_of_ble_eq_true rfl, Nat.le_of_ble_eq_true rfl⟩) hS (fun q _ h => hFc q h) hFc (fun r_8 x_9 t H1 locs ht hvm hw hB hz1 hk1 hS => ?_)
    as_aux_lemma =>
    obtain ⟨hP1, hK1, hD1⟩ := hB
    rw [ht] at hP1
    obtain ⟨hP, hD⟩ := cl_put (w1 := (wd_c_X9_number_1 h1 h1_0 h1_f1 x_9 h1_f3 h1_0 h1_0k h1_0c)) (nw := (wd_c_X4_readAtom_5 h1 h1_0 h1_f1 x_9 h1_f3 h1_0 h1_0k h1_0c h0 h0_0 h0_f1 h0_2 h0_0 h0_0k h0_0c)) hP hD [0, 1] [4, 5, 2, 3] 4 rfl hqc (by decide +kernel) rfl hk1 hFc hP1 hD1
    generalize H1 = H at hP hS ⊢
    as_aux_lemma =>
    rcases hw with ⟨h_10, h_11, h_12, h_13⟩ | ⟨h_14, h_15, h_16, h_17, h_18, h_19⟩
    · have h_13 : (r_8, x_9) = _ := h_13
      replace hEX := hEX.trans (exc2_eq h_13)
      replace hEX := hEX.trans (if_pos (show r_8 = (-1) from h_10))
      rw [h_10]
      refine lv_istore (lv' := [(5, .int (-1)), (4, .int (-1)), (3, .int (-1)), (0, .ref h0), (1, .ref h1), (2, .int 5)]) hx hb dX4_readAtom_53 hl (Nat.le_of_ble_eq_true rfl) rfl (fun ls hl => ?_)
      refine lv_iload hx hb dX4_readAtom_55 (lv_at hl 0 rfl) ?_
      refine lv_iconst (v := (-1)) hx hb dX4_readAtom_57 kc_iconst_m1 ?_
      refine lv_icmp_ne (tgt := 65) hx hb dX4_readAtom_58 rfl (fun c_20 => absurd c_20 (by decide +kernel)) (fun c_20 => ?_)
      refine lv_aload_n hx hb dX4_readAtom_61 rfl (lv_at hl 4 rfl) ?_
      obtain ⟨hPc, hDc, hFc, hqc⟩ := cl_cut (wc := (wd_c_X9_refuseHere h1 h1_0 h1_f1 x_9 h1_f3)) hP hD hS hA [0] (by decide +kernel) rfl
      have hKc := hK.sub (tys' := []) [] rfl
      have hrv := va_recv hKc hPc (ci := 9) (q0 := 0) rfl rfl
      refine va_callv (va_runV (As := []) (rest := []) ⟨hx, hb, hml, hown, hts⟩ (c_X9_refuseHere l dC dI H.size h1 h1_0 h1_f1 x_9 h1_f3 g_h1_f1 h_11 g_h1_f3) (cwV 0 hts gf_c_X4_readAtom_5_c_X9_refuseHere rfl rfl rfl mdV_X9_refuseHere ⟨Nat.le_of_ble_eq_true rfl, Nat.le_of_ble_eq_true rfl⟩) ⟨fun a U g mk q => by obtain ⟨q0, q1, qP, qK, qD⟩ := q; exact ⟨q0, q1, qP, va_K.moved (u := U) (U := U.calling g mk a) (Vm.Alike.refl U.vm) qK, qD⟩, hrv, fun U hU hW => ⟨rfl, by rw [hU], by rw [hU]; exact hPc, va_K.moved hW.alike hKc, hDc.weaken (fun _ _ _ _ => trivial)⟩⟩ rfl rfl hl.1 rfl (lv_room (Nat.le_of_ble_eq_true rfl)) dX4_readAtom_62 ⟨Nat.le_of_ble_eq_true rfl, Nat.le_of_ble_eq_true rfl⟩) hS (fun q _ h => hFc q h) hFc (fun x_22 t H1 locs ht hvm hw hB hz1 hk1 hS => ?_)
      as_aux_lemma =>
      obtain ⟨hP1, hK1, hD1⟩ := hB
      rw [ht] at hP1
      obtain ⟨hP, hD⟩ := cl_put (w1 := (wd_c_X9_refuseHere h1 h1_0 h1_f1 x_9 x_22)) (nw := (wd_c_X4_readAtom_5 h1 h1_0 h1_f1 x_9 x_22 h1_0 h1_0k h1_0c h0 h0_0 h0_f1 h0_2 h0_0 h0_0k h0_0c)) hP hD [0] [4, 1, 2, 3] 4 rfl hqc (by decide +kernel) rfl hk1 hFc hP1 hD1
      generalize H1 = H at hP hS ⊢
      as_aux_lemma =>
      rcases hw with ⟨h_23, h_24⟩
      have h_24 : x_22 = _ := h_24
      replace hEX := hEX.trans (exc1_eq h_24)
      exact hU _ _ _ (J65 (-1) x_9 x_22 g_h0_f1 g_h1_f1 g_h1_f2 g_h1_f3 h_11 (RG_w h_23 (by decide +kernel)) (RG_w (RG_k (-1) (-1) rfl) (by decide +kernel)) hEX _ _ _ hP hD hS (lv_sub hl [0, 3] rfl))
    · have h_19 : (r_8, x_9) = _ := h_19
      replace hEX := hEX.trans (exc2_eq h_19)
      replace hEX := hEX.trans (if_neg (RG_neq (x := r_8) (c := (-1)) (show RG r_8 0 9999 from h_14) (by decide +kernel)))
      refine lv_istore (lv' := [(5, .int r_8), (4, .int (-1)), (3, .int (-1)), (0, .ref h0), (1, .ref h1), (2, .int 5)]) hx hb dX4_readAtom_53 hl (Nat.le_of_ble_eq_true rfl) rfl (fun ls hl => ?_)
      refine lv_iload hx hb dX4_readAtom_55 (lv_at hl 0 rfl) ?_
      refine lv_iconst (v := (-1)) hx hb dX4_readAtom_57 kc_iconst_m1 ?_
      refine lv_icmp_ne (tgt := 65) hx hb dX4_readAtom_58 rfl (fun c_25 => ?_) (fun c_25 => ?_)
      · replace hEX := hEX.trans (if_neg c_25)
        exact hU _ _ _ (J65 r_8 x_9 h1_f3 g_h0_f1 (RG_w h_16 (by decide +kernel)) g_h1_f2 g_h1_f3 (RG_w h_15 (by decide +kernel)) g_h1_f3 (RG_w h_14 (by decide +kernel)) hEX _ _ _ hP hD hS (lv_sub hl [0, 3] rfl))
      · replace hEX := hEX.trans (if_pos c_25)
        exact RG_dead (RG_eq1 h_14 (RG_k (-1) (-1) rfl) c_25 (a' := 0) (b' := (-1)) (by decide +kernel)) (by decide +kernel)
  have J65b : ∀ (j65b_l5 : Int32) (j65b_h1_f2 : Int32) (j65b_h1_f3 : Int32) (g_h0_f1 : RG h0_f1 0 240) (g_h1_f1 : RG h1_f1 1 240) (g_h1_f2 : RG h1_f2 0 240) (g_h1_f3 : RG h1_f3 (-1) 240) (g_j65b_h1_f2 : RG j65b_h1_f2 0 240) (g_j65b_h1_f3 : RG j65b_h1_f3 (-1) 240) (g_j65b_l5 : RG j65b_l5 (-1) 9999) (hEX : RES = fx_c_X4_readAtom_5_p65b h0_f1 h0_0c j65b_l5 j65b_h1_f2 j65b_h1_f3) (H : Heap) (locs : List Loc) (ls : Array Slot) (hP : va_P (dC, dI) vwCl (wd_c_X4_readAtom_5 h1 h1_0 h1_f1 j65b_h1_f2 j65b_h1_f3 h1_0 h1_0k h1_0c h0 h0_0 h0_f1 h0_2 h0_0 h0_0k h0_0c) H) (hD : va_D A (wd_c_X4_readAtom_5 h1 h1_0 h1_f1 j65b_h1_f2 j65b_h1_f3 h1_0 h1_0k h1_0c h0 h0_0 h0_f1 h0_2 h0_0 h0_0k h0_0c)) (hS : va_S A s.heap H locs) (hl : lv_has ls 6 [(5, .int j65b_l5), (0, .ref h0)]), G H locs (F0 m 65 ls []) := by
    as_aux_lemma =>
    intro j65b_l5 j65b_h1_f2 j65b_h1_f3 g_h0_f1 g_h1_f1 g_h1_f2 g_h1_f3 g_j65b_h1_f2 g_j65b_h1_f3 g_j65b_l5 hEX H locs ls hP hD hS hl
    refine hG _ _ _ ?_
    refine lv_aload_n hx hb dX4_readAtom_65 rfl (lv_at hl 1 rfl) ?_
    refine lv_iload hx hb dX4_readAtom_66 (lv_at hl 0 rfl) ?_
    obtain ⟨hPc, hDc, hFc, hqc⟩ := cl_cut (wc := (wd_c_X4_emit_1 h0 h0_0 h0_f1 h0_2 h0_0 h0_0k h0_0c)) hP hD hS hA [2, 3] (by decide +kernel) rfl
    have hKc := hK.sub (tys' := [(h0_0k, .int)]) [1] rfl
    have hrv := va_recv hKc hPc (ci := 4) (q0 := 0) rfl rfl
    refine va_callv (va_runV (As := [.int j65b_l5]) (rest := []) ⟨hx, hb, hml, hown, hts⟩ (c_X4_emit_1 l dC dI H.size h0 j65b_l5 h0_0 h0_f1 h0_2 h0_0k h0_0c (RG_w g_j65b_l5 (by decide +kernel)) g_h0_f1) (cwV 1 hts gf_c_X4_readAtom_5_c_X4_emit_1 rfl rfl rfl mdV_X4_emit ⟨Nat.le_of_ble_eq_true rfl, Nat.le_of_ble_eq_true rfl⟩) ⟨fun a U g mk q => by obtain ⟨q0, q1, qP, qK, qD⟩ := q; exact ⟨q0, q1, qP, va_K.moved (u := U) (U := U.calling g mk a) (Vm.Alike.refl U.vm) qK, qD⟩, hrv, fun U hU hW => ⟨rfl, by rw [hU], by rw [hU]; exact hPc, va_K.moved hW.alike hKc, hDc.weaken (fun _ _ _ _ => trivial)⟩⟩ rfl rfl hl.1 rfl (lv_room (Nat.le_of_ble_eq_true rfl)) dX4_readAtom_68 ⟨Nat.le_of_ble_eq_true rfl, Nat.le_of_ble_eq_true rfl⟩) hS (fun q _ h => hFc q h) hFc (fun u t H1 locs ht hvm hw hB hz1 hk1 hS => ?_)
    obtain ⟨x_27, w_28⟩ := u
    obtain ⟨hP1, hK1, hD1⟩ := hB
    rw [ht] at hP1
    obtain ⟨hP, hD⟩ := cl_put (w1 := (wd_c_X4_emit_1 h0 h0_0 x_27 h0_2 h0_0 h0_0k w_28)) (nw := (wd_c_X4_readAtom_5 h1 h1_0 h1_f1 j65b_h1_f2 j65b_h1_f3 h1_0 h1_0k h1_0c h0 h0_0 x_27 h0_2 h0_0 h0_0k w_28)) hP hD [2, 3] [0, 1, 4, 5] 4 rfl hqc (by decide +kernel) rfl hk1 hFc hP1 hD1
    generalize H1 = H at hP hS ⊢
    as_aux_lemma =>
    rcases hw with ⟨h_29, h_30⟩
    have h_30 : (x_27, w_28) = _ := h_30
    replace hEX := hEX.trans (exc2_eq h_30)
    refine lv_goto (tgt := 105) hx hb dX4_readAtom_71 rfl ?_
    have hK9 := hK.sub (tys' := []) [] rfl
    exact W.vret hx hb hr (fun t ht hW => ⟨⟨(j65b_h1_f2, j65b_h1_f3, x_27, w_28), rfl, ⟨g_j65b_h1_f2, g_j65b_h1_f3, (RG_w h_29 (by decide +kernel)), (hR.trans hEX).symm⟩, by rw [ht]; exact hP, va_K.moved hW.alike hK9, hD⟩, hS.F ht⟩) hS.2.2 dX4_readAtom_105
  have J20b : ∀ (j20b_l3 : Int32) (j20b_h1_f2 : Int32) (g_h0_f1 : RG h0_f1 0 240) (g_h1_f1 : RG h1_f1 1 240) (g_h1_f2 : RG h1_f2 0 240) (g_h1_f3 : RG h1_f3 (-1) 240) (g_j20b_h1_f2 : RG j20b_h1_f2 0 239) (g_j20b_l3 : RG j20b_l3 0 255) (hEX : RES = fx_c_X4_readAtom_5_p20b h1_f1 h1_f3 h1_0c h0_f1 h0_0c j20b_l3 j20b_h1_f2) (H : Heap) (locs : List Loc) (ls : Array Slot) (hP : va_P (dC, dI) vwCl (wd_c_X4_readAtom_5 h1 h1_0 h1_f1 j20b_h1_f2 h1_f3 h1_0 h1_0k h1_0c h0 h0_0 h0_f1 h0_2 h0_0 h0_0k h0_0c) H) (hD : va_D A (wd_c_X4_readAtom_5 h1 h1_0 h1_f1 j20b_h1_f2 h1_f3 h1_0 h1_0k h1_0c h0 h0_0 h0_f1 h0_2 h0_0 h0_0k h0_0c)) (hS : va_S A s.heap H locs) (hl : lv_has ls 6 [(3, .int j20b_l3), (0, .ref h0), (1, .ref h1), (2, .int 5)]), G H locs (F0 m 20 ls [.int (-1)]) := by
    as_aux_lemma =>
    intro j20b_l3 j20b_h1_f2 g_h0_f1 g_h1_f1 g_h1_f2 g_h1_f3 g_j20b_h1_f2 g_j20b_l3 hEX H locs ls hP hD hS hl
    refine hG _ _ _ ?_
    refine lv_istore (lv' := [(4, .int (-1)), (3, .int j20b_l3), (0, .ref h0), (1, .ref h1), (2, .int 5)]) hx hb dX4_readAtom_20 hl (Nat.le_of_ble_eq_true rfl) rfl (fun ls hl => ?_)
    refine lv_iload hx hb dX4_readAtom_22 (lv_at hl 0 rfl) ?_
    refine lv_if_lt (tgt := 42) hx hb dX4_readAtom_24 rfl (fun c_31 => ?_) (fun c_31 => absurd c_31 (by decide +kernel))
    refine lv_iload_n hx hb dX4_readAtom_42 rfl (lv_at hl 1 rfl) ?_
    refine lv_bipush (v := 91) hx hb dX4_readAtom_43 kc_bipush_91 ?_
    refine lv_icmp_eq (tgt := 74) hx hb dX4_readAtom_45 rfl (fun c_32 => ?_) (fun c_32 => ?_)
    · replace hEX := hEX.trans (if_pos c_32)
      have g_33 : RG j20b_l3 91 91 := RG_eq1 g_j20b_l3 (RG_k 91 91 rfl) c_32 (by decide +kernel)
      refine lv_iload_n hx hb dX4_readAtom_74 rfl (lv_at hl 4 rfl) ?_
      refine lv_bipush (v := 6) hx hb dX4_readAtom_75 kc_bipush_6 ?_
      refine lv_icmp_lt (tgt := 87) hx hb dX4_readAtom_77 rfl (fun c_34 => ?_) (fun c_34 => absurd c_34 (by decide +kernel))
      refine lv_aload_n hx hb dX4_readAtom_87 rfl (lv_at hl 3 rfl) ?_
      as_aux_lemma =>
      obtain ⟨hPc, hDc, hFc, hqc⟩ := cl_cut (wc := (wd_c_X9_skip h1 h1_0 h1_f1 j20b_h1_f2 h1_f3)) hP hD hS hA [0] (by decide +kernel) rfl
      have hKc := hK.sub (tys' := []) [] rfl
      have hrv := va_recv hKc hPc (ci := 9) (q0 := 0) rfl rfl
      refine va_callv (va_runV (As := []) (rest := []) ⟨hx, hb, hml, hown, hts⟩ (c_X9_skip l dC dI H.size h1 h1_0 h1_f1 j20b_h1_f2 h1_f3 (RG_w g_h1_f1 (by decide +kernel)) g_j20b_h1_f2 g_h1_f3) (cwV 0 hts gf_c_X4_readAtom_5_c_X9_skip rfl rfl rfl mdV_X9_skip ⟨Nat.le_of_ble_eq_true rfl, Nat.le_of_ble_eq_true rfl⟩) ⟨fun a U g mk q => by obtain ⟨q0, q1, qP, qK, qD⟩ := q; exact ⟨q0, q1, qP, va_K.moved (u := U) (U := U.calling g mk a) (Vm.Alike.refl U.vm) qK, qD⟩, hrv, fun U hU hW => ⟨rfl, by rw [hU], by rw [hU]; exact hPc, va_K.moved hW.alike hKc, hDc.weaken (fun _ _ _ _ => trivial)⟩⟩ rfl rfl hl.1 rfl (lv_room (Nat.le_of_ble_eq_true rfl)) dX4_readAtom_88 ⟨Nat.le_of_ble_eq_true rfl, Nat.le_of_ble_eq_true rfl⟩) hS (fun q _ h => hFc q h) hFc (fun x_36 t H1 locs ht hvm hw hB hz1 hk1 hS => ?_)
      obtain ⟨hP1, hK1, hD1⟩ := hB
      rw [ht] at hP1
      obtain ⟨hP, hD⟩ := cl_put (w1 := (wd_c_X9_skip h1 h1_0 h1_f1 x_36 h1_f3)) (nw := (wd_c_X4_readAtom_5 h1 h1_0 h1_f1 x_36 h1_f3 h1_0 h1_0k h1_0c h0 h0_0 h0_f1 h0_2 h0_0 h0_0k h0_0c)) hP hD [0] [4, 1, 2, 3] 4 rfl hqc (by decide +kernel) rfl hk1 hFc hP1 hD1
      generalize H1 = H at hP hS ⊢
      as_aux_lemma =>
      rcases hw with ⟨h_37, h_38, h_39, h_40⟩
      have h_40 : x_36 = _ := h_40
      replace hEX := hEX.trans (exc1_eq h_40)
      refine lv_aload_n hx hb dX4_readAtom_91 rfl (lv_at hl 2 rfl) ?_
      refine lv_aload_n hx hb dX4_readAtom_92 rfl (lv_at hl 3 rfl) ?_
      refine lv_iload_n hx hb dX4_readAtom_93 rfl (lv_at hl 4 rfl) ?_
      refine lv_iconst (v := 1) hx hb dX4_readAtom_94 kc_iconst_1 ?_
      refine lv_iadd hx hb dX4_readAtom_95 ?_
      refine lv_topi (fun x_41 ex_41 => ?_)
      obtain rfl : x_41 = 6 := ex_41.trans (by decide +kernel)
      obtain ⟨hPc, hDc, hFc, hqc⟩ := cl_cut (wc := (wd_c_X4_readSum_6 h1 h1_0 h1_f1 x_36 h1_f3 h1_0 h1_0k h1_0c h0 h0_0 h0_f1 h0_2 h0_0 h0_0k h0_0c)) hP hD hS hA [0, 1, 2, 3] (by decide +kernel) rfl
      have hKc := hK.sub (tys' := [(h1_0k, .int), (h0_0k, .int)]) [0, 1] rfl
      have hrv := va_recv hKc hPc (ci := 4) (q0 := 2) rfl rfl
      refine va_callv (va_runV (As := [.ref h1, .int 6]) (rest := []) ⟨hx, hb, hml, hown, hts⟩ (c_X4_readSum_6 l dC dI H.size h0 h1 h1_0 h1_f1 x_36 h1_f3 h1_0k h1_0c h0_0 h0_f1 h0_2 h0_0k h0_0c ts4 tv4 (RG_w g_h1_f1 (by decide +kernel)) (RG_w h_37 (by decide +kernel)) g_h1_f3 a_h1_0c g_h0_f1) (cwV 2 hts gf_c_X4_readAtom_5_c_X4_readSum_6 rfl rfl rfl mdV_X4_readSum ⟨Nat.le_of_ble_eq_true rfl, Nat.le_of_ble_eq_true rfl⟩) ⟨fun a U g mk q => by obtain ⟨q0, q1, qP, qK, qD, qE0, qE1, qE2, qE3, qE4, qE5⟩ := q; exact ⟨q0, q1, qP, va_K.moved (u := U) (U := U.calling g mk a) (Vm.Alike.refl U.vm) qK, qD, vk_R.same rfl qE0, va_Z.moved (u := U) (U := U.calling g mk a) (Vm.Alike.refl U.vm) qE1, va_OF.moved (u := U) (U := U.calling g mk a) (Vm.Alike.refl U.vm) qE2, va_O.moved (u := U) (U := U.calling g mk a) (Vm.Alike.refl U.vm) qE3, va_OF.moved (u := U) (U := U.calling g mk a) (Vm.Alike.refl U.vm) qE4, va_T.moved (u := U) (U := U.calling g mk a) (Vm.Alike.refl U.vm) qE5⟩, hrv, fun U hU hW => ⟨rfl, by rw [hU], by rw [hU]; exact hPc, va_K.moved hW.alike hKc, hDc.weaken (fun _ _ _ _ => trivial), vk_R.warm hW hE_32, va_Z.moved hW.alike (by rw [hU]; exact (hE_10.kept hS.2.1).narrow hFc), va_OF.moved hW.alike (by rw [hU]; exact (hE_34.kept hS.2.1).narrow hFc), va_O.moved hW.alike (by rw [hU]; exact (hE_33.kept hS.2.1).narrow hFc), va_OF.moved hW.alike (by rw [hU]; exact (hE_35.kept hS.2.1).narrow hFc), va_T.moved hW.alike (by rw [hU]; exact (hE_36.kept hS.2.1).narrow hFc)⟩⟩ rfl rfl hl.1 rfl (lv_room (Nat.le_of_ble_eq_true rfl)) dX4_readAtom_96 ⟨Nat.le_of_ble_eq_true rfl, Nat.le_of_ble_eq_true rfl⟩) hS (fun q _ h => hFc q h) hFc (fun u t H1 locs ht hvm hw hB hz1 hk1 hS => ?_)
      as_aux_lemma =>
      obtain ⟨x_43, x_44, x_45, w_46⟩ := u
      obtain ⟨hP1, hK1, hD1⟩ := hB
      rw [ht] at hP1
      obtain ⟨hP, hD⟩ := cl_put (w1 := (wd_c_X4_readSum_6 h1 h1_0 h1_f1 x_43 x_44 h1_0 h1_0k h1_0c h0 h0_0 x_45 h0_2 h0_0 h0_0k w_46)) (nw := (wd_c_X4_readAtom_5 h1 h1_0 h1_f1 x_43 x_44 h1_0 h1_0k h1_0c h0 h0_0 x_45 h0_2 h0_0 h0_0k w_46)) hP hD [0, 1, 2, 3] [4, 5, 6, 7] 4 rfl hqc (by decide +kernel) rfl hk1 hFc hP1 hD1
      generalize H1 = H at hP hS ⊢
      as_aux_lemma =>
      rcases hw with ⟨h_47, h_48, h_49, h_50⟩
      have h_50 : (x_43, x_44, x_45, w_46) = _ := h_50
      replace hEX := hEX.trans (exc4_eq h_50)
      refine lv_aload_n hx hb dX4_readAtom_99 rfl (lv_at hl 3 rfl) ?_
      refine lv_bipush (v := 93) hx hb dX4_readAtom_100 kc_bipush_93 ?_
      obtain ⟨hPc, hDc, hFc, hqc⟩ := cl_cut (wc := (wd_c_X9_expect_2 h1 h1_0 h1_f1 x_43 x_44 h1_0 h1_0k h1_0c)) hP hD hS hA [0, 1] (by decide +kernel) rfl
      have hKc := hK.sub (tys' := [(h1_0k, .int)]) [0] rfl
      have hrv := va_recv hKc hPc (ci := 9) (q0 := 0) rfl rfl
      refine va_callv (va_runV (As := [.int 93]) (rest := []) ⟨hx, hb, hml, hown, hts⟩ (c_X9_expect_2 l dC dI H.size h1 93 h1_0 h1_f1 x_43 x_44 h1_0k h1_0c (RG_w (RG_k 93 93 rfl) (by decide +kernel)) (RG_w g_h1_f1 (by decide +kernel)) h_47 h_48 a_h1_0c) (cwV 1 hts gf_c_X4_readAtom_5_c_X9_expect_2 rfl rfl rfl mdV_X9_expect ⟨Nat.le_of_ble_eq_true rfl, Nat.le_of_ble_eq_true rfl⟩) ⟨fun a U g mk q => by obtain ⟨q0, q1, qP, qK, qD⟩ := q; exact ⟨q0, q1, qP, va_K.moved (u := U) (U := U.calling g mk a) (Vm.Alike.refl U.vm) qK, qD⟩, hrv, fun U hU hW => ⟨rfl, by rw [hU], by rw [hU]; exact hPc, va_K.moved hW.alike hKc, hDc.weaken (fun _ _ _ _ => trivial)⟩⟩ rfl rfl hl.1 rfl (lv_room (Nat.le_of_ble_eq_true rfl)) dX4_readAtom_102 ⟨Nat.le_of_ble_eq_true rfl, Nat.le_of_ble_eq_true rfl⟩) hS (fun q _ h => hFc q h) hFc (fun u t H1 locs ht hvm hw hB hz1 hk1 hS => ?_)
      obtain ⟨x_52, x_53⟩ := u
      obtain ⟨hP1, hK1, hD1⟩ := hB
      rw [ht] at hP1
      obtain ⟨hP, hD⟩ := cl_put (w1 := (wd_c_X9_expect_2 h1 h1_0 h1_f1 x_52 x_53 h1_0 h1_0k h1_0c)) (nw := (wd_c_X4_readAtom_5 h1 h1_0 h1_f1 x_52 x_53 h1_0 h1_0k h1_0c h0 h0_0 x_45 h0_2 h0_0 h0_0k w_46)) hP hD [0, 1] [4, 5, 2, 3] 4 rfl hqc (by decide +kernel) rfl hk1 hFc hP1 hD1
      generalize H1 = H at hP hS ⊢
      as_aux_lemma =>
      rcases hw with ⟨h_54, h_55, h_56, h_57⟩
      have h_57 : (x_52, x_53) = _ := h_57
      replace hEX := hEX.trans (exc2_eq h_57)
      have hK9 := hK.sub (tys' := []) [] rfl
      exact W.vret hx hb hr (fun t ht hW => ⟨⟨(x_52, x_53, x_45, w_46), rfl, ⟨h_54, h_55, h_49, (hR.trans hEX).symm⟩, by rw [ht]; exact hP, va_K.moved hW.alike hK9, hD⟩, hS.F ht⟩) hS.2.2 dX4_readAtom_105
    · replace hEX := hEX.trans (if_neg c_32)
      refine lv_aload_n hx hb dX4_readAtom_48 rfl (lv_at hl 3 rfl) ?_
      refine lv_iconst (v := 4) hx hb dX4_readAtom_49 kc_iconst_4 ?_
      obtain ⟨hPc, hDc, hFc, hqc⟩ := cl_cut (wc := (wd_c_X9_number_1 h1 h1_0 h1_f1 j20b_h1_f2 h1_f3 h1_0 h1_0k h1_0c)) hP hD hS hA [0, 1] (by decide +kernel) rfl
      have hKc := hK.sub (tys' := [(h1_0k, .int)]) [0] rfl
      have hrv := va_recv hKc hPc (ci := 9) (q0 := 0) rfl rfl
      refine va_calli (va_runV (As := [.int 4]) (rest := []) ⟨hx, hb, hml, hown, hts⟩ (c_X9_number_1 l dC dI H.size h1 h1_0 h1_f1 j20b_h1_f2 h1_f3 h1_0k h1_0c (RG_w g_h1_f1 (by decide +kernel)) (RG_w g_j20b_h1_f2 (by decide +kernel)) g_h1_f3 a_h1_0c) (cwV 1 hts gf_c_X4_readAtom_5_c_X9_number_1 rfl rfl rfl mdV_X9_number ⟨Nat.le_of_ble_eq_true rfl, Nat.le_of_ble_eq_true rfl⟩) ⟨fun a U g mk q => by obtain ⟨q0, q1, qP, qK, qD⟩ := q; exact ⟨q0, q1, qP, va_K.moved (u := U) (U := U.calling g mk a) (Vm.Alike.refl U.vm) qK, qD⟩, hrv, fun U hU hW => ⟨rfl, by rw [hU], by rw [hU]; exact hPc, va_K.moved hW.alike hKc, hDc.weaken (fun _ _ _ _ => trivial)⟩⟩ rfl rfl hl.1 rfl (lv_room (Nat.le_of_ble_eq_true rfl)) dX4_readAtom_50 ⟨Nat.le_of_ble_eq_true rfl, Nat.le_of_ble_eq_true rfl⟩) hS (fun q _ h => hFc q h) hFc (fun r_58 x_59 t H1 locs ht hvm hw hB hz1 hk1 hS => ?_)
      obtain ⟨hP1, hK1, hD1⟩ := hB
      rw [ht] at hP1
      obtain ⟨hP, hD⟩ := cl_put (w1 := (wd_c_X9_number_1 h1 h1_0 h1_f1 x_59 h1_f3 h1_0 h1_0k h1_0c)) (nw := (wd_c_X4_readAtom_5 h1 h1_0 h1_f1 x_59 h1_f3 h1_0 h1_0k h1_0c h0 h0_0 h0_f1 h0_2 h0_0 h0_0k h0_0c)) hP hD [0, 1] [4, 5, 2, 3] 4 rfl hqc (by decide +kernel) rfl hk1 hFc hP1 hD1
      generalize H1 = H at hP hS ⊢
      as_aux_lemma =>
      rcases hw with ⟨h_60, h_61, h_62, h_63⟩ | ⟨h_64, h_65, h_66, h_67, h_68, h_69⟩
      · have h_63 : (r_58, x_59) = _ := h_63
        replace hEX := hEX.trans (exc2_eq h_63)
        replace hEX := hEX.trans (if_pos (show r_58 = (-1) from h_60))
        rw [h_60]
        refine lv_istore (lv' := [(5, .int (-1)), (4, .int (-1)), (3, .int j20b_l3), (0, .ref h0), (1, .ref h1), (2, .int 5)]) hx hb dX4_readAtom_53 hl (Nat.le_of_ble_eq_true rfl) rfl (fun ls hl => ?_)
        refine lv_iload hx hb dX4_readAtom_55 (lv_at hl 0 rfl) ?_
        refine lv_iconst (v := (-1)) hx hb dX4_readAtom_57 kc_iconst_m1 ?_
        refine lv_icmp_ne (tgt := 65) hx hb dX4_readAtom_58 rfl (fun c_70 => absurd c_70 (by decide +kernel)) (fun c_70 => ?_)
        refine lv_aload_n hx hb dX4_readAtom_61 rfl (lv_at hl 4 rfl) ?_
        obtain ⟨hPc, hDc, hFc, hqc⟩ := cl_cut (wc := (wd_c_X9_refuseHere h1 h1_0 h1_f1 x_59 h1_f3)) hP hD hS hA [0] (by decide +kernel) rfl
        have hKc := hK.sub (tys' := []) [] rfl
        have hrv := va_recv hKc hPc (ci := 9) (q0 := 0) rfl rfl
        refine va_callv (va_runV (As := []) (rest := []) ⟨hx, hb, hml, hown, hts⟩ (c_X9_refuseHere l dC dI H.size h1 h1_0 h1_f1 x_59 h1_f3 (RG_w g_h1_f1 (by decide +kernel)) h_61 g_h1_f3) (cwV 0 hts gf_c_X4_readAtom_5_c_X9_refuseHere rfl rfl rfl mdV_X9_refuseHere ⟨Nat.le_of_ble_eq_true rfl, Nat.le_of_ble_eq_true rfl⟩) ⟨fun a U g mk q => by obtain ⟨q0, q1, qP, qK, qD⟩ := q; exact ⟨q0, q1, qP, va_K.moved (u := U) (U := U.calling g mk a) (Vm.Alike.refl U.vm) qK, qD⟩, hrv, fun U hU hW => ⟨rfl, by rw [hU], by rw [hU]; exact hPc, va_K.moved hW.alike hKc, hDc.weaken (fun _ _ _ _ => trivial)⟩⟩ rfl rfl hl.1 rfl (lv_room (Nat.le_of_ble_eq_true rfl)) dX4_readAtom_62 ⟨Nat.le_of_ble_eq_true rfl, Nat.le_of_ble_eq_true rfl⟩) hS (fun q _ h => hFc q h) hFc (fun x_72 t H1 locs ht hvm hw hB hz1 hk1 hS => ?_)
        as_aux_lemma =>
        obtain ⟨hP1, hK1, hD1⟩ := hB
        rw [ht] at hP1
        obtain ⟨hP, hD⟩ := cl_put (w1 := (wd_c_X9_refuseHere h1 h1_0 h1_f1 x_59 x_72)) (nw := (wd_c_X4_readAtom_5 h1 h1_0 h1_f1 x_59 x_72 h1_0 h1_0k h1_0c h0 h0_0 h0_f1 h0_2 h0_0 h0_0k h0_0c)) hP hD [0] [4, 1, 2, 3] 4 rfl hqc (by decide +kernel) rfl hk1 hFc hP1 hD1
        generalize H1 = H at hP hS ⊢
        as_aux_lemma =>
        rcases hw with ⟨h_73, h_74⟩
        have h_74 : x_72 = _ := h_74
        replace hEX := hEX.trans (exc1_eq h_74)
        exact hU _ _ _ (J65b (-1) x_59 x_72 g_h0_f1 g_h1_f1 g_h1_f2 g_h1_f3 h_61 (RG_w h_73 (by decide +kernel)) (RG_w (RG_k (-1) (-1) rfl) (by decide +kernel)) hEX _ _ _ hP hD hS (lv_sub hl [0, 3] rfl))
      · have h_69 : (r_58, x_59) = _ := h_69
        replace hEX := hEX.trans (exc2_eq h_69)
        replace hEX := hEX.trans (if_neg (RG_neq (x := r_58) (c := (-1)) (show RG r_58 0 9999 from h_64) (by decide +kernel)))
        refine lv_istore (lv' := [(5, .int r_58), (4, .int (-1)), (3, .int j20b_l3), (0, .ref h0), (1, .ref h1), (2, .int 5)]) hx hb dX4_readAtom_53 hl (Nat.le_of_ble_eq_true rfl) rfl (fun ls hl => ?_)
        refine lv_iload hx hb dX4_readAtom_55 (lv_at hl 0 rfl) ?_
        refine lv_iconst (v := (-1)) hx hb dX4_readAtom_57 kc_iconst_m1 ?_
        refine lv_icmp_ne (tgt := 65) hx hb dX4_readAtom_58 rfl (fun c_75 => ?_) (fun c_75 => ?_)
        · replace hEX := hEX.trans (if_neg c_75)
          exact hU _ _ _ (J65b r_58 x_59 h1_f3 g_h0_f1 g_h1_f1 g_h1_f2 g_h1_f3 (RG_w h_65 (by decide +kernel)) g_h1_f3 (RG_w h_64 (by decide +kernel)) hEX _ _ _ hP hD hS (lv_sub hl [0, 3] rfl))
        · replace hEX := hEX.trans (if_pos c_75)
          exact RG_dead (RG_eq1 h_64 (RG_k (-1) (-1) rfl) c_75 (a' := 0) (b' := (-1)) (by decide +kernel)) (by decide +kernel)
  have J20c : ∀ (j20c_l3 : Int32) (j20c_s0 : Int32) (j20c_h1_f2 : Int32) (g_h0_f1 : RG h0_f1 0 240) (g_h1_f1 : RG h1_f1 1 240) (g_h1_f2 : RG h1_f2 0 240) (g_h1_f3 : RG h1_f3 (-1) 240) (g_j20c_h1_f2 : RG j20c_h1_f2 0 239) (g_j20c_l3 : RG j20c_l3 0 255) (g_j20c_s0 : RG j20c_s0 0 5) (hEX : RES = fx_c_X4_readAtom_5_p20c h1_f3 h0_f1 h0_0c j20c_s0 j20c_h1_f2) (H : Heap) (locs : List Loc) (ls : Array Slot) (hP : va_P (dC, dI) vwCl (wd_c_X4_readAtom_5 h1 h1_0 h1_f1 j20c_h1_f2 h1_f3 h1_0 h1_0k h1_0c h0 h0_0 h0_f1 h0_2 h0_0 h0_0k h0_0c) H) (hD : va_D A (wd_c_X4_readAtom_5 h1 h1_0 h1_f1 j20c_h1_f2 h1_f3 h1_0 h1_0k h1_0c h0 h0_0 h0_f1 h0_2 h0_0 h0_0k h0_0c)) (hS : va_S A s.heap H locs) (hl : lv_has ls 6 [(3, .int j20c_l3), (0, .ref h0), (1, .ref h1), (2, .int 5)]), G H locs (F0 m 20 ls [.int j20c_s0]) := by
    as_aux_lemma =>
    intro j20c_l3 j20c_s0 j20c_h1_f2 g_h0_f1 g_h1_f1 g_h1_f2 g_h1_f3 g_j20c_h1_f2 g_j20c_l3 g_j20c_s0 hEX H locs ls hP hD hS hl
    refine hG _ _ _ ?_
    refine lv_istore (lv' := [(4, .int j20c_s0), (3, .int j20c_l3), (0, .ref h0), (1, .ref h1), (2, .int 5)]) hx hb dX4_readAtom_20 hl (Nat.le_of_ble_eq_true rfl) rfl (fun ls hl => ?_)
    refine lv_iload hx hb dX4_readAtom_22 (lv_at hl 0 rfl) ?_
    refine lv_if_lt (tgt := 42) hx hb dX4_readAtom_24 rfl (fun c_76 => ?_) (fun c_76 => ?_)
    · replace hEX := hEX.trans (if_pos c_76)
      have g_77 : RG j20c_s0 0 (-1) := RG_lt1 g_j20c_s0 (RG_k 0 0 rfl) c_76 (by decide +kernel)
      exact RG_dead (RG_lt1 g_j20c_s0 (RG_k 0 0 rfl) c_76 (b' := (-1)) (by decide +kernel)) (by decide +kernel)
    · replace hEX := hEX.trans (if_neg c_76)
      have d_78 := Int32.not_lt.mp c_76
      refine lv_aload_n hx hb dX4_readAtom_27 rfl (lv_at hl 3 rfl) ?_
      obtain ⟨hPc, hDc, hFc, hqc⟩ := cl_cut (wc := (wd_c_X9_skip h1 h1_0 h1_f1 j20c_h1_f2 h1_f3)) hP hD hS hA [0] (by decide +kernel) rfl
      have hKc := hK.sub (tys' := []) [] rfl
      have hrv := va_recv hKc hPc (ci := 9) (q0 := 0) rfl rfl
      refine va_callv (va_runV (As := []) (rest := []) ⟨hx, hb, hml, hown, hts⟩ (c_X9_skip l dC dI H.size h1 h1_0 h1_f1 j20c_h1_f2 h1_f3 (RG_w g_h1_f1 (by decide +kernel)) g_j20c_h1_f2 g_h1_f3) (cwV 0 hts gf_c_X4_readAtom_5_c_X9_skip rfl rfl rfl mdV_X9_skip ⟨Nat.le_of_ble_eq_true rfl, Nat.le_of_ble_eq_true rfl⟩) ⟨fun a U g mk q => by obtain ⟨q0, q1, qP, qK, qD⟩ := q; exact ⟨q0, q1, qP, va_K.moved (u := U) (U := U.calling g mk a) (Vm.Alike.refl U.vm) qK, qD⟩, hrv, fun U hU hW => ⟨rfl, by rw [hU], by rw [hU]; exact hPc, va_K.moved hW.alike hKc, hDc.weaken (fun _ _ _ _ => trivial)⟩⟩ rfl rfl hl.1 rfl (lv_room (Nat.le_of_ble_eq_true rfl)) dX4_readAtom_28 ⟨Nat.le_of_ble_eq_true rfl, Nat.le_of_ble_eq_true rfl⟩) hS (fun q _ h => hFc q h) hFc (fun x_80 t H1 locs ht hvm hw hB hz1 hk1 hS => ?_)
      as_aux_lemma =>
      obtain ⟨hP1, hK1, hD1⟩ := hB
      rw [ht] at hP1
      obtain ⟨hP, hD⟩ := cl_put (w1 := (wd_c_X9_skip h1 h1_0 h1_f1 x_80 h1_f3)) (nw := (wd_c_X4_readAtom_5 h1 h1_0 h1_f1 x_80 h1_f3 h1_0 h1_0k h1_0c h0 h0_0 h0_f1 h0_2 h0_0 h0_0k h0_0c)) hP hD [0] [4, 1, 2, 3] 4 rfl hqc (by decide +kernel) rfl hk1 hFc hP1 hD1
      generalize H1 = H at hP hS ⊢
      as_aux_lemma =>
      rcases hw with ⟨h_81, h_82, h_83, h_84⟩
      have h_84 : x_80 = _ := h_84
      replace hEX := hEX.trans (exc1_eq h_84)
      refine lv_aload_n hx hb dX4_readAtom_31 rfl (lv_at hl 2 rfl) ?_
      refine lv_iconst (v := (-1)) hx hb dX4_readAtom_32 kc_iconst_m1 ?_
      refine lv_iload hx hb dX4_readAtom_33 (lv_at hl 0 rfl) ?_
      refine lv_isub hx hb dX4_readAtom_35 ?_
      refine lv_topi (fun x_85 ex_85 => ?_)
      replace hEX := hEX.trans (exl_eq ex_85)
      have g_86 : RG x_85 (-6) (-1) := RG_sub ex_85 (RG_k (-1) (-1) rfl) g_j20c_s0 (by decide +kernel)
      obtain ⟨hPc, hDc, hFc, hqc⟩ := cl_cut (wc := (wd_c_X4_emit h0 h0_0 h0_f1 h0_2 h0_0 h0_0k h0_0c)) hP hD hS hA [2, 3] (by decide +kernel) rfl
      have hKc := hK.sub (tys' := [(h0_0k, .int)]) [1] rfl
      have hrv := va_recv hKc hPc (ci := 4) (q0 := 0) rfl rfl
      refine va_callv (va_runV (As := [.int x_85]) (rest := []) ⟨hx, hb, hml, hown, hts⟩ (c_X4_emit l dC dI H.size h0 x_85 h0_0 h0_f1 h0_2 h0_0k h0_0c g_h0_f1) (cwV 1 hts gf_c_X4_readAtom_5_c_X4_emit rfl rfl rfl mdV_X4_emit ⟨Nat.le_of_ble_eq_true rfl, Nat.le_of_ble_eq_true rfl⟩) ⟨fun a U g mk q => by obtain ⟨q0, q1, qP, qK, qD⟩ := q; exact ⟨q0, q1, qP, va_K.moved (u := U) (U := U.calling g mk a) (Vm.Alike.refl U.vm) qK, qD⟩, hrv, fun U hU hW => ⟨rfl, by rw [hU], by rw [hU]; exact hPc, va_K.moved hW.alike hKc, hDc.weaken (fun _ _ _ _ => trivial)⟩⟩ rfl rfl hl.1 rfl (lv_room (Nat.le_of_ble_eq_true rfl)) dX4_readAtom_36 ⟨Nat.le_of_ble_eq_true rfl, Nat.le_of_ble_eq_true rfl⟩) hS (fun q _ h => hFc q h) hFc (fun u t H1 locs ht hvm hw hB hz1 hk1 hS => ?_)
      as_aux_lemma =>
      obtain ⟨x_88, w_89⟩ := u
      obtain ⟨hP1, hK1, hD1⟩ := hB
      rw [ht] at hP1
      obtain ⟨hP, hD⟩ := cl_put (w1 := (wd_c_X4_emit h0 h0_0 x_88 h0_2 h0_0 h0_0k w_89)) (nw := (wd_c_X4_readAtom_5 h1 h1_0 h1_f1 x_80 h1_f3 h1_0 h1_0k h1_0c h0 h0_0 x_88 h0_2 h0_0 h0_0k w_89)) hP hD [2, 3] [0, 1, 4, 5] 4 rfl hqc (by decide +kernel) rfl hk1 hFc hP1 hD1
      generalize H1 = H at hP hS ⊢
      as_aux_lemma =>
      rcases hw with ⟨h_90, h_91⟩
      have h_91 : (x_88, w_89) = _ := h_91
      replace hEX := hEX.trans (exc2_eq h_91)
      refine lv_goto (tgt := 105) hx hb dX4_readAtom_39 rfl ?_
      have hK9 := hK.sub (tys' := []) [] rfl
      exact W.vret hx hb hr (fun t ht hW => ⟨⟨(x_80, h1_f3, x_88, w_89), rfl, ⟨(RG_w h_81 (by decide +kernel)), g_h1_f3, (RG_w h_90 (by decide +kernel)), (hR.trans hEX).symm⟩, by rw [ht]; exact hP, va_K.moved hW.alike hK9, hD⟩, hS.F ht⟩) hS.2.2 dX4_readAtom_105
  refine hG _ _ _ ?_
  refine lv_aload_n hx hb dX4_readAtom_0 rfl (lv_at hl 1 rfl) ?_
  obtain ⟨hPc, hDc, hFc, hqc⟩ := cl_cut (wc := (wd_c_X9_peek h1 h1_0 h1_f1 h1_f2 h1_f3 h1_0 h1_0k h1_0c)) hP hD hS hA [0, 1] (by decide +kernel) rfl
  have hKc := hK.sub (tys' := [(h1_0k, .int)]) [0] rfl
  have hrv := va_recv hKc hPc (ci := 9) (q0 := 0) rfl rfl
  refine va_calli (va_runV (As := []) (rest := []) ⟨hx, hb, hml, hown, hts⟩ (c_X9_peek l dC dI H.size h1 h1_0 h1_f1 h1_f2 h1_f3 h1_0k h1_0c g_h1_f1 g_h1_f2 g_h1_f3 a_h1_0c) (cwV 0 hts gf_c_X4_readAtom_5_c_X9_peek rfl rfl rfl mdV_X9_peek ⟨Nat.le_of_ble_eq_true rfl, Nat.le_of_ble_eq_true rfl⟩) ⟨fun a U g mk q => by obtain ⟨q0, q1, qP, qK, qD⟩ := q; exact ⟨q0, q1, qP, va_K.moved (u := U) (U := U.calling g mk a) (Vm.Alike.refl U.vm) qK, qD⟩, hrv, fun U hU hW => ⟨rfl, by rw [hU], by rw [hU]; exact hPc, va_K.moved hW.alike hKc, hDc.weaken (fun _ _ _ _ => trivial)⟩⟩ rfl rfl hl.1 rfl (lv_room (Nat.le_of_ble_eq_true rfl)) dX4_readAtom_1 ⟨Nat.le_of_ble_eq_true rfl, Nat.le_of_ble_eq_true rfl⟩) hS (fun q _ h => hFc q h) hFc (fun r_92 x_93 t H1 locs ht hvm hw hB hz1 hk1 hS => ?_)
  obtain ⟨hP1, hK1, hD1⟩ := hB
  rw [ht] at hP1
  obtain ⟨hP, hD⟩ := cl_put (w1 := (wd_c_X9_peek h1 h1_0 h1_f1 x_93 h1_f3 h1_0 h1_0k h1_0c)) (nw := (wd_c_X4_readAtom_5 h1 h1_0 h1_f1 x_93 h1_f3 h1_0 h1_0k h1_0c h0 h0_0 h0_f1 h0_2 h0_0 h0_0k h0_0c)) hP hD [0, 1] [4, 5, 2, 3] 4 rfl hqc (by decide +kernel) rfl hk1 hFc hP1 hD1
  generalize H1 = H at hP hS ⊢
  as_aux_lemma =>
  rcases hw with ⟨h_94, h_95, h_96, h_97⟩ | ⟨h_98, h_99, h_100, h_101, h_102⟩
  · have h_97 : (r_92, x_93) = _ := h_97
    replace hEX := hEX.trans (exc2_eq h_97)
    replace hEX := hEX.trans (if_pos (show r_92 = (-1) from h_94))
    rw [h_94]
    refine lv_istore_n (lv' := [(3, .int (-1)), (0, .ref h0), (1, .ref h1), (2, .int 5)]) hx hb dX4_readAtom_4 rfl hl (Nat.le_of_ble_eq_true rfl) rfl (fun ls hl => ?_)
    refine lv_iload_n hx hb dX4_readAtom_5 rfl (lv_at hl 0 rfl) ?_
    refine lv_if_ge (tgt := 13) hx hb dX4_readAtom_6 rfl (fun c_103 => absurd c_103 (by decide +kernel)) (fun c_103 => ?_)
    refine lv_iconst (v := (-1)) hx hb dX4_readAtom_9 kc_iconst_m1 ?_
    refine lv_goto (tgt := 20) hx hb dX4_readAtom_10 rfl ?_
    exact hU _ _ _ (J20 x_93 g_h0_f1 g_h1_f1 g_h1_f2 g_h1_f3 h_95 hEX _ _ _ hP hD hS (lv_sub hl [0, 1, 2, 3] rfl))
  · have h_102 : (r_92, x_93) = _ := h_102
    replace hEX := hEX.trans (exc2_eq h_102)
    replace hEX := hEX.trans (if_neg (RG_neq (x := r_92) (c := (-1)) (show RG r_92 0 255 from h_98) (by decide +kernel)))
    refine lv_istore_n (lv' := [(3, .int r_92), (0, .ref h0), (1, .ref h1), (2, .int 5)]) hx hb dX4_readAtom_4 rfl hl (Nat.le_of_ble_eq_true rfl) rfl (fun ls hl => ?_)
    as_aux_lemma =>
    refine lv_iload_n hx hb dX4_readAtom_5 rfl (lv_at hl 0 rfl) ?_
    refine lv_if_ge (tgt := 13) hx hb dX4_readAtom_6 rfl (fun c_104 => ?_) (fun c_104 => ?_)
    · replace hEX := hEX.trans (if_pos c_104)
      refine va_ldcS hx hb hown hE_32 dX4_readAtom_13 ?_
      refine lv_iload_n hx hb dX4_readAtom_15 rfl (lv_at hl 0 rfl) ?_
      refine lv_i2c hx hb dX4_readAtom_16 rfl ?_
      refine lv_topi (fun x_105 ex_105 => ?_)
      replace hEX := hEX.trans (exl_eq ex_105)
      have g_106 : RG x_105 0 65535 := RG_i2c ex_105
      obtain ⟨hPc, hDc, hFc, hqc⟩ := cl_cut (wc := []) hP hD hS hA [] (by decide +kernel) rfl
      have hKc := hK.sub (tys' := []) [] rfl
      have hrv := bv_Orecv hE_33 hS
      refine va_calli (va_runV (As := [.int x_105]) (rest := []) ⟨hx, hb, hml, hown, hts⟩ (c_J0_indexOf_0f7a4_4 l dC dI H.size ts4 x_105 tv4 g_106) (cwV 1 hts gf_c_X4_readAtom_5_c_J0_indexOf_0f7a4_4 rfl rfl rfl mdV_J0_indexOf_0f7a4 ⟨Nat.le_of_ble_eq_true rfl, Nat.le_of_ble_eq_true rfl⟩) ⟨fun a U g mk q => by obtain ⟨q0, q1, qP, qK, qD, qE0, qE1, qE2, qE3, qE4⟩ := q; exact ⟨q0, q1, qP, va_K.moved (u := U) (U := U.calling g mk a) (Vm.Alike.refl U.vm) qK, qD, va_Z.moved (u := U) (U := U.calling g mk a) (Vm.Alike.refl U.vm) qE0, va_OF.moved (u := U) (U := U.calling g mk a) (Vm.Alike.refl U.vm) qE1, va_O.moved (u := U) (U := U.calling g mk a) (Vm.Alike.refl U.vm) qE2, va_OF.moved (u := U) (U := U.calling g mk a) (Vm.Alike.refl U.vm) qE3, va_T.moved (u := U) (U := U.calling g mk a) (Vm.Alike.refl U.vm) qE4⟩, hrv, fun U hU hW => ⟨rfl, by rw [hU], by rw [hU]; exact hPc, va_K.moved hW.alike hKc, hDc.weaken (fun _ _ _ _ => trivial), va_Z.moved hW.alike (by rw [hU]; exact (hE_10.kept hS.2.1).narrow hFc), va_OF.moved hW.alike (by rw [hU]; exact (hE_34.kept hS.2.1).narrow hFc), va_O.moved hW.alike (by rw [hU]; exact (hE_33.kept hS.2.1).narrow hFc), va_OF.moved hW.alike (by rw [hU]; exact (hE_35.kept hS.2.1).narrow hFc), va_T.moved hW.alike (by rw [hU]; exact (hE_36.kept hS.2.1).narrow hFc)⟩⟩ rfl rfl hl.1 rfl (lv_room (Nat.le_of_ble_eq_true rfl)) dX4_readAtom_17 ⟨Nat.le_of_ble_eq_true rfl, Nat.le_of_ble_eq_true rfl⟩) hS (fun q _ h => hFc q h) hFc (fun r_107 u t H1 locs ht hvm hw hB hz1 hk1 hS => ?_)
      obtain ⟨hP1, hK1, hD1⟩ := hB
      rw [ht] at hP1
      have hP := bv_still hP hk1
      generalize H1 = H at hP hS ⊢
      as_aux_lemma =>
      rcases hw with ⟨h_108, h_109⟩ | ⟨h_110, h_111, h_112⟩
      · have h_109 : r_107 = _ := h_109
        replace hEX := hEX.trans (exc1_eq h_109)
        replace hEX := hEX.trans (if_pos (show r_107 = (-1) from h_108))
        rw [h_108]
        exact hU _ _ _ (J20b r_92 x_93 g_h0_f1 h_100 g_h1_f2 g_h1_f3 h_99 h_98 hEX _ _ _ hP hD hS (lv_sub hl [0, 1, 2, 3] rfl))
      · have h_112 : r_107 = _ := h_112
        replace hEX := hEX.trans (exc1_eq h_112)
        replace hEX := hEX.trans (if_neg (RG_neq (x := r_107) (c := (-1)) (show RG r_107 0 5 from h_110) (by decide +kernel)))
        exact hU _ _ _ (J20c r_92 r_107 x_93 g_h0_f1 h_100 g_h1_f2 g_h1_f3 h_99 h_98 h_110 hEX _ _ _ hP hD hS (lv_sub hl [0, 1, 2, 3] rfl))
    · replace hEX := hEX.trans (if_neg c_104)
      have d_113 := Int32.not_le.mp c_104
      have g_114 : RG r_92 0 (-1) := RG_lt1 h_98 (RG_k 0 0 rfl) d_113 (by decide +kernel)
      exact RG_dead (RG_lt1 h_98 (RG_k 0 0 rfl) d_113 (b' := (-1)) (by decide +kernel)) (by decide +kernel)
noncomputable def wd_c_X4_readSum_5 (a0 : Nat) (a1 : Nat) (a2 : Int32) (a3 : Int32) (a4 : Int32) (a5 : Nat) (a6 : ClassId) (a7 : Nat → Int32) (a8 : Nat) (a9 : Nat) (a10 : Int32) (a11 : Nat) (a12 : Nat) (a13 : ClassId) (a14 : Nat → Int32) : va_W := [(a0, .inr (9, [.ref a1, .int a2, .int a3, .int a4])), (a5, .inl (a6, 240, .inl a7)), (a8, .inr (4, [.ref a9, .int a10, .ref a11])), (a12, .inl (a13, 240, .inl a14))]
noncomputable def wf_c_X4_readSum_5 : List Cond := List.cons (.code yX4_readSum cX4_readSum 6 none) (@HAppend.hAppend (List Cond) (List Cond) (List Cond) _ (@HAppend.hAppend (List Cond) (List Cond) (List Cond) _ [.methodLink RX4 72 yX9_isRight, .instanceMethod yX9_isRight, .selects RX9 yX9_isRight yX9_isRight, .initialized RX9, .code yX9_isRight cX9_isRight 1 (some .boolean), .fieldLink RX9 15 "BuoyVote$Tape" "wrong" "I", .methodLink RX4 85 yX4_readAtom, .instanceMethod yX4_readAtom, .selects RX4 yX4_readAtom yX4_readAtom, .initialized RX4, .code yX4_readAtom cX4_readAtom 6 none, .methodLink RX4 41 yX9_peek, .instanceMethod yX9_peek, .selects RX9 yX9_peek yX9_peek, .code yX9_peek cX9_peek 1 (some .int), .fieldLink RX9 22 "BuoyVote$Tape" "at" "I", .fieldLink RX9 19 "BuoyVote$Tape" "length" "I", .fieldLink RX9 11 "BuoyVote$Tape" "bytes" "[I", .methodLink RX4 93 yJ0_indexOf_0f7a4, .instanceMethod yJ0_indexOf_0f7a4, .selects RJ0 yJ0_indexOf_0f7a4 yJ0_indexOf_0f7a4, .initialized RJ0, .code yJ0_indexOf_0f7a4 cJ0_indexOf_0f7a4 2 (some .int), .methodLink RJ0 633 yJ0_indexOf_7cf53, .instanceMethod yJ0_indexOf_7cf53, .selects RJ0 yJ0_indexOf_7cf53 yJ0_indexOf_7cf53, .code yJ0_indexOf_7cf53 cJ0_indexOf_7cf53 3 (some .int), .methodLink RJ0 492 yJ0_isLatin1_aae02, .instanceMethod yJ0_isLatin1_aae02, .selects RJ0 yJ0_isLatin1_aae02 yJ0_isLatin1_aae02, .code yJ0_isLatin1_aae02 cJ0_isLatin1_aae02 1 (some .boolean), .fieldLink RJ0 38 "java/lang/String" "COMPACT_STRINGS" "Z", .fieldLink RJ0 15 "java/lang/String" "coder" "B", .fieldLink RJ0 9 "java/lang/String" "value" "[B", .methodLink RJ0 505 yJ0_length_8abf5, .instanceMethod yJ0_length_8abf5, .selects RJ0 yJ0_length_8abf5 yJ0_length_8abf5, .code yJ0_length_8abf5 cJ0_length_8abf5 1 (some .int), .methodLink RJ0 335 yJ0_coder_7d493, .instanceMethod yJ0_coder_7d493, .selects RJ0 yJ0_coder_7d493 yJ0_coder_7d493, .code yJ0_coder_7d493 cJ0_coder_7d493 1 (some .byte), .methodLink RJ0 637 yJ1_indexOf_4cfef, .static yJ1_indexOf_4cfef, .initialized RJ1, .code yJ1_indexOf_4cfef cJ1_indexOf_4cfef 4 (some .int), .methodLink RJ1 88 yJ1_canEncode_9a6ad, .static yJ1_canEncode_9a6ad, .code yJ1_canEncode_9a6ad cJ1_canEncode_9a6ad 1 (some .boolean), .methodLink RJ1 92 Lib.Math.max.name, .static Lib.Math.max.name, .initialized "java/lang/Math", .code Lib.Math.max.name Lib.Math.max.code 2 (some .int), .methodLink RJ1 38 Lib.Math.min.name, .static Lib.Math.min.name, .code Lib.Math.min.name Lib.Math.min.code 2 (some .int), .methodLink RJ1 95 yJ1_indexOfChar_4cfef, .static yJ1_indexOfChar_4cfef, .code yJ1_indexOfChar_4cfef cJ1_indexOfChar_4cfef 6 (some .int), .methodLink RX4 99 yX9_number, .instanceMethod yX9_number, .selects RX9 yX9_number yX9_number, .code yX9_number cX9_number 4 (some .int), .methodLink RX4 82 yX9_refuseHere, .instanceMethod yX9_refuseHere, .selects RX9 yX9_refuseHere yX9_refuseHere, .code yX9_refuseHere cX9_refuseHere 1 none, .methodLink RX9 25 yX9_refuse, .instanceMethod yX9_refuse, .selects RX9 yX9_refuse yX9_refuse, .code yX9_refuse cX9_refuse 2 none, .methodLink RX4 79 yX9_skip, .instanceMethod yX9_skip, .selects RX9 yX9_skip yX9_skip, .code yX9_skip cX9_skip 1 none, .methodLink RX4 49 yX4_readSum, .instanceMethod yX4_readSum, .selects RX4 yX4_readSum yX4_readSum, .methodLink RX4 60 yX4_emit, .instanceMethod yX4_emit, .selects RX4 yX4_emit yX4_emit, .code yX4_emit cX4_emit 2 none, .fieldLink RX4 20 "BuoyVote$Law" "length" "I", .fieldLink RX4 11 "BuoyVote$Law" "code" "[I", .methodLink RX4 88 yX9_takeEither, .instanceMethod yX9_takeEither, .selects RX9 yX9_takeEither yX9_takeEither, .code yX9_takeEither cX9_takeEither 4 (some .int), .methodLink RX9 29 yX9_peek, .methodLink RX4 37 yX9_expect, .instanceMethod yX9_expect, .selects RX9 yX9_expect yX9_expect, .code yX9_expect cX9_expect 2 none] wsX90) wsX40)
theorem iw_c_X4_readSum_5_X9 : ∀ w ∈ wsX90, w ∈ wf_c_X4_readSum_5 := fun w h => List.mem_cons_of_mem _ (List.mem_append_left _ (List.mem_append_right _ h))
theorem iw_c_X4_readSum_5_X4 : ∀ w ∈ wsX40, w ∈ wf_c_X4_readSum_5 := fun w h => List.mem_cons_of_mem _ (List.mem_append_right _ h)
set_option maxRecDepth 20000 in
theorem gf_c_X4_readSum_5_c_X9_takeEither : GoodIn wf_c_X4_readSum_5 (wsV RX4 88 RX9 yX9_takeEither wf_c_X9_takeEither) := goodIn_app (gi_l [85, 86, 87, 4] rfl rfl) (gi_cons (j := 88) rfl rfl (goodIn_app (gi_l [89, 13, 14, 4, 15, 16, 17, 18, 6] rfl rfl) (goodIn_sub iw_c_X4_readSum_5_X9 gw_X9)))
set_option maxRecDepth 20000 in
theorem gf_c_X4_readSum_5_c_X4_emit : GoodIn wf_c_X4_readSum_5 (wsV RX4 60 RX4 yX4_emit wf_c_X4_emit) := goodIn_app (gi_l [79, 80, 81, 10] rfl rfl) (gi_cons (j := 82) rfl rfl (goodIn_app (gi_l [83, 84] rfl rfl) (goodIn_sub iw_c_X4_readSum_5_X4 gw_X4)))
set_option maxRecDepth 20000 in
theorem gf_c_X4_readSum_5_c_X9_isRight : GoodIn wf_c_X4_readSum_5 (wsV RX4 72 RX9 yX9_isRight wf_c_X9_isRight) := goodIn_app (gi_l [1, 2, 3, 4] rfl rfl) (gi_cons (j := 5) rfl rfl (goodIn_app (gi_l [6] rfl rfl) (goodIn_sub iw_c_X4_readSum_5_X9 gw_X9)))
set_option maxRecDepth 20000 in
theorem gf_c_X4_readSum_5_c_X4_readAtom_5 : GoodIn wf_c_X4_readSum_5 (wsV RX4 85 RX4 yX4_readAtom wf_c_X4_readAtom_5) := goodIn_app (gi_l [7, 8, 9, 10] rfl rfl) (gi_cons (j := 11) rfl rfl (goodIn_app (goodIn_app (gi_l [12, 13, 14, 4, 15, 16, 17, 18, 19, 20, 21, 22, 23, 24, 25, 26, 27, 28, 29, 30, 31, 32, 33, 34, 35, 36, 37, 38, 39, 40, 41, 42, 43, 44, 45, 46, 47, 48, 49, 50, 51, 52, 53, 54, 55, 56, 57, 58, 59, 60, 61, 62, 63, 64, 65, 66, 67, 68, 69, 70, 71, 6, 72, 73, 74, 75, 76, 77, 78, 10, 0, 1, 2, 3, 5, 7, 8, 9, 79, 80, 81, 82, 83, 84, 85, 86, 87, 88, 89, 90, 91, 92, 93] rfl rfl) (goodIn_sub iw_c_X4_readSum_5_X9 gw_X9)) (goodIn_sub iw_c_X4_readSum_5_X4 gw_X4)))
set_option maxHeartbeats 4000000 in
set_option maxRecDepth 100000 in
theorem c_X4_readSum_5 (l : Launch) (dC : Nat → ClassId) (dI : Nat → Nat → Nat) (sz : Nat) (h0 : Nat) (h1 : Nat) (h1_0 : Nat) (h1_f1 : Int32) (h1_f2 : Int32) (h1_f3 : Int32) (h1_0k : ClassId) (h1_0c : Nat → Int32) (h0_0 : Nat) (h0_f1 : Int32) (h0_2 : Nat) (h0_0k : ClassId) (h0_0c : Nat → Int32) (ts4 : Nat) (tv4 : Nat) (g_h1_f1 : RG h1_f1 0 240) (g_h1_f2 : RG h1_f2 0 240) (g_h1_f3 : RG h1_f3 (-1) 240) (a_h1_0c : AI h1_0c 0 255) (g_h0_f1 : RG h0_f1 0 240) : Met l yX4_readSum wf_c_X4_readSum_5 ({ frames := 7, cells := 0, slots := 0, locals := 166 }) (va_Pc [.ref h0, .ref h1, .int 5] (fun U => U.heap.size = sz ∧ va_P (dC, dI) vwCl (wd_c_X4_readSum_5 h1 h1_0 h1_f1 h1_f2 h1_f3 h1_0 h1_0k h1_0c h0 h0_0 h0_f1 h0_2 h0_0 h0_0k h0_0c) U.heap ∧ va_K (dC, dI) vwCl [(h1_0k, .int), (h0_0k, .int)] U ∧ va_D (fun _ => True) (wd_c_X4_readSum_5 h1 h1_0 h1_f1 h1_f2 h1_f3 h1_0 h1_0k h1_0c h0 h0_0 h0_f1 h0_2 h0_0 h0_0k h0_0c) ∧ vk_R RX4 91 "vlrdph" ts4 U ∧ va_Z "java/lang/String" "COMPACT_STRINGS" "Z" (.int 1) (va_A (wd_c_X4_readSum_5 h1 h1_0 h1_f1 h1_f2 h1_f3 h1_0 h1_0k h1_0c h0 h0_0 h0_f1 h0_2 h0_0 h0_0k h0_0c) sz) U U.heap ∧ va_OF "java/lang/String" "coder" "B" (.int 0) ts4 (va_A (wd_c_X4_readSum_5 h1 h1_0 h1_f1 h1_f2 h1_f3 h1_0 h1_0k h1_0c h0 h0_0 h0_f1 h0_2 h0_0 h0_0k h0_0c) sz) U U.heap ∧ va_O "java/lang/String" ts4 (va_A (wd_c_X4_readSum_5 h1 h1_0 h1_f1 h1_f2 h1_f3 h1_0 h1_0k h1_0c h0 h0_0 h0_f1 h0_2 h0_0 h0_0k h0_0c) sz) U U.heap ∧ va_OF "java/lang/String" "value" "[B" (.ref tv4) ts4 (va_A (wd_c_X4_readSum_5 h1 h1_0 h1_f1 h1_f2 h1_f3 h1_0 h1_0k h1_0c h0 h0_0 h0_f1 h0_2 h0_0 h0_0k h0_0c) sz) U U.heap ∧ va_T .byte tv4 6 (fun j => .int ([118, 108, 114, 100, 112, 104].getD j 0)) (va_A (wd_c_X4_readSum_5 h1 h1_0 h1_f1 h1_f2 h1_f3 h1_0 h1_0k h1_0c h0 h0_0 h0_f1 h0_2 h0_0 h0_0k h0_0c) sz) U U.heap)) (va_Qv (fun (u : (Int32) × (Int32) × (Int32) × (Nat → Int32)) => (RG u.1 0 240 ∧ RG u.2.1 (-1) 240 ∧ RG u.2.2.1 0 240 ∧ (u.1, u.2.1, u.2.2.1, u.2.2.2) = fx_c_X4_readSum_5 h1_f1 h1_f2 h1_f3 h1_0c h0_f1 h0_0c)) (fun (u : (Int32) × (Int32) × (Int32) × (Nat → Int32)) t => va_P (dC, dI) vwCl (wd_c_X4_readSum_5 h1 h1_0 h1_f1 (u.1) (u.2.1) h1_0 h1_0k h1_0c h0 h0_0 (u.2.2.1) h0_2 h0_0 h0_0k (u.2.2.2)) t.heap ∧ va_K (dC, dI) vwCl [] t ∧ va_D (va_A (wd_c_X4_readSum_5 h1 h1_0 h1_f1 h1_f2 h1_f3 h1_0 h1_0k h1_0c h0 h0_0 h0_f1 h0_2 h0_0 h0_0k h0_0c) sz) (wd_c_X4_readSum_5 h1 h1_0 h1_f1 (u.1) (u.2.1) h1_0 h1_0k h1_0c h0 h0_0 (u.2.2.1) h0_2 h0_0 h0_0k (u.2.2.2))) (va_A (wd_c_X4_readSum_5 h1 h1_0 h1_f1 h1_f2 h1_f3 h1_0 h1_0k h1_0c h0 h0_0 h0_f1 h0_2 h0_0 h0_0k h0_0c) sz)) 0 0 (va_A (wd_c_X4_readSum_5 h1 h1_0 h1_f1 h1_f2 h1_f3 h1_0 h1_0k h1_0c h0 h0_0 h0_f1 h0_2 h0_0 h0_0k h0_0c) sz) := by
  refine Met.ofW (cc := cX4_readSum) (maxL := 6) (ret := none) (by decide +kernel) rfl ?_
  intro p e s m args below meth c s₁ B hml hv
  obtain ⟨rfl, hsz, hP, hK, hD0, hE_32, hE_10, hE_34, hE_33, hE_35, hE_36⟩ := hv
  have hx := B.exec
  have hb := B.bytes
  have hr := B.returns
  have hts := atoms_spec (ws := wf_c_X4_readSum_5) B.pre
  have hown : s.vm.findClass RX4 = some m.cls := findClass_of_methodNamed B.named
  have hlocks := B.notSynchronized
  subst hsz
  have hD := hD0.self (sz := s.heap.size)
  generalize hAe : va_A (wd_c_X4_readSum_5 h1 h1_0 h1_f1 h1_f2 h1_f3 h1_0 h1_0k h1_0c h0 h0_0 h0_f1 h0_2 h0_0 h0_0k h0_0c) s.heap.size = A at hD hE_10 hE_34 hE_33 hE_35 hE_36 ⊢
  have hA : ∀ q : Nat, s.heap.size ≤ q → A q := fun q h => by rw [← hAe]; exact Or.inr h
  have hP : va_P (dC, dI) vwCl (wd_c_X4_readSum_5 h1 h1_0 h1_f1 h1_f2 h1_f3 h1_0 h1_0k h1_0c h0 h0_0 h0_f1 h0_2 h0_0 h0_0k h0_0c) s.heap := hP
  have hl := lv_entry ([.ref h0, .ref h1, .int 5]) (n := 6) (Nat.le_of_ble_eq_true rfl)
  rw [lg_entry_eq]
  generalize (lg_sl ([.ref h0, .ref h1, .int 5]) ++ List.replicate (6 - (lg_sl ([.ref h0, .ref h1, .int 5])).length) Slot.unset).toArray = ls at hl ⊢
  have hl : lv_has ls 6 [(0, .ref h0), (1, .ref h1), (2, .int 5)] := hl
  obtain ⟨H, hHe⟩ : ∃ H : Heap, s.heap = H := ⟨_, rfl⟩
  have hS : va_S A s.heap H [] := by rw [hHe]; exact va_S.rf
  have hP : va_P (dC, dI) vwCl (wd_c_X4_readSum_5 h1 h1_0 h1_f1 h1_f2 h1_f3 h1_0 h1_0k h1_0c h0 h0_0 h0_f1 h0_2 h0_0 h0_0k h0_0c) H := by rw [← hHe]; exact hP
  rw [hHe]
  obtain ⟨RES, hR⟩ : ∃ z, fx_c_X4_readSum_5 h1_f1 h1_f2 h1_f3 h1_0c h0_f1 h0_0c = z := ⟨_, rfl⟩
  have hEX : RES = fx_c_X4_readSum_5 h1_f1 h1_f2 h1_f3 h1_0c h0_f1 h0_0c := hR.symm
  refine wj (fun G hG hU => ?_)
  as_aux_lemma =>
  have J8 : ∀ (n8 : Nat) (j8_l5 : Int32) (j8_l4 : Int32) (j8_l3 : Int32) (j8_h1_f2 : Int32) (j8_h1_f3 : Int32) (j8_h0_f1 : Int32) (j8_h0_0c : Nat → Int32) (hM8 : MU j8_l5 < n8) (g_h0_f1 : RG h0_f1 0 240) (g_h1_f1 : RG h1_f1 0 240) (g_h1_f2 : RG h1_f2 0 240) (g_h1_f3 : RG h1_f3 (-1) 240) (g_j8_h0_f1 : RG j8_h0_f1 0 240) (g_j8_h1_f2 : RG j8_h1_f2 0 240) (g_j8_h1_f3 : RG j8_h1_f3 (-1) 240) (g_j8_l3 : RG j8_l3 0 60) (g_j8_l4 : RG j8_l4 0 60) (g_j8_l5 : RG j8_l5 0 240) (hEX : RES = fx_c_X4_readSum_5_p8 h1_f1 h1_0c n8 j8_l5 j8_l4 j8_l3 j8_h1_f2 j8_h1_f3 j8_h0_f1 j8_h0_0c) (H : Heap) (locs : List Loc) (ls : Array Slot) (hP : va_P (dC, dI) vwCl (wd_c_X4_readSum_5 h1 h1_0 h1_f1 j8_h1_f2 j8_h1_f3 h1_0 h1_0k h1_0c h0 h0_0 j8_h0_f1 h0_2 h0_0 h0_0k j8_h0_0c) H) (hD : va_D A (wd_c_X4_readSum_5 h1 h1_0 h1_f1 j8_h1_f2 j8_h1_f3 h1_0 h1_0k h1_0c h0 h0_0 j8_h0_f1 h0_2 h0_0 h0_0k j8_h0_0c)) (hS : va_S A s.heap H locs) (hl : lv_has ls 6 [(5, .int j8_l5), (4, .int j8_l4), (3, .int j8_l3), (0, .ref h0), (1, .ref h1), (2, .int 5)]), G H locs (F0 m 8 ls []) := by
    as_aux_lemma =>
    intro n8
    induction n8 with
    | zero => intros; exact absurd (by assumption) (Nat.not_lt_zero _)
    | succ n8 ih8 =>
      intro j8_l5 j8_l4 j8_l3 j8_h1_f2 j8_h1_f3 j8_h0_f1 j8_h0_0c hM8 g_h0_f1 g_h1_f1 g_h1_f2 g_h1_f3 g_j8_h0_f1 g_j8_h1_f2 g_j8_h1_f3 g_j8_l3 g_j8_l4 g_j8_l5 hEX H locs ls hP hD hS hl
      have J80 : ∀ (j80_l3 : Int32) (j80_l4 : Int32) (j80_h1_f2 : Int32) (j80_h1_f3 : Int32) (j80_h0_f1 : Int32) (j80_h0_0c : Nat → Int32) (g_h0_f1 : RG h0_f1 0 240) (g_h1_f1 : RG h1_f1 0 240) (g_h1_f2 : RG h1_f2 0 240) (g_h1_f3 : RG h1_f3 (-1) 240) (g_j80_h0_f1 : RG j80_h0_f1 0 240) (g_j80_h1_f2 : RG j80_h1_f2 0 240) (g_j80_h1_f3 : RG j80_h1_f3 (-1) 240) (g_j80_l3 : RG j80_l3 0 60) (g_j80_l4 : RG j80_l4 0 60) (g_j8_h0_f1 : RG j8_h0_f1 0 240) (g_j8_h1_f2 : RG j8_h1_f2 0 240) (g_j8_h1_f3 : RG j8_h1_f3 (-1) (-1)) (g_j8_l3 : RG j8_l3 0 60) (g_j8_l4 : RG j8_l4 0 60) (g_j8_l5 : RG j8_l5 0 239) (hEX : RES = fx_c_X4_readSum_5_p80 j8_l5 (fx_c_X4_readSum_5_p8 h1_f1 h1_0c n8) j80_l3 j80_l4 j80_h1_f2 j80_h1_f3 j80_h0_f1 j80_h0_0c) (H : Heap) (locs : List Loc) (ls : Array Slot) (hP : va_P (dC, dI) vwCl (wd_c_X4_readSum_5 h1 h1_0 h1_f1 j80_h1_f2 j80_h1_f3 h1_0 h1_0k h1_0c h0 h0_0 j80_h0_f1 h0_2 h0_0 h0_0k j80_h0_0c) H) (hD : va_D A (wd_c_X4_readSum_5 h1 h1_0 h1_f1 j80_h1_f2 j80_h1_f3 h1_0 h1_0k h1_0c h0 h0_0 j80_h0_f1 h0_2 h0_0 h0_0k j80_h0_0c)) (hS : va_S A s.heap H locs) (hl : lv_has ls 6 [(3, .int j80_l3), (5, .int j8_l5), (4, .int j80_l4), (0, .ref h0), (1, .ref h1), (2, .int 5)]), G H locs (F0 m 80 ls []) := by
        as_aux_lemma =>
        intro j80_l3 j80_l4 j80_h1_f2 j80_h1_f3 j80_h0_f1 j80_h0_0c g_h0_f1 g_h1_f1 g_h1_f2 g_h1_f3 g_j80_h0_f1 g_j80_h1_f2 g_j80_h1_f3 g_j80_l3 g_j80_l4 g_j8_h0_f1 g_j8_h1_f2 g_j8_h1_f3 g_j8_l3 g_j8_l4 g_j8_l5 hEX H locs ls hP hD hS hl
        refine hG _ _ _ ?_
        obtain ⟨x_1, ex_1⟩ : ∃ y : Int32, y = j8_l5 + 1 := ⟨_, rfl⟩
        have g_2 : RG x_1 1 240 := RG_add ex_1 g_j8_l5 (RG_k 1 1 rfl) (by decide +kernel)
        replace hEX := hEX.trans (exl_eq ex_1)
        refine lv_iinc (v := x_1) (lv' := [(5, .int x_1), (3, .int j80_l3), (4, .int j80_l4), (0, .ref h0), (1, .ref h1), (2, .int 5)]) hx hb dX4_readSum_80 hl (k := 1) rfl (by rw [ex_1]; rfl) (Nat.le_of_ble_eq_true rfl) rfl (fun ls hl => ?_)
        refine lv_goto (tgt := 8) hx hb dX4_readSum_83 rfl ?_
        exact hU _ _ _ (ih8 x_1 j80_l4 j80_l3 j80_h1_f2 j80_h1_f3 j80_h0_f1 j80_h0_0c (mu_s (MU_add ex_1 g_j8_l5 (q := 1) rfl (by decide +kernel)) hM8) g_h0_f1 g_h1_f1 g_h1_f2 g_h1_f3 g_j80_h0_f1 g_j80_h1_f2 g_j80_h1_f3 g_j80_l3 g_j80_l4 (RG_w g_2 (by decide +kernel)) hEX _ _ _ hP hD hS (lv_sub hl [0, 2, 1, 3, 4, 5] rfl))
      have J64 : ∀ (j64_l3 : Int32) (j64_h1_f2 : Int32) (j64_h1_f3 : Int32) (j64_h0_f1 : Int32) (j64_h0_0c : Nat → Int32) (g_h0_f1 : RG h0_f1 0 240) (g_h1_f1 : RG h1_f1 0 240) (g_h1_f2 : RG h1_f2 0 240) (g_h1_f3 : RG h1_f3 (-1) 240) (g_j64_h0_f1 : RG j64_h0_f1 0 240) (g_j64_h1_f2 : RG j64_h1_f2 0 240) (g_j64_h1_f3 : RG j64_h1_f3 (-1) 240) (g_j64_l3 : RG j64_l3 0 0) (g_j8_h0_f1 : RG j8_h0_f1 0 240) (g_j8_h1_f2 : RG j8_h1_f2 0 240) (g_j8_h1_f3 : RG j8_h1_f3 (-1) (-1)) (g_j8_l3 : RG j8_l3 0 60) (g_j8_l4 : RG j8_l4 0 60) (g_j8_l5 : RG j8_l5 0 239) (hEX : RES = fx_c_X4_readSum_5_p64 h1_f1 h1_0c j8_l5 (fx_c_X4_readSum_5_p8 h1_f1 h1_0c n8) j64_l3 j64_h1_f2 j64_h1_f3 j64_h0_f1 j64_h0_0c) (H : Heap) (locs : List Loc) (ls : Array Slot) (hP : va_P (dC, dI) vwCl (wd_c_X4_readSum_5 h1 h1_0 h1_f1 j64_h1_f2 j64_h1_f3 h1_0 h1_0k h1_0c h0 h0_0 j64_h0_f1 h0_2 h0_0 h0_0k j64_h0_0c) H) (hD : va_D A (wd_c_X4_readSum_5 h1 h1_0 h1_f1 j64_h1_f2 j64_h1_f3 h1_0 h1_0k h1_0c h0 h0_0 j64_h0_f1 h0_2 h0_0 h0_0k j64_h0_0c)) (hS : va_S A s.heap H locs) (hl : lv_has ls 6 [(3, .int j64_l3), (5, .int j8_l5), (0, .ref h0), (1, .ref h1), (2, .int 5)]), G H locs (F0 m 64 ls []) := by
        as_aux_lemma =>
        intro j64_l3 j64_h1_f2 j64_h1_f3 j64_h0_f1 j64_h0_0c g_h0_f1 g_h1_f1 g_h1_f2 g_h1_f3 g_j64_h0_f1 g_j64_h1_f2 g_j64_h1_f3 g_j64_l3 g_j8_h0_f1 g_j8_h1_f2 g_j8_h1_f3 g_j8_l3 g_j8_l4 g_j8_l5 hEX H locs ls hP hD hS hl
        refine hG _ _ _ ?_
        refine lv_aload_n hx hb dX4_readSum_64 rfl (lv_at hl 3 rfl) ?_
        refine lv_bipush (v := 43) hx hb dX4_readSum_65 kc_bipush_43 ?_
        refine lv_bipush (v := 45) hx hb dX4_readSum_67 kc_bipush_45 ?_
        obtain ⟨hPc, hDc, hFc, hqc⟩ := cl_cut (wc := (wd_c_X9_takeEither h1 h1_0 h1_f1 j64_h1_f2 j64_h1_f3 h1_0 h1_0k h1_0c)) hP hD hS hA [0, 1] (by decide +kernel) rfl
        have hKc := hK.sub (tys' := [(h1_0k, .int)]) [0] rfl
        have hrv := va_recv hKc hPc (ci := 9) (q0 := 0) rfl rfl
        refine va_calli (va_runV (As := [.int 43, .int 45]) (rest := []) ⟨hx, hb, hml, hown, hts⟩ (c_X9_takeEither l dC dI H.size h1 43 45 h1_0 h1_f1 j64_h1_f2 j64_h1_f3 h1_0k h1_0c (RG_w (RG_k 43 43 rfl) (by decide +kernel)) (RG_w (RG_k 45 45 rfl) (by decide +kernel)) g_h1_f1 g_j64_h1_f2 g_j64_h1_f3 a_h1_0c) (cwV 2 hts gf_c_X4_readSum_5_c_X9_takeEither rfl rfl rfl mdV_X9_takeEither ⟨Nat.le_of_ble_eq_true rfl, Nat.le_of_ble_eq_true rfl⟩) ⟨fun a U g mk q => by obtain ⟨q0, q1, qP, qK, qD⟩ := q; exact ⟨q0, q1, qP, va_K.moved (u := U) (U := U.calling g mk a) (Vm.Alike.refl U.vm) qK, qD⟩, hrv, fun U hU hW => ⟨rfl, by rw [hU], by rw [hU]; exact hPc, va_K.moved hW.alike hKc, hDc.weaken (fun _ _ _ _ => trivial)⟩⟩ rfl rfl hl.1 rfl (lv_room (Nat.le_of_ble_eq_true rfl)) dX4_readSum_69 ⟨Nat.le_of_ble_eq_true rfl, Nat.le_of_ble_eq_true rfl⟩) hS (fun q _ h => hFc q h) hFc (fun r_3 x_4 t H1 locs ht hvm hw hB hz1 hk1 hS => ?_)
        obtain ⟨hP1, hK1, hD1⟩ := hB
        rw [ht] at hP1
        obtain ⟨hP, hD⟩ := cl_put (w1 := (wd_c_X9_takeEither h1 h1_0 h1_f1 x_4 j64_h1_f3 h1_0 h1_0k h1_0c)) (nw := (wd_c_X4_readSum_5 h1 h1_0 h1_f1 x_4 j64_h1_f3 h1_0 h1_0k h1_0c h0 h0_0 j64_h0_f1 h0_2 h0_0 h0_0k j64_h0_0c)) hP hD [0, 1] [4, 5, 2, 3] 4 rfl hqc (by decide +kernel) rfl hk1 hFc hP1 hD1
        generalize H1 = H at hP hS ⊢
        as_aux_lemma =>
        rcases hw with ⟨h_5, h_6, h_7, h_8⟩
        have h_8 : (r_3, x_4) = _ := h_8
        replace hEX := hEX.trans (exc2_eq h_8)
        refine lv_istore (lv' := [(4, .int r_3), (3, .int j64_l3), (5, .int j8_l5), (0, .ref h0), (1, .ref h1), (2, .int 5)]) hx hb dX4_readSum_72 hl (Nat.le_of_ble_eq_true rfl) rfl (fun ls hl => ?_)
        refine lv_iload hx hb dX4_readSum_74 (lv_at hl 0 rfl) ?_
        refine lv_if_ne (tgt := 80) hx hb dX4_readSum_76 rfl (fun c_9 => ?_) (fun c_9 => ?_)
        · replace hEX := hEX.trans (if_neg c_9)
          have g_10 : RG r_3 1 60 := RG_ne1 h_5 (q := 0) rfl c_9 (by decide +kernel)
          exact hU _ _ _ (J80 j64_l3 r_3 x_4 j64_h1_f3 j64_h0_f1 j64_h0_0c g_h0_f1 g_h1_f1 g_h1_f2 g_h1_f3 g_j64_h0_f1 h_6 g_j64_h1_f3 (RG_w g_j64_l3 (by decide +kernel)) (RG_w g_10 (by decide +kernel)) g_j8_h0_f1 g_j8_h1_f2 g_j8_h1_f3 g_j8_l3 g_j8_l4 g_j8_l5 hEX _ _ _ hP hD hS (lv_sub hl [1, 2, 0, 3, 4, 5] rfl))
        · replace hEX := hEX.trans (if_pos c_9)
          have g_11 : RG r_3 0 0 := RG_eq1 h_5 (RG_k 0 0 rfl) c_9 (by decide +kernel)
          have hK9 := hK.sub (tys' := []) [] rfl
          exact W.vret hx hb hr (fun t ht hW => ⟨⟨(x_4, j64_h1_f3, j64_h0_f1, j64_h0_0c), rfl, ⟨h_6, g_j64_h1_f3, g_j64_h0_f1, (hR.trans hEX).symm⟩, by rw [ht]; exact hP, va_K.moved hW.alike hK9, hD⟩, hS.F ht⟩) hS.2.2 dX4_readSum_79
      have J39 : ∀ (j39_h1_f2 : Int32) (j39_h1_f3 : Int32) (j39_h0_f1 : Int32) (j39_h0_0c : Nat → Int32) (g_h0_f1 : RG h0_f1 0 240) (g_h1_f1 : RG h1_f1 0 240) (g_h1_f2 : RG h1_f2 0 240) (g_h1_f3 : RG h1_f3 (-1) 240) (g_j39_h0_f1 : RG j39_h0_f1 0 240) (g_j39_h1_f2 : RG j39_h1_f2 0 240) (g_j39_h1_f3 : RG j39_h1_f3 (-1) 240) (g_j8_h0_f1 : RG j8_h0_f1 0 240) (g_j8_h1_f2 : RG j8_h1_f2 0 240) (g_j8_h1_f3 : RG j8_h1_f3 (-1) (-1)) (g_j8_l3 : RG j8_l3 0 60) (g_j8_l4 : RG j8_l4 0 60) (g_j8_l5 : RG j8_l5 0 239) (hEX : RES = fx_c_X4_readSum_5_p39 h1_f1 h1_0c j8_l5 j8_l4 (fx_c_X4_readSum_5_p8 h1_f1 h1_0c n8) j39_h1_f2 j39_h1_f3 j39_h0_f1 j39_h0_0c) (H : Heap) (locs : List Loc) (ls : Array Slot) (hP : va_P (dC, dI) vwCl (wd_c_X4_readSum_5 h1 h1_0 h1_f1 j39_h1_f2 j39_h1_f3 h1_0 h1_0k h1_0c h0 h0_0 j39_h0_f1 h0_2 h0_0 h0_0k j39_h0_0c) H) (hD : va_D A (wd_c_X4_readSum_5 h1 h1_0 h1_f1 j39_h1_f2 j39_h1_f3 h1_0 h1_0k h1_0c h0 h0_0 j39_h0_f1 h0_2 h0_0 h0_0k j39_h0_0c)) (hS : va_S A s.heap H locs) (hl : lv_has ls 6 [(5, .int j8_l5), (4, .int j8_l4), (0, .ref h0), (1, .ref h1), (2, .int 5)]), G H locs (F0 m 39 ls []) := by
        as_aux_lemma =>
        intro j39_h1_f2 j39_h1_f3 j39_h0_f1 j39_h0_0c g_h0_f1 g_h1_f1 g_h1_f2 g_h1_f3 g_j39_h0_f1 g_j39_h1_f2 g_j39_h1_f3 g_j8_h0_f1 g_j8_h1_f2 g_j8_h1_f3 g_j8_l3 g_j8_l4 g_j8_l5 hEX H locs ls hP hD hS hl
        refine hG _ _ _ ?_
        refine lv_aload_n hx hb dX4_readSum_39 rfl (lv_at hl 3 rfl) ?_
        refine lv_bipush (v := 42) hx hb dX4_readSum_40 kc_bipush_42 ?_
        refine lv_bipush (v := 47) hx hb dX4_readSum_42 kc_bipush_47 ?_
        obtain ⟨hPc, hDc, hFc, hqc⟩ := cl_cut (wc := (wd_c_X9_takeEither h1 h1_0 h1_f1 j39_h1_f2 j39_h1_f3 h1_0 h1_0k h1_0c)) hP hD hS hA [0, 1] (by decide +kernel) rfl
        have hKc := hK.sub (tys' := [(h1_0k, .int)]) [0] rfl
        have hrv := va_recv hKc hPc (ci := 9) (q0 := 0) rfl rfl
        refine va_calli (va_runV (As := [.int 42, .int 47]) (rest := []) ⟨hx, hb, hml, hown, hts⟩ (c_X9_takeEither l dC dI H.size h1 42 47 h1_0 h1_f1 j39_h1_f2 j39_h1_f3 h1_0k h1_0c (RG_w (RG_k 42 42 rfl) (by decide +kernel)) (RG_w (RG_k 47 47 rfl) (by decide +kernel)) g_h1_f1 g_j39_h1_f2 g_j39_h1_f3 a_h1_0c) (cwV 2 hts gf_c_X4_readSum_5_c_X9_takeEither rfl rfl rfl mdV_X9_takeEither ⟨Nat.le_of_ble_eq_true rfl, Nat.le_of_ble_eq_true rfl⟩) ⟨fun a U g mk q => by obtain ⟨q0, q1, qP, qK, qD⟩ := q; exact ⟨q0, q1, qP, va_K.moved (u := U) (U := U.calling g mk a) (Vm.Alike.refl U.vm) qK, qD⟩, hrv, fun U hU hW => ⟨rfl, by rw [hU], by rw [hU]; exact hPc, va_K.moved hW.alike hKc, hDc.weaken (fun _ _ _ _ => trivial)⟩⟩ rfl rfl hl.1 rfl (lv_room (Nat.le_of_ble_eq_true rfl)) dX4_readSum_44 ⟨Nat.le_of_ble_eq_true rfl, Nat.le_of_ble_eq_true rfl⟩) hS (fun q _ h => hFc q h) hFc (fun r_12 x_13 t H1 locs ht hvm hw hB hz1 hk1 hS => ?_)
        obtain ⟨hP1, hK1, hD1⟩ := hB
        rw [ht] at hP1
        obtain ⟨hP, hD⟩ := cl_put (w1 := (wd_c_X9_takeEither h1 h1_0 h1_f1 x_13 j39_h1_f3 h1_0 h1_0k h1_0c)) (nw := (wd_c_X4_readSum_5 h1 h1_0 h1_f1 x_13 j39_h1_f3 h1_0 h1_0k h1_0c h0 h0_0 j39_h0_f1 h0_2 h0_0 h0_0k j39_h0_0c)) hP hD [0, 1] [4, 5, 2, 3] 4 rfl hqc (by decide +kernel) rfl hk1 hFc hP1 hD1
        generalize H1 = H at hP hS ⊢
        as_aux_lemma =>
        rcases hw with ⟨h_14, h_15, h_16, h_17⟩
        have h_17 : (r_12, x_13) = _ := h_17
        replace hEX := hEX.trans (exc2_eq h_17)
        refine lv_istore_n (lv' := [(3, .int r_12), (5, .int j8_l5), (4, .int j8_l4), (0, .ref h0), (1, .ref h1), (2, .int 5)]) hx hb dX4_readSum_47 rfl hl (Nat.le_of_ble_eq_true rfl) rfl (fun ls hl => ?_)
        refine lv_iload_n hx hb dX4_readSum_48 rfl (lv_at hl 0 rfl) ?_
        refine lv_if_ne (tgt := 80) hx hb dX4_readSum_49 rfl (fun c_18 => ?_) (fun c_18 => ?_)
        · replace hEX := hEX.trans (if_neg c_18)
          have g_19 : RG r_12 1 60 := RG_ne1 h_14 (q := 0) rfl c_18 (by decide +kernel)
          exact hU _ _ _ (J80 r_12 j8_l4 x_13 j39_h1_f3 j39_h0_f1 j39_h0_0c g_h0_f1 g_h1_f1 g_h1_f2 g_h1_f3 g_j39_h0_f1 h_15 g_j39_h1_f3 (RG_w g_19 (by decide +kernel)) g_j8_l4 g_j8_h0_f1 g_j8_h1_f2 g_j8_h1_f3 g_j8_l3 g_j8_l4 g_j8_l5 hEX _ _ _ hP hD hS (lv_sub hl [0, 1, 2, 3, 4, 5] rfl))
        · replace hEX := hEX.trans (if_pos c_18)
          have g_20 : RG r_12 0 0 := RG_eq1 h_14 (RG_k 0 0 rfl) c_18 (by decide +kernel)
          refine lv_iload hx hb dX4_readSum_52 (lv_at hl 2 rfl) ?_
          refine lv_if_eq (tgt := 64) hx hb dX4_readSum_54 rfl (fun c_21 => ?_) (fun c_21 => ?_)
          · replace hEX := hEX.trans (if_pos c_21)
            have g_22 : RG j8_l4 0 0 := RG_eq1 g_j8_l4 (RG_k 0 0 rfl) c_21 (by decide +kernel)
            exact hU _ _ _ (J64 r_12 x_13 j39_h1_f3 j39_h0_f1 j39_h0_0c g_h0_f1 g_h1_f1 g_h1_f2 g_h1_f3 g_j39_h0_f1 h_15 g_j39_h1_f3 g_20 g_j8_h0_f1 g_j8_h1_f2 g_j8_h1_f3 g_j8_l3 (RG_w g_22 (by decide +kernel)) g_j8_l5 hEX _ _ _ hP hD hS (lv_sub hl [0, 1, 3, 4, 5] rfl))
          · replace hEX := hEX.trans (if_neg c_21)
            have g_23 : RG j8_l4 1 60 := RG_ne1 g_j8_l4 (q := 0) rfl c_21 (by decide +kernel)
            refine lv_aload_n hx hb dX4_readSum_57 rfl (lv_at hl 3 rfl) ?_
            as_aux_lemma =>
            refine lv_iload hx hb dX4_readSum_58 (lv_at hl 2 rfl) ?_
            refine lv_ineg hx hb dX4_readSum_60 ?_
            refine lv_topi (fun x_24 ex_24 => ?_)
            replace hEX := hEX.trans (exl_eq ex_24)
            have g_25 : RG x_24 (-60) (-1) := RG_neg ex_24 g_23 (by decide +kernel)
            obtain ⟨hPc, hDc, hFc, hqc⟩ := cl_cut (wc := (wd_c_X4_emit h0 h0_0 j39_h0_f1 h0_2 h0_0 h0_0k j39_h0_0c)) hP hD hS hA [2, 3] (by decide +kernel) rfl
            have hKc := hK.sub (tys' := [(h0_0k, .int)]) [1] rfl
            have hrv := va_recv hKc hPc (ci := 4) (q0 := 0) rfl rfl
            refine va_callv (va_runV (As := [.int x_24]) (rest := []) ⟨hx, hb, hml, hown, hts⟩ (c_X4_emit l dC dI H.size h0 x_24 h0_0 j39_h0_f1 h0_2 h0_0k j39_h0_0c g_j39_h0_f1) (cwV 1 hts gf_c_X4_readSum_5_c_X4_emit rfl rfl rfl mdV_X4_emit ⟨Nat.le_of_ble_eq_true rfl, Nat.le_of_ble_eq_true rfl⟩) ⟨fun a U g mk q => by obtain ⟨q0, q1, qP, qK, qD⟩ := q; exact ⟨q0, q1, qP, va_K.moved (u := U) (U := U.calling g mk a) (Vm.Alike.refl U.vm) qK, qD⟩, hrv, fun U hU hW => ⟨rfl, by rw [hU], by rw [hU]; exact hPc, va_K.moved hW.alike hKc, hDc.weaken (fun _ _ _ _ => trivial)⟩⟩ rfl rfl hl.1 rfl (lv_room (Nat.le_of_ble_eq_true rfl)) dX4_readSum_61 ⟨Nat.le_of_ble_eq_true rfl, Nat.le_of_ble_eq_true rfl⟩) hS (fun q _ h => hFc q h) hFc (fun u t H1 locs ht hvm hw hB hz1 hk1 hS => ?_)
            obtain ⟨x_27, w_28⟩ := u
            obtain ⟨hP1, hK1, hD1⟩ := hB
            rw [ht] at hP1
            obtain ⟨hP, hD⟩ := cl_put (w1 := (wd_c_X4_emit h0 h0_0 x_27 h0_2 h0_0 h0_0k w_28)) (nw := (wd_c_X4_readSum_5 h1 h1_0 h1_f1 x_13 j39_h1_f3 h1_0 h1_0k h1_0c h0 h0_0 x_27 h0_2 h0_0 h0_0k w_28)) hP hD [2, 3] [0, 1, 4, 5] 4 rfl hqc (by decide +kernel) rfl hk1 hFc hP1 hD1
            generalize H1 = H at hP hS ⊢
            as_aux_lemma =>
            rcases hw with ⟨h_29, h_30⟩
            have h_30 : (x_27, w_28) = _ := h_30
            replace hEX := hEX.trans (exc2_eq h_30)
            exact hU _ _ _ (J64 r_12 x_13 j39_h1_f3 x_27 w_28 g_h0_f1 g_h1_f1 g_h1_f2 g_h1_f3 (RG_w h_29 (by decide +kernel)) h_15 g_j39_h1_f3 g_20 g_j8_h0_f1 g_j8_h1_f2 g_j8_h1_f3 g_j8_l3 (RG_w g_23 (by decide +kernel)) g_j8_l5 hEX _ _ _ hP hD hS (lv_sub hl [0, 1, 3, 4, 5] rfl))
      refine hG _ _ _ ?_
      replace hEX := hEX.trans (if_pos (rfl : j8_l5 = j8_l5))
      refine lv_iload hx hb dX4_readSum_8 (lv_at hl 0 rfl) ?_
      refine lv_sipush (v := 240) hx hb dX4_readSum_10 kc_sipush_240 ?_
      refine lv_icmp_ge (tgt := 86) hx hb dX4_readSum_13 rfl (fun c_31 => ?_) (fun c_31 => ?_)
      · replace hEX := hEX.trans (if_pos c_31)
        have g_32 : RG j8_l5 240 240 := RG_le2 (RG_k 240 240 rfl) g_j8_l5 c_31 (by decide +kernel)
        have hK9 := hK.sub (tys' := []) [] rfl
        exact W.vret hx hb hr (fun t ht hW => ⟨⟨(j8_h1_f2, j8_h1_f3, j8_h0_f1, j8_h0_0c), rfl, ⟨g_j8_h1_f2, g_j8_h1_f3, g_j8_h0_f1, (hR.trans hEX).symm⟩, by rw [ht]; exact hP, va_K.moved hW.alike hK9, hD⟩, hS.F ht⟩) hS.2.2 dX4_readSum_86
      · replace hEX := hEX.trans (if_neg c_31)
        have d_33 := Int32.not_le.mp c_31
        have g_34 : RG j8_l5 0 239 := RG_lt1 g_j8_l5 (RG_k 240 240 rfl) d_33 (by decide +kernel)
        refine lv_aload_n hx hb dX4_readSum_16 rfl (lv_at hl 4 rfl) ?_
        as_aux_lemma =>
        obtain ⟨hPc, hDc, hFc, hqc⟩ := cl_cut (wc := (wd_c_X9_isRight h1 h1_0 h1_f1 j8_h1_f2 j8_h1_f3)) hP hD hS hA [0] (by decide +kernel) rfl
        have hKc := hK.sub (tys' := []) [] rfl
        have hrv := va_recv hKc hPc (ci := 9) (q0 := 0) rfl rfl
        refine va_calli (va_runV (As := []) (rest := []) ⟨hx, hb, hml, hown, hts⟩ (c_X9_isRight l dC dI H.size h1 h1_0 h1_f1 j8_h1_f2 j8_h1_f3 g_h1_f1 g_j8_h1_f2 g_j8_h1_f3) (cwV 0 hts gf_c_X4_readSum_5_c_X9_isRight rfl rfl rfl mdV_X9_isRight ⟨Nat.le_of_ble_eq_true rfl, Nat.le_of_ble_eq_true rfl⟩) ⟨fun a U g mk q => by obtain ⟨q0, q1, qP, qK, qD⟩ := q; exact ⟨q0, q1, qP, va_K.moved (u := U) (U := U.calling g mk a) (Vm.Alike.refl U.vm) qK, qD⟩, hrv, fun U hU hW => ⟨rfl, by rw [hU], by rw [hU]; exact hPc, va_K.moved hW.alike hKc, hDc.weaken (fun _ _ _ _ => trivial)⟩⟩ rfl rfl hl.1 rfl (lv_room (Nat.le_of_ble_eq_true rfl)) dX4_readSum_17 ⟨Nat.le_of_ble_eq_true rfl, Nat.le_of_ble_eq_true rfl⟩) hS (fun q _ h => hFc q h) hFc (fun r_35 u t H1 locs ht hvm hw hB hz1 hk1 hS => ?_)
        obtain ⟨hP1, hK1, hD1⟩ := hB
        rw [ht] at hP1
        obtain ⟨hP, hD⟩ := cl_put (w1 := (wd_c_X9_isRight h1 h1_0 h1_f1 j8_h1_f2 j8_h1_f3)) (nw := (wd_c_X4_readSum_5 h1 h1_0 h1_f1 j8_h1_f2 j8_h1_f3 h1_0 h1_0k h1_0c h0 h0_0 j8_h0_f1 h0_2 h0_0 h0_0k j8_h0_0c)) hP hD [0] [4, 1, 2, 3] 4 rfl hqc (by decide +kernel) rfl hk1 hFc hP1 hD1
        generalize H1 = H at hP hS ⊢
        as_aux_lemma =>
        rcases hw with ⟨h_36, h_37, h_38⟩ | ⟨h_39, h_40, h_41⟩
        · have h_38 : r_35 = _ := h_38
          replace hEX := hEX.trans (exc1_eq h_38)
          replace hEX := hEX.trans (if_pos (show r_35 = 0 from h_36))
          rw [h_36]
          refine lv_if_eq (tgt := 86) hx hb dX4_readSum_20 rfl (fun c_42 => ?_) (fun c_42 => absurd c_42 (by decide +kernel))
          have hK9 := hK.sub (tys' := []) [] rfl
          exact W.vret hx hb hr (fun t ht hW => ⟨⟨(j8_h1_f2, j8_h1_f3, j8_h0_f1, j8_h0_0c), rfl, ⟨g_j8_h1_f2, (RG_w h_37 (by decide +kernel)), g_j8_h0_f1, (hR.trans hEX).symm⟩, by rw [ht]; exact hP, va_K.moved hW.alike hK9, hD⟩, hS.F ht⟩) hS.2.2 dX4_readSum_86
        · have h_41 : r_35 = _ := h_41
          replace hEX := hEX.trans (exc1_eq h_41)
          replace hEX := hEX.trans (if_neg (fun q9 : r_35 = 0 => absurd ((show r_35 = 1 from h_39).symm.trans q9) (by decide +kernel)))
          rw [h_39]
          refine lv_if_eq (tgt := 86) hx hb dX4_readSum_20 rfl (fun c_43 => absurd c_43 (by decide +kernel)) (fun c_43 => ?_)
          refine lv_aload_n hx hb dX4_readSum_23 rfl (lv_at hl 3 rfl) ?_
          as_aux_lemma =>
          refine lv_aload_n hx hb dX4_readSum_24 rfl (lv_at hl 4 rfl) ?_
          refine lv_iload_n hx hb dX4_readSum_25 rfl (lv_at hl 5 rfl) ?_
          obtain ⟨hPc, hDc, hFc, hqc⟩ := cl_cut (wc := (wd_c_X4_readAtom_5 h1 h1_0 h1_f1 j8_h1_f2 j8_h1_f3 h1_0 h1_0k h1_0c h0 h0_0 j8_h0_f1 h0_2 h0_0 h0_0k j8_h0_0c)) hP hD hS hA [0, 1, 2, 3] (by decide +kernel) rfl
          have hKc := hK.sub (tys' := [(h1_0k, .int), (h0_0k, .int)]) [0, 1] rfl
          have hrv := va_recv hKc hPc (ci := 4) (q0 := 2) rfl rfl
          refine va_callv (va_runV (As := [.ref h1, .int 5]) (rest := []) ⟨hx, hb, hml, hown, hts⟩ (c_X4_readAtom_5 l dC dI H.size h0 h1 h1_0 h1_f1 j8_h1_f2 j8_h1_f3 h1_0k h1_0c h0_0 j8_h0_f1 h0_2 h0_0k j8_h0_0c ts4 tv4 g_h1_f1 g_j8_h1_f2 (RG_w h_40 (by decide +kernel)) a_h1_0c g_j8_h0_f1) (cwV 2 hts gf_c_X4_readSum_5_c_X4_readAtom_5 rfl rfl rfl mdV_X4_readAtom ⟨Nat.le_of_ble_eq_true rfl, Nat.le_of_ble_eq_true rfl⟩) ⟨fun a U g mk q => by obtain ⟨q0, q1, qP, qK, qD, qE0, qE1, qE2, qE3, qE4, qE5⟩ := q; exact ⟨q0, q1, qP, va_K.moved (u := U) (U := U.calling g mk a) (Vm.Alike.refl U.vm) qK, qD, vk_R.same rfl qE0, va_Z.moved (u := U) (U := U.calling g mk a) (Vm.Alike.refl U.vm) qE1, va_OF.moved (u := U) (U := U.calling g mk a) (Vm.Alike.refl U.vm) qE2, va_O.moved (u := U) (U := U.calling g mk a) (Vm.Alike.refl U.vm) qE3, va_OF.moved (u := U) (U := U.calling g mk a) (Vm.Alike.refl U.vm) qE4, va_T.moved (u := U) (U := U.calling g mk a) (Vm.Alike.refl U.vm) qE5⟩, hrv, fun U hU hW => ⟨rfl, by rw [hU], by rw [hU]; exact hPc, va_K.moved hW.alike hKc, hDc.weaken (fun _ _ _ _ => trivial), vk_R.warm hW hE_32, va_Z.moved hW.alike (by rw [hU]; exact (hE_10.kept hS.2.1).narrow hFc), va_OF.moved hW.alike (by rw [hU]; exact (hE_34.kept hS.2.1).narrow hFc), va_O.moved hW.alike (by rw [hU]; exact (hE_33.kept hS.2.1).narrow hFc), va_OF.moved hW.alike (by rw [hU]; exact (hE_35.kept hS.2.1).narrow hFc), va_T.moved hW.alike (by rw [hU]; exact (hE_36.kept hS.2.1).narrow hFc)⟩⟩ rfl rfl hl.1 rfl (lv_room (Nat.le_of_ble_eq_true rfl)) dX4_readSum_26 ⟨Nat.le_of_ble_eq_true rfl, Nat.le_of_ble_eq_true rfl⟩) hS (fun q _ h => hFc q h) hFc (fun u t H1 locs ht hvm hw hB hz1 hk1 hS => ?_)
          obtain ⟨x_45, x_46, x_47, w_48⟩ := u
          obtain ⟨hP1, hK1, hD1⟩ := hB
          rw [ht] at hP1
          obtain ⟨hP, hD⟩ := cl_put (w1 := (wd_c_X4_readAtom_5 h1 h1_0 h1_f1 x_45 x_46 h1_0 h1_0k h1_0c h0 h0_0 x_47 h0_2 h0_0 h0_0k w_48)) (nw := (wd_c_X4_readSum_5 h1 h1_0 h1_f1 x_45 x_46 h1_0 h1_0k h1_0c h0 h0_0 x_47 h0_2 h0_0 h0_0k w_48)) hP hD [0, 1, 2, 3] [4, 5, 6, 7] 4 rfl hqc (by decide +kernel) rfl hk1 hFc hP1 hD1
          generalize H1 = H at hP hS ⊢
          as_aux_lemma =>
          rcases hw with ⟨h_49, h_50, h_51, h_52⟩
          have h_52 : (x_45, x_46, x_47, w_48) = _ := h_52
          replace hEX := hEX.trans (exc4_eq h_52)
          refine lv_iload_n hx hb dX4_readSum_29 rfl (lv_at hl 2 rfl) ?_
          refine lv_if_eq (tgt := 39) hx hb dX4_readSum_30 rfl (fun c_53 => ?_) (fun c_53 => ?_)
          · replace hEX := hEX.trans (if_pos c_53)
            have g_54 : RG j8_l3 0 0 := RG_eq1 g_j8_l3 (RG_k 0 0 rfl) c_53 (by decide +kernel)
            exact hU _ _ _ (J39 x_45 x_46 x_47 w_48 g_h0_f1 g_h1_f1 g_h1_f2 g_h1_f3 h_51 h_49 h_50 g_j8_h0_f1 g_j8_h1_f2 h_40 (RG_w g_54 (by decide +kernel)) g_j8_l4 g_34 hEX _ _ _ hP hD hS (lv_sub hl [0, 1, 3, 4, 5] rfl))
          · replace hEX := hEX.trans (if_neg c_53)
            have g_55 : RG j8_l3 1 60 := RG_ne1 g_j8_l3 (q := 0) rfl c_53 (by decide +kernel)
            refine lv_aload_n hx hb dX4_readSum_33 rfl (lv_at hl 3 rfl) ?_
            refine lv_iload_n hx hb dX4_readSum_34 rfl (lv_at hl 2 rfl) ?_
            refine lv_ineg hx hb dX4_readSum_35 ?_
            refine lv_topi (fun x_56 ex_56 => ?_)
            as_aux_lemma =>
            replace hEX := hEX.trans (exl_eq ex_56)
            have g_57 : RG x_56 (-60) (-1) := RG_neg ex_56 g_55 (by decide +kernel)
            obtain ⟨hPc, hDc, hFc, hqc⟩ := cl_cut (wc := (wd_c_X4_emit h0 h0_0 x_47 h0_2 h0_0 h0_0k w_48)) hP hD hS hA [2, 3] (by decide +kernel) rfl
            have hKc := hK.sub (tys' := [(h0_0k, .int)]) [1] rfl
            have hrv := va_recv hKc hPc (ci := 4) (q0 := 0) rfl rfl
            refine va_callv (va_runV (As := [.int x_56]) (rest := []) ⟨hx, hb, hml, hown, hts⟩ (c_X4_emit l dC dI H.size h0 x_56 h0_0 x_47 h0_2 h0_0k w_48 h_51) (cwV 1 hts gf_c_X4_readSum_5_c_X4_emit rfl rfl rfl mdV_X4_emit ⟨Nat.le_of_ble_eq_true rfl, Nat.le_of_ble_eq_true rfl⟩) ⟨fun a U g mk q => by obtain ⟨q0, q1, qP, qK, qD⟩ := q; exact ⟨q0, q1, qP, va_K.moved (u := U) (U := U.calling g mk a) (Vm.Alike.refl U.vm) qK, qD⟩, hrv, fun U hU hW => ⟨rfl, by rw [hU], by rw [hU]; exact hPc, va_K.moved hW.alike hKc, hDc.weaken (fun _ _ _ _ => trivial)⟩⟩ rfl rfl hl.1 rfl (lv_room (Nat.le_of_ble_eq_true rfl)) dX4_readSum_36 ⟨Nat.le_of_ble_eq_true rfl, Nat.le_of_ble_eq_true rfl⟩) hS (fun q _ h => hFc q h) hFc (fun u t H1 locs ht hvm hw hB hz1 hk1 hS => ?_)
            obtain ⟨x_59, w_60⟩ := u
            obtain ⟨hP1, hK1, hD1⟩ := hB
            rw [ht] at hP1
            obtain ⟨hP, hD⟩ := cl_put (w1 := (wd_c_X4_emit h0 h0_0 x_59 h0_2 h0_0 h0_0k w_60)) (nw := (wd_c_X4_readSum_5 h1 h1_0 h1_f1 x_45 x_46 h1_0 h1_0k h1_0c h0 h0_0 x_59 h0_2 h0_0 h0_0k w_60)) hP hD [2, 3] [0, 1, 4, 5] 4 rfl hqc (by decide +kernel) rfl hk1 hFc hP1 hD1
            generalize H1 = H at hP hS ⊢
            as_aux_lemma =>
            rcases hw with ⟨h_61, h_62⟩
            have h_62 : (x_59, w_60) = _ := h_62
            replace hEX := hEX.trans (exc2_eq h_62)
            exact hU _ _ _ (J39 x_45 x_46 x_59 w_60 g_h0_f1 g_h1_f1 g_h1_f2 g_h1_f3 (RG_w h_61 (by decide +kernel)) h_49 h_50 g_j8_h0_f1 g_j8_h1_f2 h_40 (RG_w g_55 (by decide +kernel)) g_j8_l4 g_34 hEX _ _ _ hP hD hS (lv_sub hl [0, 1, 3, 4, 5] rfl))
  refine hG _ _ _ ?_
  refine lv_iconst (v := 0) hx hb dX4_readSum_0 kc_iconst_0 ?_
  refine lv_istore_n (lv' := [(3, .int 0), (0, .ref h0), (1, .ref h1), (2, .int 5)]) hx hb dX4_readSum_1 rfl hl (Nat.le_of_ble_eq_true rfl) rfl (fun ls hl => ?_)
  refine lv_iconst (v := 0) hx hb dX4_readSum_2 kc_iconst_0 ?_
  refine lv_istore (lv' := [(4, .int 0), (3, .int 0), (0, .ref h0), (1, .ref h1), (2, .int 5)]) hx hb dX4_readSum_3 hl (Nat.le_of_ble_eq_true rfl) rfl (fun ls hl => ?_)
  refine lv_iconst (v := 0) hx hb dX4_readSum_5 kc_iconst_0 ?_
  refine lv_istore (lv' := [(5, .int 0), (4, .int 0), (3, .int 0), (0, .ref h0), (1, .ref h1), (2, .int 5)]) hx hb dX4_readSum_6 hl (Nat.le_of_ble_eq_true rfl) rfl (fun ls hl => ?_)
  exact hU _ _ _ (J8 exF 0 0 0 h1_f2 h1_f3 h0_f1 h0_0c MU_F g_h0_f1 g_h1_f1 g_h1_f2 g_h1_f3 g_h0_f1 g_h1_f2 g_h1_f3 (RG_w (RG_k 0 0 rfl) (by decide +kernel)) (RG_w (RG_k 0 0 rfl) (by decide +kernel)) (RG_w (RG_k 0 0 rfl) (by decide +kernel)) hEX _ _ _ hP hD hS (lv_sub hl [0, 1, 2, 3, 4, 5] rfl))
noncomputable def wd_c_X4_readAtom_4 (a0 : Nat) (a1 : Nat) (a2 : Int32) (a3 : Int32) (a4 : Int32) (a5 : Nat) (a6 : ClassId) (a7 : Nat → Int32) (a8 : Nat) (a9 : Nat) (a10 : Int32) (a11 : Nat) (a12 : Nat) (a13 : ClassId) (a14 : Nat → Int32) : va_W := [(a0, .inr (9, [.ref a1, .int a2, .int a3, .int a4])), (a5, .inl (a6, 240, .inl a7)), (a8, .inr (4, [.ref a9, .int a10, .ref a11])), (a12, .inl (a13, 240, .inl a14))]
noncomputable def wf_c_X4_readAtom_4 : List Cond := List.cons (.code yX4_readAtom cX4_readAtom 6 none) (@HAppend.hAppend (List Cond) (List Cond) (List Cond) _ (@HAppend.hAppend (List Cond) (List Cond) (List Cond) _ [.methodLink RX4 41 yX9_peek, .instanceMethod yX9_peek, .selects RX9 yX9_peek yX9_peek, .initialized RX9, .code yX9_peek cX9_peek 1 (some .int), .fieldLink RX9 22 "BuoyVote$Tape" "at" "I", .fieldLink RX9 19 "BuoyVote$Tape" "length" "I", .fieldLink RX9 11 "BuoyVote$Tape" "bytes" "[I", .methodLink RX4 93 yJ0_indexOf_0f7a4, .instanceMethod yJ0_indexOf_0f7a4, .selects RJ0 yJ0_indexOf_0f7a4 yJ0_indexOf_0f7a4, .initialized RJ0, .code yJ0_indexOf_0f7a4 cJ0_indexOf_0f7a4 2 (some .int), .methodLink RJ0 633 yJ0_indexOf_7cf53, .instanceMethod yJ0_indexOf_7cf53, .selects RJ0 yJ0_indexOf_7cf53 yJ0_indexOf_7cf53, .code yJ0_indexOf_7cf53 cJ0_indexOf_7cf53 3 (some .int), .methodLink RJ0 492 yJ0_isLatin1_aae02, .instanceMethod yJ0_isLatin1_aae02, .selects RJ0 yJ0_isLatin1_aae02 yJ0_isLatin1_aae02, .code yJ0_isLatin1_aae02 cJ0_isLatin1_aae02 1 (some .boolean), .fieldLink RJ0 38 "java/lang/String" "COMPACT_STRINGS" "Z", .fieldLink RJ0 15 "java/lang/String" "coder" "B", .fieldLink RJ0 9 "java/lang/String" "value" "[B", .methodLink RJ0 505 yJ0_length_8abf5, .instanceMethod yJ0_length_8abf5, .selects RJ0 yJ0_length_8abf5 yJ0_length_8abf5, .code yJ0_length_8abf5 cJ0_length_8abf5 1 (some .int), .methodLink RJ0 335 yJ0_coder_7d493, .instanceMethod yJ0_coder_7d493, .selects RJ0 yJ0_coder_7d493 yJ0_coder_7d493, .code yJ0_coder_7d493 cJ0_coder_7d493 1 (some .byte), .methodLink RJ0 637 yJ1_indexOf_4cfef, .static yJ1_indexOf_4cfef, .initialized RJ1, .code yJ1_indexOf_4cfef cJ1_indexOf_4cfef 4 (some .int), .methodLink RJ1 88 yJ1_canEncode_9a6ad, .static yJ1_canEncode_9a6ad, .code yJ1_canEncode_9a6ad cJ1_canEncode_9a6ad 1 (some .boolean), .methodLink RJ1 92 Lib.Math.max.name, .static Lib.Math.max.name, .initialized "java/lang/Math", .code Lib.Math.max.name Lib.Math.max.code 2 (some .int), .methodLink RJ1 38 Lib.Math.min.name, .static Lib.Math.min.name, .code Lib.Math.min.name Lib.Math.min.code 2 (some .int), .methodLink RJ1 95 yJ1_indexOfChar_4cfef, .static yJ1_indexOfChar_4cfef, .code yJ1_indexOfChar_4cfef cJ1_indexOfChar_4cfef 6 (some .int), .methodLink RX4 99 yX9_number, .instanceMethod yX9_number, .selects RX9 yX9_number yX9_number, .code yX9_number cX9_number 4 (some .int), .methodLink RX4 82 yX9_refuseHere, .instanceMethod yX9_refuseHere, .selects RX9 yX9_refuseHere yX9_refuseHere, .code yX9_refuseHere cX9_refuseHere 1 none, .methodLink RX9 25 yX9_refuse, .instanceMethod yX9_refuse, .selects RX9 yX9_refuse yX9_refuse, .code yX9_refuse cX9_refuse 2 none, .fieldLink RX9 15 "BuoyVote$Tape" "wrong" "I", .methodLink RX4 79 yX9_skip, .instanceMethod yX9_skip, .selects RX9 yX9_skip yX9_skip, .code yX9_skip cX9_skip 1 none, .methodLink RX4 49 yX4_readSum, .instanceMethod yX4_readSum, .selects RX4 yX4_readSum yX4_readSum, .initialized RX4, .code yX4_readSum cX4_readSum 6 none, .methodLink RX4 72 yX9_isRight, .instanceMethod yX9_isRight, .selects RX9 yX9_isRight yX9_isRight, .code yX9_isRight cX9_isRight 1 (some .boolean), .methodLink RX4 85 yX4_readAtom, .instanceMethod yX4_readAtom, .selects RX4 yX4_readAtom yX4_readAtom, .methodLink RX4 60 yX4_emit, .instanceMethod yX4_emit, .selects RX4 yX4_emit yX4_emit, .code yX4_emit cX4_emit 2 none, .fieldLink RX4 20 "BuoyVote$Law" "length" "I", .fieldLink RX4 11 "BuoyVote$Law" "code" "[I", .methodLink RX4 88 yX9_takeEither, .instanceMethod yX9_takeEither, .selects RX9 yX9_takeEither yX9_takeEither, .code yX9_takeEither cX9_takeEither 4 (some .int), .methodLink RX9 29 yX9_peek, .methodLink RX4 37 yX9_expect, .instanceMethod yX9_expect, .selects RX9 yX9_expect yX9_expect, .code yX9_expect cX9_expect 2 none] wsX90) wsX40)
theorem iw_c_X4_readAtom_4_X9 : ∀ w ∈ wsX90, w ∈ wf_c_X4_readAtom_4 := fun w h => List.mem_cons_of_mem _ (List.mem_append_left _ (List.mem_append_right _ h))
theorem iw_c_X4_readAtom_4_X4 : ∀ w ∈ wsX40, w ∈ wf_c_X4_readAtom_4 := fun w h => List.mem_cons_of_mem _ (List.mem_append_right _ h)
set_option maxRecDepth 20000 in
theorem gf_c_X4_readAtom_4_c_X4_emit_1 : GoodIn wf_c_X4_readAtom_4 (wsV RX4 60 RX4 yX4_emit wf_c_X4_emit_1) := goodIn_app (gi_l [79, 80, 81, 70] rfl rfl) (gi_cons (j := 82) rfl rfl (goodIn_app (gi_l [83, 84] rfl rfl) (goodIn_sub iw_c_X4_readAtom_4_X4 gw_X4)))
set_option maxRecDepth 20000 in
theorem gf_c_X4_readAtom_4_c_X9_number_1 : GoodIn wf_c_X4_readAtom_4 (wsV RX4 99 RX9 yX9_number wf_c_X9_number_1) := goodIn_app (gi_l [50, 51, 52, 4] rfl rfl) (gi_cons (j := 53) rfl rfl (goodIn_app (gi_l [6, 7, 8] rfl rfl) (goodIn_sub iw_c_X4_readAtom_4_X9 gw_X9)))
set_option maxRecDepth 20000 in
theorem gf_c_X4_readAtom_4_c_X9_refuseHere : GoodIn wf_c_X4_readAtom_4 (wsV RX4 82 RX9 yX9_refuseHere wf_c_X9_refuseHere) := goodIn_app (gi_l [54, 55, 56, 4] rfl rfl) (gi_cons (j := 57) rfl rfl (goodIn_app (gi_l [6, 58, 59, 60, 4, 61, 62] rfl rfl) (goodIn_sub iw_c_X4_readAtom_4_X9 gw_X9)))
set_option maxRecDepth 20000 in
theorem gf_c_X4_readAtom_4_c_X9_skip : GoodIn wf_c_X4_readAtom_4 (wsV RX4 79 RX9 yX9_skip wf_c_X9_skip) := goodIn_app (gi_l [63, 64, 65, 4] rfl rfl) (gi_cons (j := 66) rfl rfl (goodIn_app (gi_l [6] rfl rfl) (goodIn_sub iw_c_X4_readAtom_4_X9 gw_X9)))
set_option maxRecDepth 20000 in
theorem gf_c_X4_readAtom_4_c_X4_readSum_5 : GoodIn wf_c_X4_readAtom_4 (wsV RX4 49 RX4 yX4_readSum wf_c_X4_readSum_5) := goodIn_app (gi_l [67, 68, 69, 70] rfl rfl) (gi_cons (j := 71) rfl rfl (goodIn_app (goodIn_app (gi_l [72, 73, 74, 4, 75, 62, 76, 77, 78, 70, 0, 1, 2, 3, 5, 6, 7, 8, 9, 10, 11, 12, 13, 14, 15, 16, 17, 18, 19, 20, 21, 22, 23, 24, 25, 26, 27, 28, 29, 30, 31, 32, 33, 34, 35, 36, 37, 38, 39, 40, 41, 42, 43, 44, 45, 46, 47, 48, 49, 50, 51, 52, 53, 54, 55, 56, 57, 58, 59, 60, 61, 63, 64, 65, 66, 67, 68, 69, 79, 80, 81, 82, 83, 84, 85, 86, 87, 88, 89, 90, 91, 92, 93] rfl rfl) (goodIn_sub iw_c_X4_readAtom_4_X9 gw_X9)) (goodIn_sub iw_c_X4_readAtom_4_X4 gw_X4)))
set_option maxRecDepth 20000 in
theorem gf_c_X4_readAtom_4_c_X9_expect_2 : GoodIn wf_c_X4_readAtom_4 (wsV RX4 37 RX9 yX9_expect wf_c_X9_expect_2) := goodIn_app (gi_l [90, 91, 92, 4] rfl rfl) (gi_cons (j := 93) rfl rfl (goodIn_app (gi_l [62, 89, 2, 3, 4, 5, 6, 7, 8, 58, 59, 60, 61] rfl rfl) (goodIn_sub iw_c_X4_readAtom_4_X9 gw_X9)))
set_option maxRecDepth 20000 in
theorem gf_c_X4_readAtom_4_c_X4_emit : GoodIn wf_c_X4_readAtom_4 (wsV RX4 60 RX4 yX4_emit wf_c_X4_emit) := goodIn_app (gi_l [79, 80, 81, 70] rfl rfl) (gi_cons (j := 82) rfl rfl (goodIn_app (gi_l [83, 84] rfl rfl) (goodIn_sub iw_c_X4_readAtom_4_X4 gw_X4)))
set_option maxRecDepth 20000 in
theorem gf_c_X4_readAtom_4_c_X9_peek : GoodIn wf_c_X4_readAtom_4 (wsV RX4 41 RX9 yX9_peek wf_c_X9_peek) := goodIn_app (gi_l [1, 2, 3, 4] rfl rfl) (gi_cons (j := 5) rfl rfl (goodIn_app (gi_l [6, 7, 8] rfl rfl) (goodIn_sub iw_c_X4_readAtom_4_X9 gw_X9)))
set_option maxRecDepth 20000 in
theorem gf_c_X4_readAtom_4_c_J0_indexOf_0f7a4_4 : GoodIn wf_c_X4_readAtom_4 (wsV RX4 93 RJ0 yJ0_indexOf_0f7a4 wf_c_J0_indexOf_0f7a4_4) := goodIn_app (gi_l [9, 10, 11, 12] rfl rfl) (gi_cons (j := 13) rfl rfl (gi_l [14, 15, 16, 12, 17, 18, 19, 20, 21, 22, 23, 24, 25, 26, 27, 28, 29, 30, 31, 32, 33, 34, 35, 36, 37, 38, 39, 40, 41, 42, 43, 44, 45, 46, 47, 48, 49] rfl rfl))
set_option maxHeartbeats 4000000 in
set_option maxRecDepth 100000 in
theorem c_X4_readAtom_4 (l : Launch) (dC : Nat → ClassId) (dI : Nat → Nat → Nat) (sz : Nat) (h0 : Nat) (h1 : Nat) (h1_0 : Nat) (h1_f1 : Int32) (h1_f2 : Int32) (h1_f3 : Int32) (h1_0k : ClassId) (h1_0c : Nat → Int32) (h0_0 : Nat) (h0_f1 : Int32) (h0_2 : Nat) (h0_0k : ClassId) (h0_0c : Nat → Int32) (ts4 : Nat) (tv4 : Nat) (g_h1_f1 : RG h1_f1 0 240) (g_h1_f2 : RG h1_f2 0 240) (g_h1_f3 : RG h1_f3 (-1) 240) (a_h1_0c : AI h1_0c 0 255) (g_h0_f1 : RG h0_f1 0 240) : Met l yX4_readAtom wf_c_X4_readAtom_4 ({ frames := 8, cells := 0, slots := 0, locals := 191 }) (va_Pc [.ref h0, .ref h1, .int 4] (fun U => U.heap.size = sz ∧ va_P (dC, dI) vwCl (wd_c_X4_readAtom_4 h1 h1_0 h1_f1 h1_f2 h1_f3 h1_0 h1_0k h1_0c h0 h0_0 h0_f1 h0_2 h0_0 h0_0k h0_0c) U.heap ∧ va_K (dC, dI) vwCl [(h1_0k, .int), (h0_0k, .int)] U ∧ va_D (fun _ => True) (wd_c_X4_readAtom_4 h1 h1_0 h1_f1 h1_f2 h1_f3 h1_0 h1_0k h1_0c h0 h0_0 h0_f1 h0_2 h0_0 h0_0k h0_0c) ∧ vk_R RX4 91 "vlrdph" ts4 U ∧ va_Z "java/lang/String" "COMPACT_STRINGS" "Z" (.int 1) (va_A (wd_c_X4_readAtom_4 h1 h1_0 h1_f1 h1_f2 h1_f3 h1_0 h1_0k h1_0c h0 h0_0 h0_f1 h0_2 h0_0 h0_0k h0_0c) sz) U U.heap ∧ va_OF "java/lang/String" "coder" "B" (.int 0) ts4 (va_A (wd_c_X4_readAtom_4 h1 h1_0 h1_f1 h1_f2 h1_f3 h1_0 h1_0k h1_0c h0 h0_0 h0_f1 h0_2 h0_0 h0_0k h0_0c) sz) U U.heap ∧ va_O "java/lang/String" ts4 (va_A (wd_c_X4_readAtom_4 h1 h1_0 h1_f1 h1_f2 h1_f3 h1_0 h1_0k h1_0c h0 h0_0 h0_f1 h0_2 h0_0 h0_0k h0_0c) sz) U U.heap ∧ va_OF "java/lang/String" "value" "[B" (.ref tv4) ts4 (va_A (wd_c_X4_readAtom_4 h1 h1_0 h1_f1 h1_f2 h1_f3 h1_0 h1_0k h1_0c h0 h0_0 h0_f1 h0_2 h0_0 h0_0k h0_0c) sz) U U.heap ∧ va_T .byte tv4 6 (fun j => .int ([118, 108, 114, 100, 112, 104].getD j 0)) (va_A (wd_c_X4_readAtom_4 h1 h1_0 h1_f1 h1_f2 h1_f3 h1_0 h1_0k h1_0c h0 h0_0 h0_f1 h0_2 h0_0 h0_0k h0_0c) sz) U U.heap)) (va_Qv (fun (u : (Int32) × (Int32) × (Int32) × (Nat → Int32)) => (RG u.1 0 240 ∧ RG u.2.1 (-1) 240 ∧ RG u.2.2.1 0 240 ∧ (u.1, u.2.1, u.2.2.1, u.2.2.2) = fx_c_X4_readAtom_4 h1_f1 h1_f2 h1_f3 h1_0c h0_f1 h0_0c)) (fun (u : (Int32) × (Int32) × (Int32) × (Nat → Int32)) t => va_P (dC, dI) vwCl (wd_c_X4_readAtom_4 h1 h1_0 h1_f1 (u.1) (u.2.1) h1_0 h1_0k h1_0c h0 h0_0 (u.2.2.1) h0_2 h0_0 h0_0k (u.2.2.2)) t.heap ∧ va_K (dC, dI) vwCl [] t ∧ va_D (va_A (wd_c_X4_readAtom_4 h1 h1_0 h1_f1 h1_f2 h1_f3 h1_0 h1_0k h1_0c h0 h0_0 h0_f1 h0_2 h0_0 h0_0k h0_0c) sz) (wd_c_X4_readAtom_4 h1 h1_0 h1_f1 (u.1) (u.2.1) h1_0 h1_0k h1_0c h0 h0_0 (u.2.2.1) h0_2 h0_0 h0_0k (u.2.2.2))) (va_A (wd_c_X4_readAtom_4 h1 h1_0 h1_f1 h1_f2 h1_f3 h1_0 h1_0k h1_0c h0 h0_0 h0_f1 h0_2 h0_0 h0_0k h0_0c) sz)) 0 0 (va_A (wd_c_X4_readAtom_4 h1 h1_0 h1_f1 h1_f2 h1_f3 h1_0 h1_0k h1_0c h0 h0_0 h0_f1 h0_2 h0_0 h0_0k h0_0c) sz) := by
  refine Met.ofW (cc := cX4_readAtom) (maxL := 6) (ret := none) (by decide +kernel) rfl ?_
  intro p e s m args below meth c s₁ B hml hv
  obtain ⟨rfl, hsz, hP, hK, hD0, hE_32, hE_10, hE_34, hE_33, hE_35, hE_36⟩ := hv
  have hx := B.exec
  have hb := B.bytes
  have hr := B.returns
  have hts := atoms_spec (ws := wf_c_X4_readAtom_4) B.pre
  have hown : s.vm.findClass RX4 = some m.cls := findClass_of_methodNamed B.named
  have hlocks := B.notSynchronized
  subst hsz
  have hD := hD0.self (sz := s.heap.size)
  generalize hAe : va_A (wd_c_X4_readAtom_4 h1 h1_0 h1_f1 h1_f2 h1_f3 h1_0 h1_0k h1_0c h0 h0_0 h0_f1 h0_2 h0_0 h0_0k h0_0c) s.heap.size = A at hD hE_10 hE_34 hE_33 hE_35 hE_36 ⊢
  have hA : ∀ q : Nat, s.heap.size ≤ q → A q := fun q h => by rw [← hAe]; exact Or.inr h
  have hP : va_P (dC, dI) vwCl (wd_c_X4_readAtom_4 h1 h1_0 h1_f1 h1_f2 h1_f3 h1_0 h1_0k h1_0c h0 h0_0 h0_f1 h0_2 h0_0 h0_0k h0_0c) s.heap := hP
  have hl := lv_entry ([.ref h0, .ref h1, .int 4]) (n := 6) (Nat.le_of_ble_eq_true rfl)
  rw [lg_entry_eq]
  generalize (lg_sl ([.ref h0, .ref h1, .int 4]) ++ List.replicate (6 - (lg_sl ([.ref h0, .ref h1, .int 4])).length) Slot.unset).toArray = ls at hl ⊢
  have hl : lv_has ls 6 [(0, .ref h0), (1, .ref h1), (2, .int 4)] := hl
  obtain ⟨H, hHe⟩ : ∃ H : Heap, s.heap = H := ⟨_, rfl⟩
  have hS : va_S A s.heap H [] := by rw [hHe]; exact va_S.rf
  have hP : va_P (dC, dI) vwCl (wd_c_X4_readAtom_4 h1 h1_0 h1_f1 h1_f2 h1_f3 h1_0 h1_0k h1_0c h0 h0_0 h0_f1 h0_2 h0_0 h0_0k h0_0c) H := by rw [← hHe]; exact hP
  rw [hHe]
  obtain ⟨RES, hR⟩ : ∃ z, fx_c_X4_readAtom_4 h1_f1 h1_f2 h1_f3 h1_0c h0_f1 h0_0c = z := ⟨_, rfl⟩
  have hEX : RES = fx_c_X4_readAtom_4 h1_f1 h1_f2 h1_f3 h1_0c h0_f1 h0_0c := hR.symm
  refine wj (fun G hG hU => ?_)
  as_aux_lemma =>
  have J65 : ∀ (j65_l5 : Int32) (j65_h1_f2 : Int32) (j65_h1_f3 : Int32) (g_h0_f1 : RG h0_f1 0 240) (g_h1_f1 : RG h1_f1 0 240) (g_h1_f2 : RG h1_f2 0 240) (g_h1_f3 : RG h1_f3 (-1) 240) (g_j65_h1_f2 : RG j65_h1_f2 0 240) (g_j65_h1_f3 : RG j65_h1_f3 (-1) 240) (g_j65_l5 : RG j65_l5 (-1) 9999) (hEX : RES = fx_c_X4_readAtom_4_p65 h0_f1 h0_0c j65_l5 j65_h1_f2 j65_h1_f3) (H : Heap) (locs : List Loc) (ls : Array Slot) (hP : va_P (dC, dI) vwCl (wd_c_X4_readAtom_4 h1 h1_0 h1_f1 j65_h1_f2 j65_h1_f3 h1_0 h1_0k h1_0c h0 h0_0 h0_f1 h0_2 h0_0 h0_0k h0_0c) H) (hD : va_D A (wd_c_X4_readAtom_4 h1 h1_0 h1_f1 j65_h1_f2 j65_h1_f3 h1_0 h1_0k h1_0c h0 h0_0 h0_f1 h0_2 h0_0 h0_0k h0_0c)) (hS : va_S A s.heap H locs) (hl : lv_has ls 6 [(5, .int j65_l5), (0, .ref h0)]), G H locs (F0 m 65 ls []) := by
    as_aux_lemma =>
    intro j65_l5 j65_h1_f2 j65_h1_f3 g_h0_f1 g_h1_f1 g_h1_f2 g_h1_f3 g_j65_h1_f2 g_j65_h1_f3 g_j65_l5 hEX H locs ls hP hD hS hl
    refine hG _ _ _ ?_
    refine lv_aload_n hx hb dX4_readAtom_65 rfl (lv_at hl 1 rfl) ?_
    refine lv_iload hx hb dX4_readAtom_66 (lv_at hl 0 rfl) ?_
    obtain ⟨hPc, hDc, hFc, hqc⟩ := cl_cut (wc := (wd_c_X4_emit_1 h0 h0_0 h0_f1 h0_2 h0_0 h0_0k h0_0c)) hP hD hS hA [2, 3] (by decide +kernel) rfl
    have hKc := hK.sub (tys' := [(h0_0k, .int)]) [1] rfl
    have hrv := va_recv hKc hPc (ci := 4) (q0 := 0) rfl rfl
    refine va_callv (va_runV (As := [.int j65_l5]) (rest := []) ⟨hx, hb, hml, hown, hts⟩ (c_X4_emit_1 l dC dI H.size h0 j65_l5 h0_0 h0_f1 h0_2 h0_0k h0_0c (RG_w g_j65_l5 (by decide +kernel)) g_h0_f1) (cwV 1 hts gf_c_X4_readAtom_4_c_X4_emit_1 rfl rfl rfl mdV_X4_emit ⟨Nat.le_of_ble_eq_true rfl, Nat.le_of_ble_eq_true rfl⟩) ⟨fun a U g mk q => by obtain ⟨q0, q1, qP, qK, qD⟩ := q; exact ⟨q0, q1, qP, va_K.moved (u := U) (U := U.calling g mk a) (Vm.Alike.refl U.vm) qK, qD⟩, hrv, fun U hU hW => ⟨rfl, by rw [hU], by rw [hU]; exact hPc, va_K.moved hW.alike hKc, hDc.weaken (fun _ _ _ _ => trivial)⟩⟩ rfl rfl hl.1 rfl (lv_room (Nat.le_of_ble_eq_true rfl)) dX4_readAtom_68 ⟨Nat.le_of_ble_eq_true rfl, Nat.le_of_ble_eq_true rfl⟩) hS (fun q _ h => hFc q h) hFc (fun u t H1 locs ht hvm hw hB hz1 hk1 hS => ?_)
    obtain ⟨x_2, w_3⟩ := u
    obtain ⟨hP1, hK1, hD1⟩ := hB
    rw [ht] at hP1
    obtain ⟨hP, hD⟩ := cl_put (w1 := (wd_c_X4_emit_1 h0 h0_0 x_2 h0_2 h0_0 h0_0k w_3)) (nw := (wd_c_X4_readAtom_4 h1 h1_0 h1_f1 j65_h1_f2 j65_h1_f3 h1_0 h1_0k h1_0c h0 h0_0 x_2 h0_2 h0_0 h0_0k w_3)) hP hD [2, 3] [0, 1, 4, 5] 4 rfl hqc (by decide +kernel) rfl hk1 hFc hP1 hD1
    generalize H1 = H at hP hS ⊢
    as_aux_lemma =>
    rcases hw with ⟨h_4, h_5⟩
    have h_5 : (x_2, w_3) = _ := h_5
    replace hEX := hEX.trans (exc2_eq h_5)
    refine lv_goto (tgt := 105) hx hb dX4_readAtom_71 rfl ?_
    have hK9 := hK.sub (tys' := []) [] rfl
    exact W.vret hx hb hr (fun t ht hW => ⟨⟨(j65_h1_f2, j65_h1_f3, x_2, w_3), rfl, ⟨g_j65_h1_f2, g_j65_h1_f3, (RG_w h_4 (by decide +kernel)), (hR.trans hEX).symm⟩, by rw [ht]; exact hP, va_K.moved hW.alike hK9, hD⟩, hS.F ht⟩) hS.2.2 dX4_readAtom_105
  have J20 : ∀ (j20_h1_f2 : Int32) (g_h0_f1 : RG h0_f1 0 240) (g_h1_f1 : RG h1_f1 0 240) (g_h1_f2 : RG h1_f2 0 240) (g_h1_f3 : RG h1_f3 (-1) 240) (g_j20_h1_f2 : RG j20_h1_f2 0 240) (hEX : RES = fx_c_X4_readAtom_4_p20 h1_f1 h1_f3 h1_0c h0_f1 h0_0c j20_h1_f2) (H : Heap) (locs : List Loc) (ls : Array Slot) (hP : va_P (dC, dI) vwCl (wd_c_X4_readAtom_4 h1 h1_0 h1_f1 j20_h1_f2 h1_f3 h1_0 h1_0k h1_0c h0 h0_0 h0_f1 h0_2 h0_0 h0_0k h0_0c) H) (hD : va_D A (wd_c_X4_readAtom_4 h1 h1_0 h1_f1 j20_h1_f2 h1_f3 h1_0 h1_0k h1_0c h0 h0_0 h0_f1 h0_2 h0_0 h0_0k h0_0c)) (hS : va_S A s.heap H locs) (hl : lv_has ls 6 [(3, .int (-1)), (0, .ref h0), (1, .ref h1), (2, .int 4)]), G H locs (F0 m 20 ls [.int (-1)]) := by
    as_aux_lemma =>
    intro j20_h1_f2 g_h0_f1 g_h1_f1 g_h1_f2 g_h1_f3 g_j20_h1_f2 hEX H locs ls hP hD hS hl
    refine hG _ _ _ ?_
    refine lv_istore (lv' := [(4, .int (-1)), (3, .int (-1)), (0, .ref h0), (1, .ref h1), (2, .int 4)]) hx hb dX4_readAtom_20 hl (Nat.le_of_ble_eq_true rfl) rfl (fun ls hl => ?_)
    refine lv_iload hx hb dX4_readAtom_22 (lv_at hl 0 rfl) ?_
    refine lv_if_lt (tgt := 42) hx hb dX4_readAtom_24 rfl (fun c_6 => ?_) (fun c_6 => absurd c_6 (by decide +kernel))
    refine lv_iload_n hx hb dX4_readAtom_42 rfl (lv_at hl 1 rfl) ?_
    refine lv_bipush (v := 91) hx hb dX4_readAtom_43 kc_bipush_91 ?_
    refine lv_icmp_eq (tgt := 74) hx hb dX4_readAtom_45 rfl (fun c_7 => absurd c_7 (by decide +kernel)) (fun c_7 => ?_)
    refine lv_aload_n hx hb dX4_readAtom_48 rfl (lv_at hl 3 rfl) ?_
    refine lv_iconst (v := 4) hx hb dX4_readAtom_49 kc_iconst_4 ?_
    obtain ⟨hPc, hDc, hFc, hqc⟩ := cl_cut (wc := (wd_c_X9_number_1 h1 h1_0 h1_f1 j20_h1_f2 h1_f3 h1_0 h1_0k h1_0c)) hP hD hS hA [0, 1] (by decide +kernel) rfl
    have hKc := hK.sub (tys' := [(h1_0k, .int)]) [0] rfl
    have hrv := va_recv hKc hPc (ci := 9) (q0 := 0) rfl rfl
    refine va_calli (va_runV (As := [.int 4]) (rest := []) ⟨hx, hb, hml, hown, hts⟩ (c_X9_number_1 l dC dI H.size h1 h1_0 h1_f1 j20_h1_f2 h1_f3 h1_0k h1_0c g_h1_f1 g_j20_h1_f2 g_h1_f3 a_h1_0c) (cwV 1 hts gf_c_X4_readAtom_4_c_X9_number_1 rfl rfl rfl mdV_X9_number ⟨Nat.le_of_ble_eq_true rfl, Nat.le_of_ble_eq_true rfl⟩) ⟨fun a U g mk q => by obtain ⟨q0, q1, qP, qK, qD⟩ := q; exact ⟨q0, q1, qP, va_K.moved (u := U) (U := U.calling g mk a) (Vm.Alike.refl U.vm) qK, qD⟩, hrv, fun U hU hW => ⟨rfl, by rw [hU], by rw [hU]; exact hPc, va_K.moved hW.alike hKc, hDc.weaken (fun _ _ _ _ => trivial)⟩⟩ rfl rfl hl.1 rfl (lv_room (Nat.le_of_ble_eq_true rfl)) dX4_readAtom_50 ⟨Nat.le_of_ble_eq_true rfl, Nat.le_of_ble_eq_true rfl⟩) hS (fun q _ h => hFc q h) hFc (fun r_8 x_9 t H1 locs ht hvm hw hB hz1 hk1 hS => ?_)
    as_aux_lemma =>
    obtain ⟨hP1, hK1, hD1⟩ := hB
    rw [ht] at hP1
    obtain ⟨hP, hD⟩ := cl_put (w1 := (wd_c_X9_number_1 h1 h1_0 h1_f1 x_9 h1_f3 h1_0 h1_0k h1_0c)) (nw := (wd_c_X4_readAtom_4 h1 h1_0 h1_f1 x_9 h1_f3 h1_0 h1_0k h1_0c h0 h0_0 h0_f1 h0_2 h0_0 h0_0k h0_0c)) hP hD [0, 1] [4, 5, 2, 3] 4 rfl hqc (by decide +kernel) rfl hk1 hFc hP1 hD1
    generalize H1 = H at hP hS ⊢
    as_aux_lemma =>
    rcases hw with ⟨h_10, h_11, h_12, h_13⟩ | ⟨h_14, h_15, h_16, h_17, h_18, h_19⟩
    · have h_13 : (r_8, x_9) = _ := h_13
      replace hEX := hEX.trans (exc2_eq h_13)
      replace hEX := hEX.trans (if_pos (show r_8 = (-1) from h_10))
      rw [h_10]
      refine lv_istore (lv' := [(5, .int (-1)), (4, .int (-1)), (3, .int (-1)), (0, .ref h0), (1, .ref h1), (2, .int 4)]) hx hb dX4_readAtom_53 hl (Nat.le_of_ble_eq_true rfl) rfl (fun ls hl => ?_)
      refine lv_iload hx hb dX4_readAtom_55 (lv_at hl 0 rfl) ?_
      refine lv_iconst (v := (-1)) hx hb dX4_readAtom_57 kc_iconst_m1 ?_
      refine lv_icmp_ne (tgt := 65) hx hb dX4_readAtom_58 rfl (fun c_20 => absurd c_20 (by decide +kernel)) (fun c_20 => ?_)
      refine lv_aload_n hx hb dX4_readAtom_61 rfl (lv_at hl 4 rfl) ?_
      obtain ⟨hPc, hDc, hFc, hqc⟩ := cl_cut (wc := (wd_c_X9_refuseHere h1 h1_0 h1_f1 x_9 h1_f3)) hP hD hS hA [0] (by decide +kernel) rfl
      have hKc := hK.sub (tys' := []) [] rfl
      have hrv := va_recv hKc hPc (ci := 9) (q0 := 0) rfl rfl
      refine va_callv (va_runV (As := []) (rest := []) ⟨hx, hb, hml, hown, hts⟩ (c_X9_refuseHere l dC dI H.size h1 h1_0 h1_f1 x_9 h1_f3 g_h1_f1 h_11 g_h1_f3) (cwV 0 hts gf_c_X4_readAtom_4_c_X9_refuseHere rfl rfl rfl mdV_X9_refuseHere ⟨Nat.le_of_ble_eq_true rfl, Nat.le_of_ble_eq_true rfl⟩) ⟨fun a U g mk q => by obtain ⟨q0, q1, qP, qK, qD⟩ := q; exact ⟨q0, q1, qP, va_K.moved (u := U) (U := U.calling g mk a) (Vm.Alike.refl U.vm) qK, qD⟩, hrv, fun U hU hW => ⟨rfl, by rw [hU], by rw [hU]; exact hPc, va_K.moved hW.alike hKc, hDc.weaken (fun _ _ _ _ => trivial)⟩⟩ rfl rfl hl.1 rfl (lv_room (Nat.le_of_ble_eq_true rfl)) dX4_readAtom_62 ⟨Nat.le_of_ble_eq_true rfl, Nat.le_of_ble_eq_true rfl⟩) hS (fun q _ h => hFc q h) hFc (fun x_22 t H1 locs ht hvm hw hB hz1 hk1 hS => ?_)
      as_aux_lemma =>
      obtain ⟨hP1, hK1, hD1⟩ := hB
      rw [ht] at hP1
      obtain ⟨hP, hD⟩ := cl_put (w1 := (wd_c_X9_refuseHere h1 h1_0 h1_f1 x_9 x_22)) (nw := (wd_c_X4_readAtom_4 h1 h1_0 h1_f1 x_9 x_22 h1_0 h1_0k h1_0c h0 h0_0 h0_f1 h0_2 h0_0 h0_0k h0_0c)) hP hD [0] [4, 1, 2, 3] 4 rfl hqc (by decide +kernel) rfl hk1 hFc hP1 hD1
      generalize H1 = H at hP hS ⊢
      as_aux_lemma =>
      rcases hw with ⟨h_23, h_24⟩
      have h_24 : x_22 = _ := h_24
      replace hEX := hEX.trans (exc1_eq h_24)
      exact hU _ _ _ (J65 (-1) x_9 x_22 g_h0_f1 g_h1_f1 g_h1_f2 g_h1_f3 h_11 (RG_w h_23 (by decide +kernel)) (RG_w (RG_k (-1) (-1) rfl) (by decide +kernel)) hEX _ _ _ hP hD hS (lv_sub hl [0, 3] rfl))
    · have h_19 : (r_8, x_9) = _ := h_19
      replace hEX := hEX.trans (exc2_eq h_19)
      replace hEX := hEX.trans (if_neg (RG_neq (x := r_8) (c := (-1)) (show RG r_8 0 9999 from h_14) (by decide +kernel)))
      refine lv_istore (lv' := [(5, .int r_8), (4, .int (-1)), (3, .int (-1)), (0, .ref h0), (1, .ref h1), (2, .int 4)]) hx hb dX4_readAtom_53 hl (Nat.le_of_ble_eq_true rfl) rfl (fun ls hl => ?_)
      refine lv_iload hx hb dX4_readAtom_55 (lv_at hl 0 rfl) ?_
      refine lv_iconst (v := (-1)) hx hb dX4_readAtom_57 kc_iconst_m1 ?_
      refine lv_icmp_ne (tgt := 65) hx hb dX4_readAtom_58 rfl (fun c_25 => ?_) (fun c_25 => ?_)
      · replace hEX := hEX.trans (if_neg c_25)
        exact hU _ _ _ (J65 r_8 x_9 h1_f3 g_h0_f1 (RG_w h_16 (by decide +kernel)) g_h1_f2 g_h1_f3 (RG_w h_15 (by decide +kernel)) g_h1_f3 (RG_w h_14 (by decide +kernel)) hEX _ _ _ hP hD hS (lv_sub hl [0, 3] rfl))
      · replace hEX := hEX.trans (if_pos c_25)
        exact RG_dead (RG_eq1 h_14 (RG_k (-1) (-1) rfl) c_25 (a' := 0) (b' := (-1)) (by decide +kernel)) (by decide +kernel)
  have J65b : ∀ (j65b_l5 : Int32) (j65b_h1_f2 : Int32) (j65b_h1_f3 : Int32) (g_h0_f1 : RG h0_f1 0 240) (g_h1_f1 : RG h1_f1 1 240) (g_h1_f2 : RG h1_f2 0 240) (g_h1_f3 : RG h1_f3 (-1) 240) (g_j65b_h1_f2 : RG j65b_h1_f2 0 240) (g_j65b_h1_f3 : RG j65b_h1_f3 (-1) 240) (g_j65b_l5 : RG j65b_l5 (-1) 9999) (hEX : RES = fx_c_X4_readAtom_4_p65b h0_f1 h0_0c j65b_l5 j65b_h1_f2 j65b_h1_f3) (H : Heap) (locs : List Loc) (ls : Array Slot) (hP : va_P (dC, dI) vwCl (wd_c_X4_readAtom_4 h1 h1_0 h1_f1 j65b_h1_f2 j65b_h1_f3 h1_0 h1_0k h1_0c h0 h0_0 h0_f1 h0_2 h0_0 h0_0k h0_0c) H) (hD : va_D A (wd_c_X4_readAtom_4 h1 h1_0 h1_f1 j65b_h1_f2 j65b_h1_f3 h1_0 h1_0k h1_0c h0 h0_0 h0_f1 h0_2 h0_0 h0_0k h0_0c)) (hS : va_S A s.heap H locs) (hl : lv_has ls 6 [(5, .int j65b_l5), (0, .ref h0)]), G H locs (F0 m 65 ls []) := by
    as_aux_lemma =>
    intro j65b_l5 j65b_h1_f2 j65b_h1_f3 g_h0_f1 g_h1_f1 g_h1_f2 g_h1_f3 g_j65b_h1_f2 g_j65b_h1_f3 g_j65b_l5 hEX H locs ls hP hD hS hl
    refine hG _ _ _ ?_
    refine lv_aload_n hx hb dX4_readAtom_65 rfl (lv_at hl 1 rfl) ?_
    refine lv_iload hx hb dX4_readAtom_66 (lv_at hl 0 rfl) ?_
    obtain ⟨hPc, hDc, hFc, hqc⟩ := cl_cut (wc := (wd_c_X4_emit_1 h0 h0_0 h0_f1 h0_2 h0_0 h0_0k h0_0c)) hP hD hS hA [2, 3] (by decide +kernel) rfl
    have hKc := hK.sub (tys' := [(h0_0k, .int)]) [1] rfl
    have hrv := va_recv hKc hPc (ci := 4) (q0 := 0) rfl rfl
    refine va_callv (va_runV (As := [.int j65b_l5]) (rest := []) ⟨hx, hb, hml, hown, hts⟩ (c_X4_emit_1 l dC dI H.size h0 j65b_l5 h0_0 h0_f1 h0_2 h0_0k h0_0c (RG_w g_j65b_l5 (by decide +kernel)) g_h0_f1) (cwV 1 hts gf_c_X4_readAtom_4_c_X4_emit_1 rfl rfl rfl mdV_X4_emit ⟨Nat.le_of_ble_eq_true rfl, Nat.le_of_ble_eq_true rfl⟩) ⟨fun a U g mk q => by obtain ⟨q0, q1, qP, qK, qD⟩ := q; exact ⟨q0, q1, qP, va_K.moved (u := U) (U := U.calling g mk a) (Vm.Alike.refl U.vm) qK, qD⟩, hrv, fun U hU hW => ⟨rfl, by rw [hU], by rw [hU]; exact hPc, va_K.moved hW.alike hKc, hDc.weaken (fun _ _ _ _ => trivial)⟩⟩ rfl rfl hl.1 rfl (lv_room (Nat.le_of_ble_eq_true rfl)) dX4_readAtom_68 ⟨Nat.le_of_ble_eq_true rfl, Nat.le_of_ble_eq_true rfl⟩) hS (fun q _ h => hFc q h) hFc (fun u t H1 locs ht hvm hw hB hz1 hk1 hS => ?_)
    obtain ⟨x_27, w_28⟩ := u
    obtain ⟨hP1, hK1, hD1⟩ := hB
    rw [ht] at hP1
    obtain ⟨hP, hD⟩ := cl_put (w1 := (wd_c_X4_emit_1 h0 h0_0 x_27 h0_2 h0_0 h0_0k w_28)) (nw := (wd_c_X4_readAtom_4 h1 h1_0 h1_f1 j65b_h1_f2 j65b_h1_f3 h1_0 h1_0k h1_0c h0 h0_0 x_27 h0_2 h0_0 h0_0k w_28)) hP hD [2, 3] [0, 1, 4, 5] 4 rfl hqc (by decide +kernel) rfl hk1 hFc hP1 hD1
    generalize H1 = H at hP hS ⊢
    as_aux_lemma =>
    rcases hw with ⟨h_29, h_30⟩
    have h_30 : (x_27, w_28) = _ := h_30
    replace hEX := hEX.trans (exc2_eq h_30)
    refine lv_goto (tgt := 105) hx hb dX4_readAtom_71 rfl ?_
    have hK9 := hK.sub (tys' := []) [] rfl
    exact W.vret hx hb hr (fun t ht hW => ⟨⟨(j65b_h1_f2, j65b_h1_f3, x_27, w_28), rfl, ⟨g_j65b_h1_f2, g_j65b_h1_f3, (RG_w h_29 (by decide +kernel)), (hR.trans hEX).symm⟩, by rw [ht]; exact hP, va_K.moved hW.alike hK9, hD⟩, hS.F ht⟩) hS.2.2 dX4_readAtom_105
  have J20b : ∀ (j20b_l3 : Int32) (j20b_h1_f2 : Int32) (g_h0_f1 : RG h0_f1 0 240) (g_h1_f1 : RG h1_f1 1 240) (g_h1_f2 : RG h1_f2 0 240) (g_h1_f3 : RG h1_f3 (-1) 240) (g_j20b_h1_f2 : RG j20b_h1_f2 0 239) (g_j20b_l3 : RG j20b_l3 0 255) (hEX : RES = fx_c_X4_readAtom_4_p20b h1_f1 h1_f3 h1_0c h0_f1 h0_0c j20b_l3 j20b_h1_f2) (H : Heap) (locs : List Loc) (ls : Array Slot) (hP : va_P (dC, dI) vwCl (wd_c_X4_readAtom_4 h1 h1_0 h1_f1 j20b_h1_f2 h1_f3 h1_0 h1_0k h1_0c h0 h0_0 h0_f1 h0_2 h0_0 h0_0k h0_0c) H) (hD : va_D A (wd_c_X4_readAtom_4 h1 h1_0 h1_f1 j20b_h1_f2 h1_f3 h1_0 h1_0k h1_0c h0 h0_0 h0_f1 h0_2 h0_0 h0_0k h0_0c)) (hS : va_S A s.heap H locs) (hl : lv_has ls 6 [(3, .int j20b_l3), (0, .ref h0), (1, .ref h1), (2, .int 4)]), G H locs (F0 m 20 ls [.int (-1)]) := by
    as_aux_lemma =>
    intro j20b_l3 j20b_h1_f2 g_h0_f1 g_h1_f1 g_h1_f2 g_h1_f3 g_j20b_h1_f2 g_j20b_l3 hEX H locs ls hP hD hS hl
    refine hG _ _ _ ?_
    refine lv_istore (lv' := [(4, .int (-1)), (3, .int j20b_l3), (0, .ref h0), (1, .ref h1), (2, .int 4)]) hx hb dX4_readAtom_20 hl (Nat.le_of_ble_eq_true rfl) rfl (fun ls hl => ?_)
    refine lv_iload hx hb dX4_readAtom_22 (lv_at hl 0 rfl) ?_
    refine lv_if_lt (tgt := 42) hx hb dX4_readAtom_24 rfl (fun c_31 => ?_) (fun c_31 => absurd c_31 (by decide +kernel))
    refine lv_iload_n hx hb dX4_readAtom_42 rfl (lv_at hl 1 rfl) ?_
    refine lv_bipush (v := 91) hx hb dX4_readAtom_43 kc_bipush_91 ?_
    refine lv_icmp_eq (tgt := 74) hx hb dX4_readAtom_45 rfl (fun c_32 => ?_) (fun c_32 => ?_)
    · replace hEX := hEX.trans (if_pos c_32)
      have g_33 : RG j20b_l3 91 91 := RG_eq1 g_j20b_l3 (RG_k 91 91 rfl) c_32 (by decide +kernel)
      refine lv_iload_n hx hb dX4_readAtom_74 rfl (lv_at hl 4 rfl) ?_
      refine lv_bipush (v := 6) hx hb dX4_readAtom_75 kc_bipush_6 ?_
      refine lv_icmp_lt (tgt := 87) hx hb dX4_readAtom_77 rfl (fun c_34 => ?_) (fun c_34 => absurd c_34 (by decide +kernel))
      refine lv_aload_n hx hb dX4_readAtom_87 rfl (lv_at hl 3 rfl) ?_
      as_aux_lemma =>
      obtain ⟨hPc, hDc, hFc, hqc⟩ := cl_cut (wc := (wd_c_X9_skip h1 h1_0 h1_f1 j20b_h1_f2 h1_f3)) hP hD hS hA [0] (by decide +kernel) rfl
      have hKc := hK.sub (tys' := []) [] rfl
      have hrv := va_recv hKc hPc (ci := 9) (q0 := 0) rfl rfl
      refine va_callv (va_runV (As := []) (rest := []) ⟨hx, hb, hml, hown, hts⟩ (c_X9_skip l dC dI H.size h1 h1_0 h1_f1 j20b_h1_f2 h1_f3 (RG_w g_h1_f1 (by decide +kernel)) g_j20b_h1_f2 g_h1_f3) (cwV 0 hts gf_c_X4_readAtom_4_c_X9_skip rfl rfl rfl mdV_X9_skip ⟨Nat.le_of_ble_eq_true rfl, Nat.le_of_ble_eq_true rfl⟩) ⟨fun a U g mk q => by obtain ⟨q0, q1, qP, qK, qD⟩ := q; exact ⟨q0, q1, qP, va_K.moved (u := U) (U := U.calling g mk a) (Vm.Alike.refl U.vm) qK, qD⟩, hrv, fun U hU hW => ⟨rfl, by rw [hU], by rw [hU]; exact hPc, va_K.moved hW.alike hKc, hDc.weaken (fun _ _ _ _ => trivial)⟩⟩ rfl rfl hl.1 rfl (lv_room (Nat.le_of_ble_eq_true rfl)) dX4_readAtom_88 ⟨Nat.le_of_ble_eq_true rfl, Nat.le_of_ble_eq_true rfl⟩) hS (fun q _ h => hFc q h) hFc (fun x_36 t H1 locs ht hvm hw hB hz1 hk1 hS => ?_)
      obtain ⟨hP1, hK1, hD1⟩ := hB
      rw [ht] at hP1
      obtain ⟨hP, hD⟩ := cl_put (w1 := (wd_c_X9_skip h1 h1_0 h1_f1 x_36 h1_f3)) (nw := (wd_c_X4_readAtom_4 h1 h1_0 h1_f1 x_36 h1_f3 h1_0 h1_0k h1_0c h0 h0_0 h0_f1 h0_2 h0_0 h0_0k h0_0c)) hP hD [0] [4, 1, 2, 3] 4 rfl hqc (by decide +kernel) rfl hk1 hFc hP1 hD1
      generalize H1 = H at hP hS ⊢
      as_aux_lemma =>
      rcases hw with ⟨h_37, h_38, h_39, h_40⟩
      have h_40 : x_36 = _ := h_40
      replace hEX := hEX.trans (exc1_eq h_40)
      refine lv_aload_n hx hb dX4_readAtom_91 rfl (lv_at hl 2 rfl) ?_
      refine lv_aload_n hx hb dX4_readAtom_92 rfl (lv_at hl 3 rfl) ?_
      refine lv_iload_n hx hb dX4_readAtom_93 rfl (lv_at hl 4 rfl) ?_
      refine lv_iconst (v := 1) hx hb dX4_readAtom_94 kc_iconst_1 ?_
      refine lv_iadd hx hb dX4_readAtom_95 ?_
      refine lv_topi (fun x_41 ex_41 => ?_)
      obtain rfl : x_41 = 5 := ex_41.trans (by decide +kernel)
      obtain ⟨hPc, hDc, hFc, hqc⟩ := cl_cut (wc := (wd_c_X4_readSum_5 h1 h1_0 h1_f1 x_36 h1_f3 h1_0 h1_0k h1_0c h0 h0_0 h0_f1 h0_2 h0_0 h0_0k h0_0c)) hP hD hS hA [0, 1, 2, 3] (by decide +kernel) rfl
      have hKc := hK.sub (tys' := [(h1_0k, .int), (h0_0k, .int)]) [0, 1] rfl
      have hrv := va_recv hKc hPc (ci := 4) (q0 := 2) rfl rfl
      refine va_callv (va_runV (As := [.ref h1, .int 5]) (rest := []) ⟨hx, hb, hml, hown, hts⟩ (c_X4_readSum_5 l dC dI H.size h0 h1 h1_0 h1_f1 x_36 h1_f3 h1_0k h1_0c h0_0 h0_f1 h0_2 h0_0k h0_0c ts4 tv4 (RG_w g_h1_f1 (by decide +kernel)) (RG_w h_37 (by decide +kernel)) g_h1_f3 a_h1_0c g_h0_f1) (cwV 2 hts gf_c_X4_readAtom_4_c_X4_readSum_5 rfl rfl rfl mdV_X4_readSum ⟨Nat.le_of_ble_eq_true rfl, Nat.le_of_ble_eq_true rfl⟩) ⟨fun a U g mk q => by obtain ⟨q0, q1, qP, qK, qD, qE0, qE1, qE2, qE3, qE4, qE5⟩ := q; exact ⟨q0, q1, qP, va_K.moved (u := U) (U := U.calling g mk a) (Vm.Alike.refl U.vm) qK, qD, vk_R.same rfl qE0, va_Z.moved (u := U) (U := U.calling g mk a) (Vm.Alike.refl U.vm) qE1, va_OF.moved (u := U) (U := U.calling g mk a) (Vm.Alike.refl U.vm) qE2, va_O.moved (u := U) (U := U.calling g mk a) (Vm.Alike.refl U.vm) qE3, va_OF.moved (u := U) (U := U.calling g mk a) (Vm.Alike.refl U.vm) qE4, va_T.moved (u := U) (U := U.calling g mk a) (Vm.Alike.refl U.vm) qE5⟩, hrv, fun U hU hW => ⟨rfl, by rw [hU], by rw [hU]; exact hPc, va_K.moved hW.alike hKc, hDc.weaken (fun _ _ _ _ => trivial), vk_R.warm hW hE_32, va_Z.moved hW.alike (by rw [hU]; exact (hE_10.kept hS.2.1).narrow hFc), va_OF.moved hW.alike (by rw [hU]; exact (hE_34.kept hS.2.1).narrow hFc), va_O.moved hW.alike (by rw [hU]; exact (hE_33.kept hS.2.1).narrow hFc), va_OF.moved hW.alike (by rw [hU]; exact (hE_35.kept hS.2.1).narrow hFc), va_T.moved hW.alike (by rw [hU]; exact (hE_36.kept hS.2.1).narrow hFc)⟩⟩ rfl rfl hl.1 rfl (lv_room (Nat.le_of_ble_eq_true rfl)) dX4_readAtom_96 ⟨Nat.le_of_ble_eq_true rfl, Nat.le_of_ble_eq_true rfl⟩) hS (fun q _ h => hFc q h) hFc (fun u t H1 locs ht hvm hw hB hz1 hk1 hS => ?_)
      as_aux_lemma =>
      obtain ⟨x_43, x_44, x_45, w_46⟩ := u
      obtain ⟨hP1, hK1, hD1⟩ := hB
      rw [ht] at hP1
      obtain ⟨hP, hD⟩ := cl_put (w1 := (wd_c_X4_readSum_5 h1 h1_0 h1_f1 x_43 x_44 h1_0 h1_0k h1_0c h0 h0_0 x_45 h0_2 h0_0 h0_0k w_46)) (nw := (wd_c_X4_readAtom_4 h1 h1_0 h1_f1 x_43 x_44 h1_0 h1_0k h1_0c h0 h0_0 x_45 h0_2 h0_0 h0_0k w_46)) hP hD [0, 1, 2, 3] [4, 5, 6, 7] 4 rfl hqc (by decide +kernel) rfl hk1 hFc hP1 hD1
      generalize H1 = H at hP hS ⊢
      as_aux_lemma =>
      rcases hw with ⟨h_47, h_48, h_49, h_50⟩
      have h_50 : (x_43, x_44, x_45, w_46) = _ := h_50
      replace hEX := hEX.trans (exc4_eq h_50)
      refine lv_aload_n hx hb dX4_readAtom_99 rfl (lv_at hl 3 rfl) ?_
      refine lv_bipush (v := 93) hx hb dX4_readAtom_100 kc_bipush_93 ?_
      obtain ⟨hPc, hDc, hFc, hqc⟩ := cl_cut (wc := (wd_c_X9_expect_2 h1 h1_0 h1_f1 x_43 x_44 h1_0 h1_0k h1_0c)) hP hD hS hA [0, 1] (by decide +kernel) rfl
      have hKc := hK.sub (tys' := [(h1_0k, .int)]) [0] rfl
      have hrv := va_recv hKc hPc (ci := 9) (q0 := 0) rfl rfl
      refine va_callv (va_runV (As := [.int 93]) (rest := []) ⟨hx, hb, hml, hown, hts⟩ (c_X9_expect_2 l dC dI H.size h1 93 h1_0 h1_f1 x_43 x_44 h1_0k h1_0c (RG_w (RG_k 93 93 rfl) (by decide +kernel)) (RG_w g_h1_f1 (by decide +kernel)) h_47 h_48 a_h1_0c) (cwV 1 hts gf_c_X4_readAtom_4_c_X9_expect_2 rfl rfl rfl mdV_X9_expect ⟨Nat.le_of_ble_eq_true rfl, Nat.le_of_ble_eq_true rfl⟩) ⟨fun a U g mk q => by obtain ⟨q0, q1, qP, qK, qD⟩ := q; exact ⟨q0, q1, qP, va_K.moved (u := U) (U := U.calling g mk a) (Vm.Alike.refl U.vm) qK, qD⟩, hrv, fun U hU hW => ⟨rfl, by rw [hU], by rw [hU]; exact hPc, va_K.moved hW.alike hKc, hDc.weaken (fun _ _ _ _ => trivial)⟩⟩ rfl rfl hl.1 rfl (lv_room (Nat.le_of_ble_eq_true rfl)) dX4_readAtom_102 ⟨Nat.le_of_ble_eq_true rfl, Nat.le_of_ble_eq_true rfl⟩) hS (fun q _ h => hFc q h) hFc (fun u t H1 locs ht hvm hw hB hz1 hk1 hS => ?_)
      obtain ⟨x_52, x_53⟩ := u
      obtain ⟨hP1, hK1, hD1⟩ := hB
      rw [ht] at hP1
      obtain ⟨hP, hD⟩ := cl_put (w1 := (wd_c_X9_expect_2 h1 h1_0 h1_f1 x_52 x_53 h1_0 h1_0k h1_0c)) (nw := (wd_c_X4_readAtom_4 h1 h1_0 h1_f1 x_52 x_53 h1_0 h1_0k h1_0c h0 h0_0 x_45 h0_2 h0_0 h0_0k w_46)) hP hD [0, 1] [4, 5, 2, 3] 4 rfl hqc (by decide +kernel) rfl hk1 hFc hP1 hD1
      generalize H1 = H at hP hS ⊢
      as_aux_lemma =>
      rcases hw with ⟨h_54, h_55, h_56, h_57⟩
      have h_57 : (x_52, x_53) = _ := h_57
      replace hEX := hEX.trans (exc2_eq h_57)
      have hK9 := hK.sub (tys' := []) [] rfl
      exact W.vret hx hb hr (fun t ht hW => ⟨⟨(x_52, x_53, x_45, w_46), rfl, ⟨h_54, h_55, h_49, (hR.trans hEX).symm⟩, by rw [ht]; exact hP, va_K.moved hW.alike hK9, hD⟩, hS.F ht⟩) hS.2.2 dX4_readAtom_105
    · replace hEX := hEX.trans (if_neg c_32)
      refine lv_aload_n hx hb dX4_readAtom_48 rfl (lv_at hl 3 rfl) ?_
      refine lv_iconst (v := 4) hx hb dX4_readAtom_49 kc_iconst_4 ?_
      obtain ⟨hPc, hDc, hFc, hqc⟩ := cl_cut (wc := (wd_c_X9_number_1 h1 h1_0 h1_f1 j20b_h1_f2 h1_f3 h1_0 h1_0k h1_0c)) hP hD hS hA [0, 1] (by decide +kernel) rfl
      have hKc := hK.sub (tys' := [(h1_0k, .int)]) [0] rfl
      have hrv := va_recv hKc hPc (ci := 9) (q0 := 0) rfl rfl
      refine va_calli (va_runV (As := [.int 4]) (rest := []) ⟨hx, hb, hml, hown, hts⟩ (c_X9_number_1 l dC dI H.size h1 h1_0 h1_f1 j20b_h1_f2 h1_f3 h1_0k h1_0c (RG_w g_h1_f1 (by decide +kernel)) (RG_w g_j20b_h1_f2 (by decide +kernel)) g_h1_f3 a_h1_0c) (cwV 1 hts gf_c_X4_readAtom_4_c_X9_number_1 rfl rfl rfl mdV_X9_number ⟨Nat.le_of_ble_eq_true rfl, Nat.le_of_ble_eq_true rfl⟩) ⟨fun a U g mk q => by obtain ⟨q0, q1, qP, qK, qD⟩ := q; exact ⟨q0, q1, qP, va_K.moved (u := U) (U := U.calling g mk a) (Vm.Alike.refl U.vm) qK, qD⟩, hrv, fun U hU hW => ⟨rfl, by rw [hU], by rw [hU]; exact hPc, va_K.moved hW.alike hKc, hDc.weaken (fun _ _ _ _ => trivial)⟩⟩ rfl rfl hl.1 rfl (lv_room (Nat.le_of_ble_eq_true rfl)) dX4_readAtom_50 ⟨Nat.le_of_ble_eq_true rfl, Nat.le_of_ble_eq_true rfl⟩) hS (fun q _ h => hFc q h) hFc (fun r_58 x_59 t H1 locs ht hvm hw hB hz1 hk1 hS => ?_)
      obtain ⟨hP1, hK1, hD1⟩ := hB
      rw [ht] at hP1
      obtain ⟨hP, hD⟩ := cl_put (w1 := (wd_c_X9_number_1 h1 h1_0 h1_f1 x_59 h1_f3 h1_0 h1_0k h1_0c)) (nw := (wd_c_X4_readAtom_4 h1 h1_0 h1_f1 x_59 h1_f3 h1_0 h1_0k h1_0c h0 h0_0 h0_f1 h0_2 h0_0 h0_0k h0_0c)) hP hD [0, 1] [4, 5, 2, 3] 4 rfl hqc (by decide +kernel) rfl hk1 hFc hP1 hD1
      generalize H1 = H at hP hS ⊢
      as_aux_lemma =>
      rcases hw with ⟨h_60, h_61, h_62, h_63⟩ | ⟨h_64, h_65, h_66, h_67, h_68, h_69⟩
      · have h_63 : (r_58, x_59) = _ := h_63
        replace hEX := hEX.trans (exc2_eq h_63)
        replace hEX := hEX.trans (if_pos (show r_58 = (-1) from h_60))
        rw [h_60]
        refine lv_istore (lv' := [(5, .int (-1)), (4, .int (-1)), (3, .int j20b_l3), (0, .ref h0), (1, .ref h1), (2, .int 4)]) hx hb dX4_readAtom_53 hl (Nat.le_of_ble_eq_true rfl) rfl (fun ls hl => ?_)
        refine lv_iload hx hb dX4_readAtom_55 (lv_at hl 0 rfl) ?_
        refine lv_iconst (v := (-1)) hx hb dX4_readAtom_57 kc_iconst_m1 ?_
        refine lv_icmp_ne (tgt := 65) hx hb dX4_readAtom_58 rfl (fun c_70 => absurd c_70 (by decide +kernel)) (fun c_70 => ?_)
        refine lv_aload_n hx hb dX4_readAtom_61 rfl (lv_at hl 4 rfl) ?_
        obtain ⟨hPc, hDc, hFc, hqc⟩ := cl_cut (wc := (wd_c_X9_refuseHere h1 h1_0 h1_f1 x_59 h1_f3)) hP hD hS hA [0] (by decide +kernel) rfl
        have hKc := hK.sub (tys' := []) [] rfl
        have hrv := va_recv hKc hPc (ci := 9) (q0 := 0) rfl rfl
        refine va_callv (va_runV (As := []) (rest := []) ⟨hx, hb, hml, hown, hts⟩ (c_X9_refuseHere l dC dI H.size h1 h1_0 h1_f1 x_59 h1_f3 (RG_w g_h1_f1 (by decide +kernel)) h_61 g_h1_f3) (cwV 0 hts gf_c_X4_readAtom_4_c_X9_refuseHere rfl rfl rfl mdV_X9_refuseHere ⟨Nat.le_of_ble_eq_true rfl, Nat.le_of_ble_eq_true rfl⟩) ⟨fun a U g mk q => by obtain ⟨q0, q1, qP, qK, qD⟩ := q; exact ⟨q0, q1, qP, va_K.moved (u := U) (U := U.calling g mk a) (Vm.Alike.refl U.vm) qK, qD⟩, hrv, fun U hU hW => ⟨rfl, by rw [hU], by rw [hU]; exact hPc, va_K.moved hW.alike hKc, hDc.weaken (fun _ _ _ _ => trivial)⟩⟩ rfl rfl hl.1 rfl (lv_room (Nat.le_of_ble_eq_true rfl)) dX4_readAtom_62 ⟨Nat.le_of_ble_eq_true rfl, Nat.le_of_ble_eq_true rfl⟩) hS (fun q _ h => hFc q h) hFc (fun x_72 t H1 locs ht hvm hw hB hz1 hk1 hS => ?_)
        as_aux_lemma =>
        obtain ⟨hP1, hK1, hD1⟩ := hB
        rw [ht] at hP1
        obtain ⟨hP, hD⟩ := cl_put (w1 := (wd_c_X9_refuseHere h1 h1_0 h1_f1 x_59 x_72)) (nw := (wd_c_X4_readAtom_4 h1 h1_0 h1_f1 x_59 x_72 h1_0 h1_0k h1_0c h0 h0_0 h0_f1 h0_2 h0_0 h0_0k h0_0c)) hP hD [0] [4, 1, 2, 3] 4 rfl hqc (by decide +kernel) rfl hk1 hFc hP1 hD1
        generalize H1 = H at hP hS ⊢
        as_aux_lemma =>
        rcases hw with ⟨h_73, h_74⟩
        have h_74 : x_72 = _ := h_74
        replace hEX := hEX.trans (exc1_eq h_74)
        exact hU _ _ _ (J65b (-1) x_59 x_72 g_h0_f1 g_h1_f1 g_h1_f2 g_h1_f3 h_61 (RG_w h_73 (by decide +kernel)) (RG_w (RG_k (-1) (-1) rfl) (by decide +kernel)) hEX _ _ _ hP hD hS (lv_sub hl [0, 3] rfl))
      · have h_69 : (r_58, x_59) = _ := h_69
        replace hEX := hEX.trans (exc2_eq h_69)
        replace hEX := hEX.trans (if_neg (RG_neq (x := r_58) (c := (-1)) (show RG r_58 0 9999 from h_64) (by decide +kernel)))
        refine lv_istore (lv' := [(5, .int r_58), (4, .int (-1)), (3, .int j20b_l3), (0, .ref h0), (1, .ref h1), (2, .int 4)]) hx hb dX4_readAtom_53 hl (Nat.le_of_ble_eq_true rfl) rfl (fun ls hl => ?_)
        refine lv_iload hx hb dX4_readAtom_55 (lv_at hl 0 rfl) ?_
        refine lv_iconst (v := (-1)) hx hb dX4_readAtom_57 kc_iconst_m1 ?_
        refine lv_icmp_ne (tgt := 65) hx hb dX4_readAtom_58 rfl (fun c_75 => ?_) (fun c_75 => ?_)
        · replace hEX := hEX.trans (if_neg c_75)
          exact hU _ _ _ (J65b r_58 x_59 h1_f3 g_h0_f1 g_h1_f1 g_h1_f2 g_h1_f3 (RG_w h_65 (by decide +kernel)) g_h1_f3 (RG_w h_64 (by decide +kernel)) hEX _ _ _ hP hD hS (lv_sub hl [0, 3] rfl))
        · replace hEX := hEX.trans (if_pos c_75)
          exact RG_dead (RG_eq1 h_64 (RG_k (-1) (-1) rfl) c_75 (a' := 0) (b' := (-1)) (by decide +kernel)) (by decide +kernel)
  have J20c : ∀ (j20c_l3 : Int32) (j20c_s0 : Int32) (j20c_h1_f2 : Int32) (g_h0_f1 : RG h0_f1 0 240) (g_h1_f1 : RG h1_f1 1 240) (g_h1_f2 : RG h1_f2 0 240) (g_h1_f3 : RG h1_f3 (-1) 240) (g_j20c_h1_f2 : RG j20c_h1_f2 0 239) (g_j20c_l3 : RG j20c_l3 0 255) (g_j20c_s0 : RG j20c_s0 0 5) (hEX : RES = fx_c_X4_readAtom_4_p20c h1_f3 h0_f1 h0_0c j20c_s0 j20c_h1_f2) (H : Heap) (locs : List Loc) (ls : Array Slot) (hP : va_P (dC, dI) vwCl (wd_c_X4_readAtom_4 h1 h1_0 h1_f1 j20c_h1_f2 h1_f3 h1_0 h1_0k h1_0c h0 h0_0 h0_f1 h0_2 h0_0 h0_0k h0_0c) H) (hD : va_D A (wd_c_X4_readAtom_4 h1 h1_0 h1_f1 j20c_h1_f2 h1_f3 h1_0 h1_0k h1_0c h0 h0_0 h0_f1 h0_2 h0_0 h0_0k h0_0c)) (hS : va_S A s.heap H locs) (hl : lv_has ls 6 [(3, .int j20c_l3), (0, .ref h0), (1, .ref h1), (2, .int 4)]), G H locs (F0 m 20 ls [.int j20c_s0]) := by
    as_aux_lemma =>
    intro j20c_l3 j20c_s0 j20c_h1_f2 g_h0_f1 g_h1_f1 g_h1_f2 g_h1_f3 g_j20c_h1_f2 g_j20c_l3 g_j20c_s0 hEX H locs ls hP hD hS hl
    refine hG _ _ _ ?_
    refine lv_istore (lv' := [(4, .int j20c_s0), (3, .int j20c_l3), (0, .ref h0), (1, .ref h1), (2, .int 4)]) hx hb dX4_readAtom_20 hl (Nat.le_of_ble_eq_true rfl) rfl (fun ls hl => ?_)
    refine lv_iload hx hb dX4_readAtom_22 (lv_at hl 0 rfl) ?_
    refine lv_if_lt (tgt := 42) hx hb dX4_readAtom_24 rfl (fun c_76 => ?_) (fun c_76 => ?_)
    · replace hEX := hEX.trans (if_pos c_76)
      have g_77 : RG j20c_s0 0 (-1) := RG_lt1 g_j20c_s0 (RG_k 0 0 rfl) c_76 (by decide +kernel)
      exact RG_dead (RG_lt1 g_j20c_s0 (RG_k 0 0 rfl) c_76 (b' := (-1)) (by decide +kernel)) (by decide +kernel)
    · replace hEX := hEX.trans (if_neg c_76)
      have d_78 := Int32.not_lt.mp c_76
      refine lv_aload_n hx hb dX4_readAtom_27 rfl (lv_at hl 3 rfl) ?_
      obtain ⟨hPc, hDc, hFc, hqc⟩ := cl_cut (wc := (wd_c_X9_skip h1 h1_0 h1_f1 j20c_h1_f2 h1_f3)) hP hD hS hA [0] (by decide +kernel) rfl
      have hKc := hK.sub (tys' := []) [] rfl
      have hrv := va_recv hKc hPc (ci := 9) (q0 := 0) rfl rfl
      refine va_callv (va_runV (As := []) (rest := []) ⟨hx, hb, hml, hown, hts⟩ (c_X9_skip l dC dI H.size h1 h1_0 h1_f1 j20c_h1_f2 h1_f3 (RG_w g_h1_f1 (by decide +kernel)) g_j20c_h1_f2 g_h1_f3) (cwV 0 hts gf_c_X4_readAtom_4_c_X9_skip rfl rfl rfl mdV_X9_skip ⟨Nat.le_of_ble_eq_true rfl, Nat.le_of_ble_eq_true rfl⟩) ⟨fun a U g mk q => by obtain ⟨q0, q1, qP, qK, qD⟩ := q; exact ⟨q0, q1, qP, va_K.moved (u := U) (U := U.calling g mk a) (Vm.Alike.refl U.vm) qK, qD⟩, hrv, fun U hU hW => ⟨rfl, by rw [hU], by rw [hU]; exact hPc, va_K.moved hW.alike hKc, hDc.weaken (fun _ _ _ _ => trivial)⟩⟩ rfl rfl hl.1 rfl (lv_room (Nat.le_of_ble_eq_true rfl)) dX4_readAtom_28 ⟨Nat.le_of_ble_eq_true rfl, Nat.le_of_ble_eq_true rfl⟩) hS (fun q _ h => hFc q h) hFc (fun x_80 t H1 locs ht hvm hw hB hz1 hk1 hS => ?_)
      as_aux_lemma =>
      obtain ⟨hP1, hK1, hD1⟩ := hB
      rw [ht] at hP1
      obtain ⟨hP, hD⟩ := cl_put (w1 := (wd_c_X9_skip h1 h1_0 h1_f1 x_80 h1_f3)) (nw := (wd_c_X4_readAtom_4 h1 h1_0 h1_f1 x_80 h1_f3 h1_0 h1_0k h1_0c h0 h0_0 h0_f1 h0_2 h0_0 h0_0k h0_0c)) hP hD [0] [4, 1, 2, 3] 4 rfl hqc (by decide +kernel) rfl hk1 hFc hP1 hD1
      generalize H1 = H at hP hS ⊢
      as_aux_lemma =>
      rcases hw with ⟨h_81, h_82, h_83, h_84⟩
      have h_84 : x_80 = _ := h_84
      replace hEX := hEX.trans (exc1_eq h_84)
      refine lv_aload_n hx hb dX4_readAtom_31 rfl (lv_at hl 2 rfl) ?_
      refine lv_iconst (v := (-1)) hx hb dX4_readAtom_32 kc_iconst_m1 ?_
      refine lv_iload hx hb dX4_readAtom_33 (lv_at hl 0 rfl) ?_
      refine lv_isub hx hb dX4_readAtom_35 ?_
      refine lv_topi (fun x_85 ex_85 => ?_)
      replace hEX := hEX.trans (exl_eq ex_85)
      have g_86 : RG x_85 (-6) (-1) := RG_sub ex_85 (RG_k (-1) (-1) rfl) g_j20c_s0 (by decide +kernel)
      obtain ⟨hPc, hDc, hFc, hqc⟩ := cl_cut (wc := (wd_c_X4_emit h0 h0_0 h0_f1 h0_2 h0_0 h0_0k h0_0c)) hP hD hS hA [2, 3] (by decide +kernel) rfl
      have hKc := hK.sub (tys' := [(h0_0k, .int)]) [1] rfl
      have hrv := va_recv hKc hPc (ci := 4) (q0 := 0) rfl rfl
      refine va_callv (va_runV (As := [.int x_85]) (rest := []) ⟨hx, hb, hml, hown, hts⟩ (c_X4_emit l dC dI H.size h0 x_85 h0_0 h0_f1 h0_2 h0_0k h0_0c g_h0_f1) (cwV 1 hts gf_c_X4_readAtom_4_c_X4_emit rfl rfl rfl mdV_X4_emit ⟨Nat.le_of_ble_eq_true rfl, Nat.le_of_ble_eq_true rfl⟩) ⟨fun a U g mk q => by obtain ⟨q0, q1, qP, qK, qD⟩ := q; exact ⟨q0, q1, qP, va_K.moved (u := U) (U := U.calling g mk a) (Vm.Alike.refl U.vm) qK, qD⟩, hrv, fun U hU hW => ⟨rfl, by rw [hU], by rw [hU]; exact hPc, va_K.moved hW.alike hKc, hDc.weaken (fun _ _ _ _ => trivial)⟩⟩ rfl rfl hl.1 rfl (lv_room (Nat.le_of_ble_eq_true rfl)) dX4_readAtom_36 ⟨Nat.le_of_ble_eq_true rfl, Nat.le_of_ble_eq_true rfl⟩) hS (fun q _ h => hFc q h) hFc (fun u t H1 locs ht hvm hw hB hz1 hk1 hS => ?_)
      as_aux_lemma =>
      obtain ⟨x_88, w_89⟩ := u
      obtain ⟨hP1, hK1, hD1⟩ := hB
      rw [ht] at hP1
      obtain ⟨hP, hD⟩ := cl_put (w1 := (wd_c_X4_emit h0 h0_0 x_88 h0_2 h0_0 h0_0k w_89)) (nw := (wd_c_X4_readAtom_4 h1 h1_0 h1_f1 x_80 h1_f3 h1_0 h1_0k h1_0c h0 h0_0 x_88 h0_2 h0_0 h0_0k w_89)) hP hD [2, 3] [0, 1, 4, 5] 4 rfl hqc (by decide +kernel) rfl hk1 hFc hP1 hD1
      generalize H1 = H at hP hS ⊢
      as_aux_lemma =>
      rcases hw with ⟨h_90, h_91⟩
      have h_91 : (x_88, w_89) = _ := h_91
      replace hEX := hEX.trans (exc2_eq h_91)
      refine lv_goto (tgt := 105) hx hb dX4_readAtom_39 rfl ?_
      have hK9 := hK.sub (tys' := []) [] rfl
      exact W.vret hx hb hr (fun t ht hW => ⟨⟨(x_80, h1_f3, x_88, w_89), rfl, ⟨(RG_w h_81 (by decide +kernel)), g_h1_f3, (RG_w h_90 (by decide +kernel)), (hR.trans hEX).symm⟩, by rw [ht]; exact hP, va_K.moved hW.alike hK9, hD⟩, hS.F ht⟩) hS.2.2 dX4_readAtom_105
  refine hG _ _ _ ?_
  refine lv_aload_n hx hb dX4_readAtom_0 rfl (lv_at hl 1 rfl) ?_
  obtain ⟨hPc, hDc, hFc, hqc⟩ := cl_cut (wc := (wd_c_X9_peek h1 h1_0 h1_f1 h1_f2 h1_f3 h1_0 h1_0k h1_0c)) hP hD hS hA [0, 1] (by decide +kernel) rfl
  have hKc := hK.sub (tys' := [(h1_0k, .int)]) [0] rfl
  have hrv := va_recv hKc hPc (ci := 9) (q0 := 0) rfl rfl
  refine va_calli (va_runV (As := []) (rest := []) ⟨hx, hb, hml, hown, hts⟩ (c_X9_peek l dC dI H.size h1 h1_0 h1_f1 h1_f2 h1_f3 h1_0k h1_0c g_h1_f1 g_h1_f2 g_h1_f3 a_h1_0c) (cwV 0 hts gf_c_X4_readAtom_4_c_X9_peek rfl rfl rfl mdV_X9_peek ⟨Nat.le_of_ble_eq_true rfl, Nat.le_of_ble_eq_true rfl⟩) ⟨fun a U g mk q => by obtain ⟨q0, q1, qP, qK, qD⟩ := q; exact ⟨q0, q1, qP, va_K.moved (u := U) (U := U.calling g mk a) (Vm.Alike.refl U.vm) qK, qD⟩, hrv, fun U hU hW => ⟨rfl, by rw [hU], by rw [hU]; exact hPc, va_K.moved hW.alike hKc, hDc.weaken (fun _ _ _ _ => trivial)⟩⟩ rfl rfl hl.1 rfl (lv_room (Nat.le_of_ble_eq_true rfl)) dX4_readAtom_1 ⟨Nat.le_of_ble_eq_true rfl, Nat.le_of_ble_eq_true rfl⟩) hS (fun q _ h => hFc q h) hFc (fun r_92 x_93 t H1 locs ht hvm hw hB hz1 hk1 hS => ?_)
  obtain ⟨hP1, hK1, hD1⟩ := hB
  rw [ht] at hP1
  obtain ⟨hP, hD⟩ := cl_put (w1 := (wd_c_X9_peek h1 h1_0 h1_f1 x_93 h1_f3 h1_0 h1_0k h1_0c)) (nw := (wd_c_X4_readAtom_4 h1 h1_0 h1_f1 x_93 h1_f3 h1_0 h1_0k h1_0c h0 h0_0 h0_f1 h0_2 h0_0 h0_0k h0_0c)) hP hD [0, 1] [4, 5, 2, 3] 4 rfl hqc (by decide +kernel) rfl hk1 hFc hP1 hD1
  generalize H1 = H at hP hS ⊢
  as_aux_lemma =>
  rcases hw with ⟨h_94, h_95, h_96, h_97⟩ | ⟨h_98, h_99, h_100, h_101, h_102⟩
  · have h_97 : (r_92, x_93) = _ := h_97
    replace hEX := hEX.trans (exc2_eq h_97)
    replace hEX := hEX.trans (if_pos (show r_92 = (-1) from h_94))
    rw [h_94]
    refine lv_istore_n (lv' := [(3, .int (-1)), (0, .ref h0), (1, .ref h1), (2, .int 4)]) hx hb dX4_readAtom_4 rfl hl (Nat.le_of_ble_eq_true rfl) rfl (fun ls hl => ?_)
    refine lv_iload_n hx hb dX4_readAtom_5 rfl (lv_at hl 0 rfl) ?_
    refine lv_if_ge (tgt := 13) hx hb dX4_readAtom_6 rfl (fun c_103 => absurd c_103 (by decide +kernel)) (fun c_103 => ?_)
    refine lv_iconst (v := (-1)) hx hb dX4_readAtom_9 kc_iconst_m1 ?_
    refine lv_goto (tgt := 20) hx hb dX4_readAtom_10 rfl ?_
    exact hU _ _ _ (J20 x_93 g_h0_f1 g_h1_f1 g_h1_f2 g_h1_f3 h_95 hEX _ _ _ hP hD hS (lv_sub hl [0, 1, 2, 3] rfl))
  · have h_102 : (r_92, x_93) = _ := h_102
    replace hEX := hEX.trans (exc2_eq h_102)
    replace hEX := hEX.trans (if_neg (RG_neq (x := r_92) (c := (-1)) (show RG r_92 0 255 from h_98) (by decide +kernel)))
    refine lv_istore_n (lv' := [(3, .int r_92), (0, .ref h0), (1, .ref h1), (2, .int 4)]) hx hb dX4_readAtom_4 rfl hl (Nat.le_of_ble_eq_true rfl) rfl (fun ls hl => ?_)
    as_aux_lemma =>
    refine lv_iload_n hx hb dX4_readAtom_5 rfl (lv_at hl 0 rfl) ?_
    refine lv_if_ge (tgt := 13) hx hb dX4_readAtom_6 rfl (fun c_104 => ?_) (fun c_104 => ?_)
    · replace hEX := hEX.trans (if_pos c_104)
      refine va_ldcS hx hb hown hE_32 dX4_readAtom_13 ?_
      refine lv_iload_n hx hb dX4_readAtom_15 rfl (lv_at hl 0 rfl) ?_
      refine lv_i2c hx hb dX4_readAtom_16 rfl ?_
      refine lv_topi (fun x_105 ex_105 => ?_)
      replace hEX := hEX.trans (exl_eq ex_105)
      have g_106 : RG x_105 0 65535 := RG_i2c ex_105
      obtain ⟨hPc, hDc, hFc, hqc⟩ := cl_cut (wc := []) hP hD hS hA [] (by decide +kernel) rfl
      have hKc := hK.sub (tys' := []) [] rfl
      have hrv := bv_Orecv hE_33 hS
      refine va_calli (va_runV (As := [.int x_105]) (rest := []) ⟨hx, hb, hml, hown, hts⟩ (c_J0_indexOf_0f7a4_4 l dC dI H.size ts4 x_105 tv4 g_106) (cwV 1 hts gf_c_X4_readAtom_4_c_J0_indexOf_0f7a4_4 rfl rfl rfl mdV_J0_indexOf_0f7a4 ⟨Nat.le_of_ble_eq_true rfl, Nat.le_of_ble_eq_true rfl⟩) ⟨fun a U g mk q => by obtain ⟨q0, q1, qP, qK, qD, qE0, qE1, qE2, qE3, qE4⟩ := q; exact ⟨q0, q1, qP, va_K.moved (u := U) (U := U.calling g mk a) (Vm.Alike.refl U.vm) qK, qD, va_Z.moved (u := U) (U := U.calling g mk a) (Vm.Alike.refl U.vm) qE0, va_OF.moved (u := U) (U := U.calling g mk a) (Vm.Alike.refl U.vm) qE1, va_O.moved (u := U) (U := U.calling g mk a) (Vm.Alike.refl U.vm) qE2, va_OF.moved (u := U) (U := U.calling g mk a) (Vm.Alike.refl U.vm) qE3, va_T.moved (u := U) (U := U.calling g mk a) (Vm.Alike.refl U.vm) qE4⟩, hrv, fun U hU hW => ⟨rfl, by rw [hU], by rw [hU]; exact hPc, va_K.moved hW.alike hKc, hDc.weaken (fun _ _ _ _ => trivial), va_Z.moved hW.alike (by rw [hU]; exact (hE_10.kept hS.2.1).narrow hFc), va_OF.moved hW.alike (by rw [hU]; exact (hE_34.kept hS.2.1).narrow hFc), va_O.moved hW.alike (by rw [hU]; exact (hE_33.kept hS.2.1).narrow hFc), va_OF.moved hW.alike (by rw [hU]; exact (hE_35.kept hS.2.1).narrow hFc), va_T.moved hW.alike (by rw [hU]; exact (hE_36.kept hS.2.1).narrow hFc)⟩⟩ rfl rfl hl.1 rfl (lv_room (Nat.le_of_ble_eq_true rfl)) dX4_readAtom_17 ⟨Nat.le_of_ble_eq_true rfl, Nat.le_of_ble_eq_true rfl⟩) hS (fun q _ h => hFc q h) hFc (fun r_107 u t H1 locs ht hvm hw hB hz1 hk1 hS => ?_)
      obtain ⟨hP1, hK1, hD1⟩ := hB
      rw [ht] at hP1
      have hP := bv_still hP hk1
      generalize H1 = H at hP hS ⊢
      as_aux_lemma =>
      rcases hw with ⟨h_108, h_109⟩ | ⟨h_110, h_111, h_112⟩
      · have h_109 : r_107 = _ := h_109
        replace hEX := hEX.trans (exc1_eq h_109)
        replace hEX := hEX.trans (if_pos (show r_107 = (-1) from h_108))
        rw [h_108]
        exact hU _ _ _ (J20b r_92 x_93 g_h0_f1 h_100 g_h1_f2 g_h1_f3 h_99 h_98 hEX _ _ _ hP hD hS (lv_sub hl [0, 1, 2, 3] rfl))
      · have h_112 : r_107 = _ := h_112
        replace hEX := hEX.trans (exc1_eq h_112)
        replace hEX := hEX.trans (if_neg (RG_neq (x := r_107) (c := (-1)) (show RG r_107 0 5 from h_110) (by decide +kernel)))
        exact hU _ _ _ (J20c r_92 r_107 x_93 g_h0_f1 h_100 g_h1_f2 g_h1_f3 h_99 h_98 h_110 hEX _ _ _ hP hD hS (lv_sub hl [0, 1, 2, 3] rfl))
    · replace hEX := hEX.trans (if_neg c_104)
      have d_113 := Int32.not_le.mp c_104
      have g_114 : RG r_92 0 (-1) := RG_lt1 h_98 (RG_k 0 0 rfl) d_113 (by decide +kernel)
      exact RG_dead (RG_lt1 h_98 (RG_k 0 0 rfl) d_113 (b' := (-1)) (by decide +kernel)) (by decide +kernel)
noncomputable def wd_c_X4_readSum_4 (a0 : Nat) (a1 : Nat) (a2 : Int32) (a3 : Int32) (a4 : Int32) (a5 : Nat) (a6 : ClassId) (a7 : Nat → Int32) (a8 : Nat) (a9 : Nat) (a10 : Int32) (a11 : Nat) (a12 : Nat) (a13 : ClassId) (a14 : Nat → Int32) : va_W := [(a0, .inr (9, [.ref a1, .int a2, .int a3, .int a4])), (a5, .inl (a6, 240, .inl a7)), (a8, .inr (4, [.ref a9, .int a10, .ref a11])), (a12, .inl (a13, 240, .inl a14))]
noncomputable def wf_c_X4_readSum_4 : List Cond := List.cons (.code yX4_readSum cX4_readSum 6 none) (@HAppend.hAppend (List Cond) (List Cond) (List Cond) _ (@HAppend.hAppend (List Cond) (List Cond) (List Cond) _ [.methodLink RX4 72 yX9_isRight, .instanceMethod yX9_isRight, .selects RX9 yX9_isRight yX9_isRight, .initialized RX9, .code yX9_isRight cX9_isRight 1 (some .boolean), .fieldLink RX9 15 "BuoyVote$Tape" "wrong" "I", .methodLink RX4 85 yX4_readAtom, .instanceMethod yX4_readAtom, .selects RX4 yX4_readAtom yX4_readAtom, .initialized RX4, .code yX4_readAtom cX4_readAtom 6 none, .methodLink RX4 41 yX9_peek, .instanceMethod yX9_peek, .selects RX9 yX9_peek yX9_peek, .code yX9_peek cX9_peek 1 (some .int), .fieldLink RX9 22 "BuoyVote$Tape" "at" "I", .fieldLink RX9 19 "BuoyVote$Tape" "length" "I", .fieldLink RX9 11 "BuoyVote$Tape" "bytes" "[I", .methodLink RX4 93 yJ0_indexOf_0f7a4, .instanceMethod yJ0_indexOf_0f7a4, .selects RJ0 yJ0_indexOf_0f7a4 yJ0_indexOf_0f7a4, .initialized RJ0, .code yJ0_indexOf_0f7a4 cJ0_indexOf_0f7a4 2 (some .int), .methodLink RJ0 633 yJ0_indexOf_7cf53, .instanceMethod yJ0_indexOf_7cf53, .selects RJ0 yJ0_indexOf_7cf53 yJ0_indexOf_7cf53, .code yJ0_indexOf_7cf53 cJ0_indexOf_7cf53 3 (some .int), .methodLink RJ0 492 yJ0_isLatin1_aae02, .instanceMethod yJ0_isLatin1_aae02, .selects RJ0 yJ0_isLatin1_aae02 yJ0_isLatin1_aae02, .code yJ0_isLatin1_aae02 cJ0_isLatin1_aae02 1 (some .boolean), .fieldLink RJ0 38 "java/lang/String" "COMPACT_STRINGS" "Z", .fieldLink RJ0 15 "java/lang/String" "coder" "B", .fieldLink RJ0 9 "java/lang/String" "value" "[B", .methodLink RJ0 505 yJ0_length_8abf5, .instanceMethod yJ0_length_8abf5, .selects RJ0 yJ0_length_8abf5 yJ0_length_8abf5, .code yJ0_length_8abf5 cJ0_length_8abf5 1 (some .int), .methodLink RJ0 335 yJ0_coder_7d493, .instanceMethod yJ0_coder_7d493, .selects RJ0 yJ0_coder_7d493 yJ0_coder_7d493, .code yJ0_coder_7d493 cJ0_coder_7d493 1 (some .byte), .methodLink RJ0 637 yJ1_indexOf_4cfef, .static yJ1_indexOf_4cfef, .initialized RJ1, .code yJ1_indexOf_4cfef cJ1_indexOf_4cfef 4 (some .int), .methodLink RJ1 88 yJ1_canEncode_9a6ad, .static yJ1_canEncode_9a6ad, .code yJ1_canEncode_9a6ad cJ1_canEncode_9a6ad 1 (some .boolean), .methodLink RJ1 92 Lib.Math.max.name, .static Lib.Math.max.name, .initialized "java/lang/Math", .code Lib.Math.max.name Lib.Math.max.code 2 (some .int), .methodLink RJ1 38 Lib.Math.min.name, .static Lib.Math.min.name, .code Lib.Math.min.name Lib.Math.min.code 2 (some .int), .methodLink RJ1 95 yJ1_indexOfChar_4cfef, .static yJ1_indexOfChar_4cfef, .code yJ1_indexOfChar_4cfef cJ1_indexOfChar_4cfef 6 (some .int), .methodLink RX4 99 yX9_number, .instanceMethod yX9_number, .selects RX9 yX9_number yX9_number, .code yX9_number cX9_number 4 (some .int), .methodLink RX4 82 yX9_refuseHere, .instanceMethod yX9_refuseHere, .selects RX9 yX9_refuseHere yX9_refuseHere, .code yX9_refuseHere cX9_refuseHere 1 none, .methodLink RX9 25 yX9_refuse, .instanceMethod yX9_refuse, .selects RX9 yX9_refuse yX9_refuse, .code yX9_refuse cX9_refuse 2 none, .methodLink RX4 79 yX9_skip, .instanceMethod yX9_skip, .selects RX9 yX9_skip yX9_skip, .code yX9_skip cX9_skip 1 none, .methodLink RX4 49 yX4_readSum, .instanceMethod yX4_readSum, .selects RX4 yX4_readSum yX4_readSum, .methodLink RX4 60 yX4_emit, .instanceMethod yX4_emit, .selects RX4 yX4_emit yX4_emit, .code yX4_emit cX4_emit 2 none, .fieldLink RX4 20 "BuoyVote$Law" "length" "I", .fieldLink RX4 11 "BuoyVote$Law" "code" "[I", .methodLink RX4 88 yX9_takeEither, .instanceMethod yX9_takeEither, .selects RX9 yX9_takeEither yX9_takeEither, .code yX9_takeEither cX9_takeEither 4 (some .int), .methodLink RX9 29 yX9_peek, .methodLink RX4 37 yX9_expect, .instanceMethod yX9_expect, .selects RX9 yX9_expect yX9_expect, .code yX9_expect cX9_expect 2 none] wsX90) wsX40)
theorem iw_c_X4_readSum_4_X9 : ∀ w ∈ wsX90, w ∈ wf_c_X4_readSum_4 := fun w h => List.mem_cons_of_mem _ (List.mem_append_left _ (List.mem_append_right _ h))
theorem iw_c_X4_readSum_4_X4 : ∀ w ∈ wsX40, w ∈ wf_c_X4_readSum_4 := fun w h => List.mem_cons_of_mem _ (List.mem_append_right _ h)
set_option maxRecDepth 20000 in
theorem gf_c_X4_readSum_4_c_X9_takeEither : GoodIn wf_c_X4_readSum_4 (wsV RX4 88 RX9 yX9_takeEither wf_c_X9_takeEither) := goodIn_app (gi_l [85, 86, 87, 4] rfl rfl) (gi_cons (j := 88) rfl rfl (goodIn_app (gi_l [89, 13, 14, 4, 15, 16, 17, 18, 6] rfl rfl) (goodIn_sub iw_c_X4_readSum_4_X9 gw_X9)))
set_option maxRecDepth 20000 in
theorem gf_c_X4_readSum_4_c_X4_emit : GoodIn wf_c_X4_readSum_4 (wsV RX4 60 RX4 yX4_emit wf_c_X4_emit) := goodIn_app (gi_l [79, 80, 81, 10] rfl rfl) (gi_cons (j := 82) rfl rfl (goodIn_app (gi_l [83, 84] rfl rfl) (goodIn_sub iw_c_X4_readSum_4_X4 gw_X4)))
set_option maxRecDepth 20000 in
theorem gf_c_X4_readSum_4_c_X9_isRight : GoodIn wf_c_X4_readSum_4 (wsV RX4 72 RX9 yX9_isRight wf_c_X9_isRight) := goodIn_app (gi_l [1, 2, 3, 4] rfl rfl) (gi_cons (j := 5) rfl rfl (goodIn_app (gi_l [6] rfl rfl) (goodIn_sub iw_c_X4_readSum_4_X9 gw_X9)))
set_option maxRecDepth 20000 in
theorem gf_c_X4_readSum_4_c_X4_readAtom_4 : GoodIn wf_c_X4_readSum_4 (wsV RX4 85 RX4 yX4_readAtom wf_c_X4_readAtom_4) := goodIn_app (gi_l [7, 8, 9, 10] rfl rfl) (gi_cons (j := 11) rfl rfl (goodIn_app (goodIn_app (gi_l [12, 13, 14, 4, 15, 16, 17, 18, 19, 20, 21, 22, 23, 24, 25, 26, 27, 28, 29, 30, 31, 32, 33, 34, 35, 36, 37, 38, 39, 40, 41, 42, 43, 44, 45, 46, 47, 48, 49, 50, 51, 52, 53, 54, 55, 56, 57, 58, 59, 60, 61, 62, 63, 64, 65, 66, 67, 68, 69, 70, 71, 6, 72, 73, 74, 75, 76, 77, 78, 10, 0, 1, 2, 3, 5, 7, 8, 9, 79, 80, 81, 82, 83, 84, 85, 86, 87, 88, 89, 90, 91, 92, 93] rfl rfl) (goodIn_sub iw_c_X4_readSum_4_X9 gw_X9)) (goodIn_sub iw_c_X4_readSum_4_X4 gw_X4)))
set_option maxHeartbeats 4000000 in
set_option maxRecDepth 100000 in
theorem c_X4_readSum_4 (l : Launch) (dC : Nat → ClassId) (dI : Nat → Nat → Nat) (sz : Nat) (h0 : Nat) (h1 : Nat) (h1_0 : Nat) (h1_f1 : Int32) (h1_f2 : Int32) (h1_f3 : Int32) (h1_0k : ClassId) (h1_0c : Nat → Int32) (h0_0 : Nat) (h0_f1 : Int32) (h0_2 : Nat) (h0_0k : ClassId) (h0_0c : Nat → Int32) (ts4 : Nat) (tv4 : Nat) (g_h1_f1 : RG h1_f1 0 240) (g_h1_f2 : RG h1_f2 0 240) (g_h1_f3 : RG h1_f3 (-1) 240) (a_h1_0c : AI h1_0c 0 255) (g_h0_f1 : RG h0_f1 0 240) : Met l yX4_readSum wf_c_X4_readSum_4 ({ frames := 9, cells := 0, slots := 0, locals := 216 }) (va_Pc [.ref h0, .ref h1, .int 4] (fun U => U.heap.size = sz ∧ va_P (dC, dI) vwCl (wd_c_X4_readSum_4 h1 h1_0 h1_f1 h1_f2 h1_f3 h1_0 h1_0k h1_0c h0 h0_0 h0_f1 h0_2 h0_0 h0_0k h0_0c) U.heap ∧ va_K (dC, dI) vwCl [(h1_0k, .int), (h0_0k, .int)] U ∧ va_D (fun _ => True) (wd_c_X4_readSum_4 h1 h1_0 h1_f1 h1_f2 h1_f3 h1_0 h1_0k h1_0c h0 h0_0 h0_f1 h0_2 h0_0 h0_0k h0_0c) ∧ vk_R RX4 91 "vlrdph" ts4 U ∧ va_Z "java/lang/String" "COMPACT_STRINGS" "Z" (.int 1) (va_A (wd_c_X4_readSum_4 h1 h1_0 h1_f1 h1_f2 h1_f3 h1_0 h1_0k h1_0c h0 h0_0 h0_f1 h0_2 h0_0 h0_0k h0_0c) sz) U U.heap ∧ va_OF "java/lang/String" "coder" "B" (.int 0) ts4 (va_A (wd_c_X4_readSum_4 h1 h1_0 h1_f1 h1_f2 h1_f3 h1_0 h1_0k h1_0c h0 h0_0 h0_f1 h0_2 h0_0 h0_0k h0_0c) sz) U U.heap ∧ va_O "java/lang/String" ts4 (va_A (wd_c_X4_readSum_4 h1 h1_0 h1_f1 h1_f2 h1_f3 h1_0 h1_0k h1_0c h0 h0_0 h0_f1 h0_2 h0_0 h0_0k h0_0c) sz) U U.heap ∧ va_OF "java/lang/String" "value" "[B" (.ref tv4) ts4 (va_A (wd_c_X4_readSum_4 h1 h1_0 h1_f1 h1_f2 h1_f3 h1_0 h1_0k h1_0c h0 h0_0 h0_f1 h0_2 h0_0 h0_0k h0_0c) sz) U U.heap ∧ va_T .byte tv4 6 (fun j => .int ([118, 108, 114, 100, 112, 104].getD j 0)) (va_A (wd_c_X4_readSum_4 h1 h1_0 h1_f1 h1_f2 h1_f3 h1_0 h1_0k h1_0c h0 h0_0 h0_f1 h0_2 h0_0 h0_0k h0_0c) sz) U U.heap)) (va_Qv (fun (u : (Int32) × (Int32) × (Int32) × (Nat → Int32)) => (RG u.1 0 240 ∧ RG u.2.1 (-1) 240 ∧ RG u.2.2.1 0 240 ∧ (u.1, u.2.1, u.2.2.1, u.2.2.2) = fx_c_X4_readSum_4 h1_f1 h1_f2 h1_f3 h1_0c h0_f1 h0_0c)) (fun (u : (Int32) × (Int32) × (Int32) × (Nat → Int32)) t => va_P (dC, dI) vwCl (wd_c_X4_readSum_4 h1 h1_0 h1_f1 (u.1) (u.2.1) h1_0 h1_0k h1_0c h0 h0_0 (u.2.2.1) h0_2 h0_0 h0_0k (u.2.2.2)) t.heap ∧ va_K (dC, dI) vwCl [] t ∧ va_D (va_A (wd_c_X4_readSum_4 h1 h1_0 h1_f1 h1_f2 h1_f3 h1_0 h1_0k h1_0c h0 h0_0 h0_f1 h0_2 h0_0 h0_0k h0_0c) sz) (wd_c_X4_readSum_4 h1 h1_0 h1_f1 (u.1) (u.2.1) h1_0 h1_0k h1_0c h0 h0_0 (u.2.2.1) h0_2 h0_0 h0_0k (u.2.2.2))) (va_A (wd_c_X4_readSum_4 h1 h1_0 h1_f1 h1_f2 h1_f3 h1_0 h1_0k h1_0c h0 h0_0 h0_f1 h0_2 h0_0 h0_0k h0_0c) sz)) 0 0 (va_A (wd_c_X4_readSum_4 h1 h1_0 h1_f1 h1_f2 h1_f3 h1_0 h1_0k h1_0c h0 h0_0 h0_f1 h0_2 h0_0 h0_0k h0_0c) sz) := by
  refine Met.ofW (cc := cX4_readSum) (maxL := 6) (ret := none) (by decide +kernel) rfl ?_
  intro p e s m args below meth c s₁ B hml hv
  obtain ⟨rfl, hsz, hP, hK, hD0, hE_32, hE_10, hE_34, hE_33, hE_35, hE_36⟩ := hv
  have hx := B.exec
  have hb := B.bytes
  have hr := B.returns
  have hts := atoms_spec (ws := wf_c_X4_readSum_4) B.pre
  have hown : s.vm.findClass RX4 = some m.cls := findClass_of_methodNamed B.named
  have hlocks := B.notSynchronized
  subst hsz
  have hD := hD0.self (sz := s.heap.size)
  generalize hAe : va_A (wd_c_X4_readSum_4 h1 h1_0 h1_f1 h1_f2 h1_f3 h1_0 h1_0k h1_0c h0 h0_0 h0_f1 h0_2 h0_0 h0_0k h0_0c) s.heap.size = A at hD hE_10 hE_34 hE_33 hE_35 hE_36 ⊢
  have hA : ∀ q : Nat, s.heap.size ≤ q → A q := fun q h => by rw [← hAe]; exact Or.inr h
  have hP : va_P (dC, dI) vwCl (wd_c_X4_readSum_4 h1 h1_0 h1_f1 h1_f2 h1_f3 h1_0 h1_0k h1_0c h0 h0_0 h0_f1 h0_2 h0_0 h0_0k h0_0c) s.heap := hP
  have hl := lv_entry ([.ref h0, .ref h1, .int 4]) (n := 6) (Nat.le_of_ble_eq_true rfl)
  rw [lg_entry_eq]
  generalize (lg_sl ([.ref h0, .ref h1, .int 4]) ++ List.replicate (6 - (lg_sl ([.ref h0, .ref h1, .int 4])).length) Slot.unset).toArray = ls at hl ⊢
  have hl : lv_has ls 6 [(0, .ref h0), (1, .ref h1), (2, .int 4)] := hl
  obtain ⟨H, hHe⟩ : ∃ H : Heap, s.heap = H := ⟨_, rfl⟩
  have hS : va_S A s.heap H [] := by rw [hHe]; exact va_S.rf
  have hP : va_P (dC, dI) vwCl (wd_c_X4_readSum_4 h1 h1_0 h1_f1 h1_f2 h1_f3 h1_0 h1_0k h1_0c h0 h0_0 h0_f1 h0_2 h0_0 h0_0k h0_0c) H := by rw [← hHe]; exact hP
  rw [hHe]
  obtain ⟨RES, hR⟩ : ∃ z, fx_c_X4_readSum_4 h1_f1 h1_f2 h1_f3 h1_0c h0_f1 h0_0c = z := ⟨_, rfl⟩
  have hEX : RES = fx_c_X4_readSum_4 h1_f1 h1_f2 h1_f3 h1_0c h0_f1 h0_0c := hR.symm
  refine wj (fun G hG hU => ?_)
  as_aux_lemma =>
  have J8 : ∀ (n8 : Nat) (j8_l5 : Int32) (j8_l4 : Int32) (j8_l3 : Int32) (j8_h1_f2 : Int32) (j8_h1_f3 : Int32) (j8_h0_f1 : Int32) (j8_h0_0c : Nat → Int32) (hM8 : MU j8_l5 < n8) (g_h0_f1 : RG h0_f1 0 240) (g_h1_f1 : RG h1_f1 0 240) (g_h1_f2 : RG h1_f2 0 240) (g_h1_f3 : RG h1_f3 (-1) 240) (g_j8_h0_f1 : RG j8_h0_f1 0 240) (g_j8_h1_f2 : RG j8_h1_f2 0 240) (g_j8_h1_f3 : RG j8_h1_f3 (-1) 240) (g_j8_l3 : RG j8_l3 0 60) (g_j8_l4 : RG j8_l4 0 60) (g_j8_l5 : RG j8_l5 0 240) (hEX : RES = fx_c_X4_readSum_4_p8 h1_f1 h1_0c n8 j8_l5 j8_l4 j8_l3 j8_h1_f2 j8_h1_f3 j8_h0_f1 j8_h0_0c) (H : Heap) (locs : List Loc) (ls : Array Slot) (hP : va_P (dC, dI) vwCl (wd_c_X4_readSum_4 h1 h1_0 h1_f1 j8_h1_f2 j8_h1_f3 h1_0 h1_0k h1_0c h0 h0_0 j8_h0_f1 h0_2 h0_0 h0_0k j8_h0_0c) H) (hD : va_D A (wd_c_X4_readSum_4 h1 h1_0 h1_f1 j8_h1_f2 j8_h1_f3 h1_0 h1_0k h1_0c h0 h0_0 j8_h0_f1 h0_2 h0_0 h0_0k j8_h0_0c)) (hS : va_S A s.heap H locs) (hl : lv_has ls 6 [(5, .int j8_l5), (4, .int j8_l4), (3, .int j8_l3), (0, .ref h0), (1, .ref h1), (2, .int 4)]), G H locs (F0 m 8 ls []) := by
    as_aux_lemma =>
    intro n8
    induction n8 with
    | zero => intros; exact absurd (by assumption) (Nat.not_lt_zero _)
    | succ n8 ih8 =>
      intro j8_l5 j8_l4 j8_l3 j8_h1_f2 j8_h1_f3 j8_h0_f1 j8_h0_0c hM8 g_h0_f1 g_h1_f1 g_h1_f2 g_h1_f3 g_j8_h0_f1 g_j8_h1_f2 g_j8_h1_f3 g_j8_l3 g_j8_l4 g_j8_l5 hEX H locs ls hP hD hS hl
      have J80 : ∀ (j80_l3 : Int32) (j80_l4 : Int32) (j80_h1_f2 : Int32) (j80_h1_f3 : Int32) (j80_h0_f1 : Int32) (j80_h0_0c : Nat → Int32) (g_h0_f1 : RG h0_f1 0 240) (g_h1_f1 : RG h1_f1 0 240) (g_h1_f2 : RG h1_f2 0 240) (g_h1_f3 : RG h1_f3 (-1) 240) (g_j80_h0_f1 : RG j80_h0_f1 0 240) (g_j80_h1_f2 : RG j80_h1_f2 0 240) (g_j80_h1_f3 : RG j80_h1_f3 (-1) 240) (g_j80_l3 : RG j80_l3 0 60) (g_j80_l4 : RG j80_l4 0 60) (g_j8_h0_f1 : RG j8_h0_f1 0 240) (g_j8_h1_f2 : RG j8_h1_f2 0 240) (g_j8_h1_f3 : RG j8_h1_f3 (-1) (-1)) (g_j8_l3 : RG j8_l3 0 60) (g_j8_l4 : RG j8_l4 0 60) (g_j8_l5 : RG j8_l5 0 239) (hEX : RES = fx_c_X4_readSum_4_p80 j8_l5 (fx_c_X4_readSum_4_p8 h1_f1 h1_0c n8) j80_l3 j80_l4 j80_h1_f2 j80_h1_f3 j80_h0_f1 j80_h0_0c) (H : Heap) (locs : List Loc) (ls : Array Slot) (hP : va_P (dC, dI) vwCl (wd_c_X4_readSum_4 h1 h1_0 h1_f1 j80_h1_f2 j80_h1_f3 h1_0 h1_0k h1_0c h0 h0_0 j80_h0_f1 h0_2 h0_0 h0_0k j80_h0_0c) H) (hD : va_D A (wd_c_X4_readSum_4 h1 h1_0 h1_f1 j80_h1_f2 j80_h1_f3 h1_0 h1_0k h1_0c h0 h0_0 j80_h0_f1 h0_2 h0_0 h0_0k j80_h0_0c)) (hS : va_S A s.heap H locs) (hl : lv_has ls 6 [(3, .int j80_l3), (5, .int j8_l5), (4, .int j80_l4), (0, .ref h0), (1, .ref h1), (2, .int 4)]), G H locs (F0 m 80 ls []) := by
        as_aux_lemma =>
        intro j80_l3 j80_l4 j80_h1_f2 j80_h1_f3 j80_h0_f1 j80_h0_0c g_h0_f1 g_h1_f1 g_h1_f2 g_h1_f3 g_j80_h0_f1 g_j80_h1_f2 g_j80_h1_f3 g_j80_l3 g_j80_l4 g_j8_h0_f1 g_j8_h1_f2 g_j8_h1_f3 g_j8_l3 g_j8_l4 g_j8_l5 hEX H locs ls hP hD hS hl
        refine hG _ _ _ ?_
        obtain ⟨x_1, ex_1⟩ : ∃ y : Int32, y = j8_l5 + 1 := ⟨_, rfl⟩
        have g_2 : RG x_1 1 240 := RG_add ex_1 g_j8_l5 (RG_k 1 1 rfl) (by decide +kernel)
        replace hEX := hEX.trans (exl_eq ex_1)
        refine lv_iinc (v := x_1) (lv' := [(5, .int x_1), (3, .int j80_l3), (4, .int j80_l4), (0, .ref h0), (1, .ref h1), (2, .int 4)]) hx hb dX4_readSum_80 hl (k := 1) rfl (by rw [ex_1]; rfl) (Nat.le_of_ble_eq_true rfl) rfl (fun ls hl => ?_)
        refine lv_goto (tgt := 8) hx hb dX4_readSum_83 rfl ?_
        exact hU _ _ _ (ih8 x_1 j80_l4 j80_l3 j80_h1_f2 j80_h1_f3 j80_h0_f1 j80_h0_0c (mu_s (MU_add ex_1 g_j8_l5 (q := 1) rfl (by decide +kernel)) hM8) g_h0_f1 g_h1_f1 g_h1_f2 g_h1_f3 g_j80_h0_f1 g_j80_h1_f2 g_j80_h1_f3 g_j80_l3 g_j80_l4 (RG_w g_2 (by decide +kernel)) hEX _ _ _ hP hD hS (lv_sub hl [0, 2, 1, 3, 4, 5] rfl))
      have J64 : ∀ (j64_l3 : Int32) (j64_h1_f2 : Int32) (j64_h1_f3 : Int32) (j64_h0_f1 : Int32) (j64_h0_0c : Nat → Int32) (g_h0_f1 : RG h0_f1 0 240) (g_h1_f1 : RG h1_f1 0 240) (g_h1_f2 : RG h1_f2 0 240) (g_h1_f3 : RG h1_f3 (-1) 240) (g_j64_h0_f1 : RG j64_h0_f1 0 240) (g_j64_h1_f2 : RG j64_h1_f2 0 240) (g_j64_h1_f3 : RG j64_h1_f3 (-1) 240) (g_j64_l3 : RG j64_l3 0 0) (g_j8_h0_f1 : RG j8_h0_f1 0 240) (g_j8_h1_f2 : RG j8_h1_f2 0 240) (g_j8_h1_f3 : RG j8_h1_f3 (-1) (-1)) (g_j8_l3 : RG j8_l3 0 60) (g_j8_l4 : RG j8_l4 0 60) (g_j8_l5 : RG j8_l5 0 239) (hEX : RES = fx_c_X4_readSum_4_p64 h1_f1 h1_0c j8_l5 (fx_c_X4_readSum_4_p8 h1_f1 h1_0c n8) j64_l3 j64_h1_f2 j64_h1_f3 j64_h0_f1 j64_h0_0c) (H : Heap) (locs : List Loc) (ls : Array Slot) (hP : va_P (dC, dI) vwCl (wd_c_X4_readSum_4 h1 h1_0 h1_f1 j64_h1_f2 j64_h1_f3 h1_0 h1_0k h1_0c h0 h0_0 j64_h0_f1 h0_2 h0_0 h0_0k j64_h0_0c) H) (hD : va_D A (wd_c_X4_readSum_4 h1 h1_0 h1_f1 j64_h1_f2 j64_h1_f3 h1_0 h1_0k h1_0c h0 h0_0 j64_h0_f1 h0_2 h0_0 h0_0k j64_h0_0c)) (hS : va_S A s.heap H locs) (hl : lv_has ls 6 [(3, .int j64_l3), (5, .int j8_l5), (0, .ref h0), (1, .ref h1), (2, .int 4)]), G H locs (F0 m 64 ls []) := by
        as_aux_lemma =>
        intro j64_l3 j64_h1_f2 j64_h1_f3 j64_h0_f1 j64_h0_0c g_h0_f1 g_h1_f1 g_h1_f2 g_h1_f3 g_j64_h0_f1 g_j64_h1_f2 g_j64_h1_f3 g_j64_l3 g_j8_h0_f1 g_j8_h1_f2 g_j8_h1_f3 g_j8_l3 g_j8_l4 g_j8_l5 hEX H locs ls hP hD hS hl
        refine hG _ _ _ ?_
        refine lv_aload_n hx hb dX4_readSum_64 rfl (lv_at hl 3 rfl) ?_
        refine lv_bipush (v := 43) hx hb dX4_readSum_65 kc_bipush_43 ?_
        refine lv_bipush (v := 45) hx hb dX4_readSum_67 kc_bipush_45 ?_
        obtain ⟨hPc, hDc, hFc, hqc⟩ := cl_cut (wc := (wd_c_X9_takeEither h1 h1_0 h1_f1 j64_h1_f2 j64_h1_f3 h1_0 h1_0k h1_0c)) hP hD hS hA [0, 1] (by decide +kernel) rfl
        have hKc := hK.sub (tys' := [(h1_0k, .int)]) [0] rfl
        have hrv := va_recv hKc hPc (ci := 9) (q0 := 0) rfl rfl
        refine va_calli (va_runV (As := [.int 43, .int 45]) (rest := []) ⟨hx, hb, hml, hown, hts⟩ (c_X9_takeEither l dC dI H.size h1 43 45 h1_0 h1_f1 j64_h1_f2 j64_h1_f3 h1_0k h1_0c (RG_w (RG_k 43 43 rfl) (by decide +kernel)) (RG_w (RG_k 45 45 rfl) (by decide +kernel)) g_h1_f1 g_j64_h1_f2 g_j64_h1_f3 a_h1_0c) (cwV 2 hts gf_c_X4_readSum_4_c_X9_takeEither rfl rfl rfl mdV_X9_takeEither ⟨Nat.le_of_ble_eq_true rfl, Nat.le_of_ble_eq_true rfl⟩) ⟨fun a U g mk q => by obtain ⟨q0, q1, qP, qK, qD⟩ := q; exact ⟨q0, q1, qP, va_K.moved (u := U) (U := U.calling g mk a) (Vm.Alike.refl U.vm) qK, qD⟩, hrv, fun U hU hW => ⟨rfl, by rw [hU], by rw [hU]; exact hPc, va_K.moved hW.alike hKc, hDc.weaken (fun _ _ _ _ => trivial)⟩⟩ rfl rfl hl.1 rfl (lv_room (Nat.le_of_ble_eq_true rfl)) dX4_readSum_69 ⟨Nat.le_of_ble_eq_true rfl, Nat.le_of_ble_eq_true rfl⟩) hS (fun q _ h => hFc q h) hFc (fun r_3 x_4 t H1 locs ht hvm hw hB hz1 hk1 hS => ?_)
        obtain ⟨hP1, hK1, hD1⟩ := hB
        rw [ht] at hP1
        obtain ⟨hP, hD⟩ := cl_put (w1 := (wd_c_X9_takeEither h1 h1_0 h1_f1 x_4 j64_h1_f3 h1_0 h1_0k h1_0c)) (nw := (wd_c_X4_readSum_4 h1 h1_0 h1_f1 x_4 j64_h1_f3 h1_0 h1_0k h1_0c h0 h0_0 j64_h0_f1 h0_2 h0_0 h0_0k j64_h0_0c)) hP hD [0, 1] [4, 5, 2, 3] 4 rfl hqc (by decide +kernel) rfl hk1 hFc hP1 hD1
        generalize H1 = H at hP hS ⊢
        as_aux_lemma =>
        rcases hw with ⟨h_5, h_6, h_7, h_8⟩
        have h_8 : (r_3, x_4) = _ := h_8
        replace hEX := hEX.trans (exc2_eq h_8)
        refine lv_istore (lv' := [(4, .int r_3), (3, .int j64_l3), (5, .int j8_l5), (0, .ref h0), (1, .ref h1), (2, .int 4)]) hx hb dX4_readSum_72 hl (Nat.le_of_ble_eq_true rfl) rfl (fun ls hl => ?_)
        refine lv_iload hx hb dX4_readSum_74 (lv_at hl 0 rfl) ?_
        refine lv_if_ne (tgt := 80) hx hb dX4_readSum_76 rfl (fun c_9 => ?_) (fun c_9 => ?_)
        · replace hEX := hEX.trans (if_neg c_9)
          have g_10 : RG r_3 1 60 := RG_ne1 h_5 (q := 0) rfl c_9 (by decide +kernel)
          exact hU _ _ _ (J80 j64_l3 r_3 x_4 j64_h1_f3 j64_h0_f1 j64_h0_0c g_h0_f1 g_h1_f1 g_h1_f2 g_h1_f3 g_j64_h0_f1 h_6 g_j64_h1_f3 (RG_w g_j64_l3 (by decide +kernel)) (RG_w g_10 (by decide +kernel)) g_j8_h0_f1 g_j8_h1_f2 g_j8_h1_f3 g_j8_l3 g_j8_l4 g_j8_l5 hEX _ _ _ hP hD hS (lv_sub hl [1, 2, 0, 3, 4, 5] rfl))
        · replace hEX := hEX.trans (if_pos c_9)
          have g_11 : RG r_3 0 0 := RG_eq1 h_5 (RG_k 0 0 rfl) c_9 (by decide +kernel)
          have hK9 := hK.sub (tys' := []) [] rfl
          exact W.vret hx hb hr (fun t ht hW => ⟨⟨(x_4, j64_h1_f3, j64_h0_f1, j64_h0_0c), rfl, ⟨h_6, g_j64_h1_f3, g_j64_h0_f1, (hR.trans hEX).symm⟩, by rw [ht]; exact hP, va_K.moved hW.alike hK9, hD⟩, hS.F ht⟩) hS.2.2 dX4_readSum_79
      have J39 : ∀ (j39_h1_f2 : Int32) (j39_h1_f3 : Int32) (j39_h0_f1 : Int32) (j39_h0_0c : Nat → Int32) (g_h0_f1 : RG h0_f1 0 240) (g_h1_f1 : RG h1_f1 0 240) (g_h1_f2 : RG h1_f2 0 240) (g_h1_f3 : RG h1_f3 (-1) 240) (g_j39_h0_f1 : RG j39_h0_f1 0 240) (g_j39_h1_f2 : RG j39_h1_f2 0 240) (g_j39_h1_f3 : RG j39_h1_f3 (-1) 240) (g_j8_h0_f1 : RG j8_h0_f1 0 240) (g_j8_h1_f2 : RG j8_h1_f2 0 240) (g_j8_h1_f3 : RG j8_h1_f3 (-1) (-1)) (g_j8_l3 : RG j8_l3 0 60) (g_j8_l4 : RG j8_l4 0 60) (g_j8_l5 : RG j8_l5 0 239) (hEX : RES = fx_c_X4_readSum_4_p39 h1_f1 h1_0c j8_l5 j8_l4 (fx_c_X4_readSum_4_p8 h1_f1 h1_0c n8) j39_h1_f2 j39_h1_f3 j39_h0_f1 j39_h0_0c) (H : Heap) (locs : List Loc) (ls : Array Slot) (hP : va_P (dC, dI) vwCl (wd_c_X4_readSum_4 h1 h1_0 h1_f1 j39_h1_f2 j39_h1_f3 h1_0 h1_0k h1_0c h0 h0_0 j39_h0_f1 h0_2 h0_0 h0_0k j39_h0_0c) H) (hD : va_D A (wd_c_X4_readSum_4 h1 h1_0 h1_f1 j39_h1_f2 j39_h1_f3 h1_0 h1_0k h1_0c h0 h0_0 j39_h0_f1 h0_2 h0_0 h0_0k j39_h0_0c)) (hS : va_S A s.heap H locs) (hl : lv_has ls 6 [(5, .int j8_l5), (4, .int j8_l4), (0, .ref h0), (1, .ref h1), (2, .int 4)]), G H locs (F0 m 39 ls []) := by
        as_aux_lemma =>
        intro j39_h1_f2 j39_h1_f3 j39_h0_f1 j39_h0_0c g_h0_f1 g_h1_f1 g_h1_f2 g_h1_f3 g_j39_h0_f1 g_j39_h1_f2 g_j39_h1_f3 g_j8_h0_f1 g_j8_h1_f2 g_j8_h1_f3 g_j8_l3 g_j8_l4 g_j8_l5 hEX H locs ls hP hD hS hl
        refine hG _ _ _ ?_
        refine lv_aload_n hx hb dX4_readSum_39 rfl (lv_at hl 3 rfl) ?_
        refine lv_bipush (v := 42) hx hb dX4_readSum_40 kc_bipush_42 ?_
        refine lv_bipush (v := 47) hx hb dX4_readSum_42 kc_bipush_47 ?_
        obtain ⟨hPc, hDc, hFc, hqc⟩ := cl_cut (wc := (wd_c_X9_takeEither h1 h1_0 h1_f1 j39_h1_f2 j39_h1_f3 h1_0 h1_0k h1_0c)) hP hD hS hA [0, 1] (by decide +kernel) rfl
        have hKc := hK.sub (tys' := [(h1_0k, .int)]) [0] rfl
        have hrv := va_recv hKc hPc (ci := 9) (q0 := 0) rfl rfl
        refine va_calli (va_runV (As := [.int 42, .int 47]) (rest := []) ⟨hx, hb, hml, hown, hts⟩ (c_X9_takeEither l dC dI H.size h1 42 47 h1_0 h1_f1 j39_h1_f2 j39_h1_f3 h1_0k h1_0c (RG_w (RG_k 42 42 rfl) (by decide +kernel)) (RG_w (RG_k 47 47 rfl) (by decide +kernel)) g_h1_f1 g_j39_h1_f2 g_j39_h1_f3 a_h1_0c) (cwV 2 hts gf_c_X4_readSum_4_c_X9_takeEither rfl rfl rfl mdV_X9_takeEither ⟨Nat.le_of_ble_eq_true rfl, Nat.le_of_ble_eq_true rfl⟩) ⟨fun a U g mk q => by obtain ⟨q0, q1, qP, qK, qD⟩ := q; exact ⟨q0, q1, qP, va_K.moved (u := U) (U := U.calling g mk a) (Vm.Alike.refl U.vm) qK, qD⟩, hrv, fun U hU hW => ⟨rfl, by rw [hU], by rw [hU]; exact hPc, va_K.moved hW.alike hKc, hDc.weaken (fun _ _ _ _ => trivial)⟩⟩ rfl rfl hl.1 rfl (lv_room (Nat.le_of_ble_eq_true rfl)) dX4_readSum_44 ⟨Nat.le_of_ble_eq_true rfl, Nat.le_of_ble_eq_true rfl⟩) hS (fun q _ h => hFc q h) hFc (fun r_12 x_13 t H1 locs ht hvm hw hB hz1 hk1 hS => ?_)
        obtain ⟨hP1, hK1, hD1⟩ := hB
        rw [ht] at hP1
        obtain ⟨hP, hD⟩ := cl_put (w1 := (wd_c_X9_takeEither h1 h1_0 h1_f1 x_13 j39_h1_f3 h1_0 h1_0k h1_0c)) (nw := (wd_c_X4_readSum_4 h1 h1_0 h1_f1 x_13 j39_h1_f3 h1_0 h1_0k h1_0c h0 h0_0 j39_h0_f1 h0_2 h0_0 h0_0k j39_h0_0c)) hP hD [0, 1] [4, 5, 2, 3] 4 rfl hqc (by decide +kernel) rfl hk1 hFc hP1 hD1
        generalize H1 = H at hP hS ⊢
        as_aux_lemma =>
        rcases hw with ⟨h_14, h_15, h_16, h_17⟩
        have h_17 : (r_12, x_13) = _ := h_17
        replace hEX := hEX.trans (exc2_eq h_17)
        refine lv_istore_n (lv' := [(3, .int r_12), (5, .int j8_l5), (4, .int j8_l4), (0, .ref h0), (1, .ref h1), (2, .int 4)]) hx hb dX4_readSum_47 rfl hl (Nat.le_of_ble_eq_true rfl) rfl (fun ls hl => ?_)
        refine lv_iload_n hx hb dX4_readSum_48 rfl (lv_at hl 0 rfl) ?_
        refine lv_if_ne (tgt := 80) hx hb dX4_readSum_49 rfl (fun c_18 => ?_) (fun c_18 => ?_)
        · replace hEX := hEX.trans (if_neg c_18)
          have g_19 : RG r_12 1 60 := RG_ne1 h_14 (q := 0) rfl c_18 (by decide +kernel)
          exact hU _ _ _ (J80 r_12 j8_l4 x_13 j39_h1_f3 j39_h0_f1 j39_h0_0c g_h0_f1 g_h1_f1 g_h1_f2 g_h1_f3 g_j39_h0_f1 h_15 g_j39_h1_f3 (RG_w g_19 (by decide +kernel)) g_j8_l4 g_j8_h0_f1 g_j8_h1_f2 g_j8_h1_f3 g_j8_l3 g_j8_l4 g_j8_l5 hEX _ _ _ hP hD hS (lv_sub hl [0, 1, 2, 3, 4, 5] rfl))
        · replace hEX := hEX.trans (if_pos c_18)
          have g_20 : RG r_12 0 0 := RG_eq1 h_14 (RG_k 0 0 rfl) c_18 (by decide +kernel)
          refine lv_iload hx hb dX4_readSum_52 (lv_at hl 2 rfl) ?_
          refine lv_if_eq (tgt := 64) hx hb dX4_readSum_54 rfl (fun c_21 => ?_) (fun c_21 => ?_)
          · replace hEX := hEX.trans (if_pos c_21)
            have g_22 : RG j8_l4 0 0 := RG_eq1 g_j8_l4 (RG_k 0 0 rfl) c_21 (by decide +kernel)
            exact hU _ _ _ (J64 r_12 x_13 j39_h1_f3 j39_h0_f1 j39_h0_0c g_h0_f1 g_h1_f1 g_h1_f2 g_h1_f3 g_j39_h0_f1 h_15 g_j39_h1_f3 g_20 g_j8_h0_f1 g_j8_h1_f2 g_j8_h1_f3 g_j8_l3 (RG_w g_22 (by decide +kernel)) g_j8_l5 hEX _ _ _ hP hD hS (lv_sub hl [0, 1, 3, 4, 5] rfl))
          · replace hEX := hEX.trans (if_neg c_21)
            have g_23 : RG j8_l4 1 60 := RG_ne1 g_j8_l4 (q := 0) rfl c_21 (by decide +kernel)
            refine lv_aload_n hx hb dX4_readSum_57 rfl (lv_at hl 3 rfl) ?_
            as_aux_lemma =>
            refine lv_iload hx hb dX4_readSum_58 (lv_at hl 2 rfl) ?_
            refine lv_ineg hx hb dX4_readSum_60 ?_
            refine lv_topi (fun x_24 ex_24 => ?_)
            replace hEX := hEX.trans (exl_eq ex_24)
            have g_25 : RG x_24 (-60) (-1) := RG_neg ex_24 g_23 (by decide +kernel)
            obtain ⟨hPc, hDc, hFc, hqc⟩ := cl_cut (wc := (wd_c_X4_emit h0 h0_0 j39_h0_f1 h0_2 h0_0 h0_0k j39_h0_0c)) hP hD hS hA [2, 3] (by decide +kernel) rfl
            have hKc := hK.sub (tys' := [(h0_0k, .int)]) [1] rfl
            have hrv := va_recv hKc hPc (ci := 4) (q0 := 0) rfl rfl
            refine va_callv (va_runV (As := [.int x_24]) (rest := []) ⟨hx, hb, hml, hown, hts⟩ (c_X4_emit l dC dI H.size h0 x_24 h0_0 j39_h0_f1 h0_2 h0_0k j39_h0_0c g_j39_h0_f1) (cwV 1 hts gf_c_X4_readSum_4_c_X4_emit rfl rfl rfl mdV_X4_emit ⟨Nat.le_of_ble_eq_true rfl, Nat.le_of_ble_eq_true rfl⟩) ⟨fun a U g mk q => by obtain ⟨q0, q1, qP, qK, qD⟩ := q; exact ⟨q0, q1, qP, va_K.moved (u := U) (U := U.calling g mk a) (Vm.Alike.refl U.vm) qK, qD⟩, hrv, fun U hU hW => ⟨rfl, by rw [hU], by rw [hU]; exact hPc, va_K.moved hW.alike hKc, hDc.weaken (fun _ _ _ _ => trivial)⟩⟩ rfl rfl hl.1 rfl (lv_room (Nat.le_of_ble_eq_true rfl)) dX4_readSum_61 ⟨Nat.le_of_ble_eq_true rfl, Nat.le_of_ble_eq_true rfl⟩) hS (fun q _ h => hFc q h) hFc (fun u t H1 locs ht hvm hw hB hz1 hk1 hS => ?_)
            obtain ⟨x_27, w_28⟩ := u
            obtain ⟨hP1, hK1, hD1⟩ := hB
            rw [ht] at hP1
            obtain ⟨hP, hD⟩ := cl_put (w1 := (wd_c_X4_emit h0 h0_0 x_27 h0_2 h0_0 h0_0k w_28)) (nw := (wd_c_X4_readSum_4 h1 h1_0 h1_f1 x_13 j39_h1_f3 h1_0 h1_0k h1_0c h0 h0_0 x_27 h0_2 h0_0 h0_0k w_28)) hP hD [2, 3] [0, 1, 4, 5] 4 rfl hqc (by decide +kernel) rfl hk1 hFc hP1 hD1
            generalize H1 = H at hP hS ⊢
            as_aux_lemma =>
            rcases hw with ⟨h_29, h_30⟩
            have h_30 : (x_27, w_28) = _ := h_30
            replace hEX := hEX.trans (exc2_eq h_30)
            exact hU _ _ _ (J64 r_12 x_13 j39_h1_f3 x_27 w_28 g_h0_f1 g_h1_f1 g_h1_f2 g_h1_f3 (RG_w h_29 (by decide +kernel)) h_15 g_j39_h1_f3 g_20 g_j8_h0_f1 g_j8_h1_f2 g_j8_h1_f3 g_j8_l3 (RG_w g_23 (by decide +kernel)) g_j8_l5 hEX _ _ _ hP hD hS (lv_sub hl [0, 1, 3, 4, 5] rfl))
      refine hG _ _ _ ?_
      replace hEX := hEX.trans (if_pos (rfl : j8_l5 = j8_l5))
      refine lv_iload hx hb dX4_readSum_8 (lv_at hl 0 rfl) ?_
      refine lv_sipush (v := 240) hx hb dX4_readSum_10 kc_sipush_240 ?_
      refine lv_icmp_ge (tgt := 86) hx hb dX4_readSum_13 rfl (fun c_31 => ?_) (fun c_31 => ?_)
      · replace hEX := hEX.trans (if_pos c_31)
        have g_32 : RG j8_l5 240 240 := RG_le2 (RG_k 240 240 rfl) g_j8_l5 c_31 (by decide +kernel)
        have hK9 := hK.sub (tys' := []) [] rfl
        exact W.vret hx hb hr (fun t ht hW => ⟨⟨(j8_h1_f2, j8_h1_f3, j8_h0_f1, j8_h0_0c), rfl, ⟨g_j8_h1_f2, g_j8_h1_f3, g_j8_h0_f1, (hR.trans hEX).symm⟩, by rw [ht]; exact hP, va_K.moved hW.alike hK9, hD⟩, hS.F ht⟩) hS.2.2 dX4_readSum_86
      · replace hEX := hEX.trans (if_neg c_31)
        have d_33 := Int32.not_le.mp c_31
        have g_34 : RG j8_l5 0 239 := RG_lt1 g_j8_l5 (RG_k 240 240 rfl) d_33 (by decide +kernel)
        refine lv_aload_n hx hb dX4_readSum_16 rfl (lv_at hl 4 rfl) ?_
        as_aux_lemma =>
        obtain ⟨hPc, hDc, hFc, hqc⟩ := cl_cut (wc := (wd_c_X9_isRight h1 h1_0 h1_f1 j8_h1_f2 j8_h1_f3)) hP hD hS hA [0] (by decide +kernel) rfl
        have hKc := hK.sub (tys' := []) [] rfl
        have hrv := va_recv hKc hPc (ci := 9) (q0 := 0) rfl rfl
        refine va_calli (va_runV (As := []) (rest := []) ⟨hx, hb, hml, hown, hts⟩ (c_X9_isRight l dC dI H.size h1 h1_0 h1_f1 j8_h1_f2 j8_h1_f3 g_h1_f1 g_j8_h1_f2 g_j8_h1_f3) (cwV 0 hts gf_c_X4_readSum_4_c_X9_isRight rfl rfl rfl mdV_X9_isRight ⟨Nat.le_of_ble_eq_true rfl, Nat.le_of_ble_eq_true rfl⟩) ⟨fun a U g mk q => by obtain ⟨q0, q1, qP, qK, qD⟩ := q; exact ⟨q0, q1, qP, va_K.moved (u := U) (U := U.calling g mk a) (Vm.Alike.refl U.vm) qK, qD⟩, hrv, fun U hU hW => ⟨rfl, by rw [hU], by rw [hU]; exact hPc, va_K.moved hW.alike hKc, hDc.weaken (fun _ _ _ _ => trivial)⟩⟩ rfl rfl hl.1 rfl (lv_room (Nat.le_of_ble_eq_true rfl)) dX4_readSum_17 ⟨Nat.le_of_ble_eq_true rfl, Nat.le_of_ble_eq_true rfl⟩) hS (fun q _ h => hFc q h) hFc (fun r_35 u t H1 locs ht hvm hw hB hz1 hk1 hS => ?_)
        obtain ⟨hP1, hK1, hD1⟩ := hB
        rw [ht] at hP1
        obtain ⟨hP, hD⟩ := cl_put (w1 := (wd_c_X9_isRight h1 h1_0 h1_f1 j8_h1_f2 j8_h1_f3)) (nw := (wd_c_X4_readSum_4 h1 h1_0 h1_f1 j8_h1_f2 j8_h1_f3 h1_0 h1_0k h1_0c h0 h0_0 j8_h0_f1 h0_2 h0_0 h0_0k j8_h0_0c)) hP hD [0] [4, 1, 2, 3] 4 rfl hqc (by decide +kernel) rfl hk1 hFc hP1 hD1
        generalize H1 = H at hP hS ⊢
        as_aux_lemma =>
        rcases hw with ⟨h_36, h_37, h_38⟩ | ⟨h_39, h_40, h_41⟩
        · have h_38 : r_35 = _ := h_38
          replace hEX := hEX.trans (exc1_eq h_38)
          replace hEX := hEX.trans (if_pos (show r_35 = 0 from h_36))
          rw [h_36]
          refine lv_if_eq (tgt := 86) hx hb dX4_readSum_20 rfl (fun c_42 => ?_) (fun c_42 => absurd c_42 (by decide +kernel))
          have hK9 := hK.sub (tys' := []) [] rfl
          exact W.vret hx hb hr (fun t ht hW => ⟨⟨(j8_h1_f2, j8_h1_f3, j8_h0_f1, j8_h0_0c), rfl, ⟨g_j8_h1_f2, (RG_w h_37 (by decide +kernel)), g_j8_h0_f1, (hR.trans hEX).symm⟩, by rw [ht]; exact hP, va_K.moved hW.alike hK9, hD⟩, hS.F ht⟩) hS.2.2 dX4_readSum_86
        · have h_41 : r_35 = _ := h_41
          replace hEX := hEX.trans (exc1_eq h_41)
          replace hEX := hEX.trans (if_neg (fun q9 : r_35 = 0 => absurd ((show r_35 = 1 from h_39).symm.trans q9) (by decide +kernel)))
          rw [h_39]
          refine lv_if_eq (tgt := 86) hx hb dX4_readSum_20 rfl (fun c_43 => absurd c_43 (by decide +kernel)) (fun c_43 => ?_)
          refine lv_aload_n hx hb dX4_readSum_23 rfl (lv_at hl 3 rfl) ?_
          as_aux_lemma =>
          refine lv_aload_n hx hb dX4_readSum_24 rfl (lv_at hl 4 rfl) ?_
          refine lv_iload_n hx hb dX4_readSum_25 rfl (lv_at hl 5 rfl) ?_
          obtain ⟨hPc, hDc, hFc, hqc⟩ := cl_cut (wc := (wd_c_X4_readAtom_4 h1 h1_0 h1_f1 j8_h1_f2 j8_h1_f3 h1_0 h1_0k h1_0c h0 h0_0 j8_h0_f1 h0_2 h0_0 h0_0k j8_h0_0c)) hP hD hS hA [0, 1, 2, 3] (by decide +kernel) rfl
          have hKc := hK.sub (tys' := [(h1_0k, .int), (h0_0k, .int)]) [0, 1] rfl
          have hrv := va_recv hKc hPc (ci := 4) (q0 := 2) rfl rfl
          refine va_callv (va_runV (As := [.ref h1, .int 4]) (rest := []) ⟨hx, hb, hml, hown, hts⟩ (c_X4_readAtom_4 l dC dI H.size h0 h1 h1_0 h1_f1 j8_h1_f2 j8_h1_f3 h1_0k h1_0c h0_0 j8_h0_f1 h0_2 h0_0k j8_h0_0c ts4 tv4 g_h1_f1 g_j8_h1_f2 (RG_w h_40 (by decide +kernel)) a_h1_0c g_j8_h0_f1) (cwV 2 hts gf_c_X4_readSum_4_c_X4_readAtom_4 rfl rfl rfl mdV_X4_readAtom ⟨Nat.le_of_ble_eq_true rfl, Nat.le_of_ble_eq_true rfl⟩) ⟨fun a U g mk q => by obtain ⟨q0, q1, qP, qK, qD, qE0, qE1, qE2, qE3, qE4, qE5⟩ := q; exact ⟨q0, q1, qP, va_K.moved (u := U) (U := U.calling g mk a) (Vm.Alike.refl U.vm) qK, qD, vk_R.same rfl qE0, va_Z.moved (u := U) (U := U.calling g mk a) (Vm.Alike.refl U.vm) qE1, va_OF.moved (u := U) (U := U.calling g mk a) (Vm.Alike.refl U.vm) qE2, va_O.moved (u := U) (U := U.calling g mk a) (Vm.Alike.refl U.vm) qE3, va_OF.moved (u := U) (U := U.calling g mk a) (Vm.Alike.refl U.vm) qE4, va_T.moved (u := U) (U := U.calling g mk a) (Vm.Alike.refl U.vm) qE5⟩, hrv, fun U hU hW => ⟨rfl, by rw [hU], by rw [hU]; exact hPc, va_K.moved hW.alike hKc, hDc.weaken (fun _ _ _ _ => trivial), vk_R.warm hW hE_32, va_Z.moved hW.alike (by rw [hU]; exact (hE_10.kept hS.2.1).narrow hFc), va_OF.moved hW.alike (by rw [hU]; exact (hE_34.kept hS.2.1).narrow hFc), va_O.moved hW.alike (by rw [hU]; exact (hE_33.kept hS.2.1).narrow hFc), va_OF.moved hW.alike (by rw [hU]; exact (hE_35.kept hS.2.1).narrow hFc), va_T.moved hW.alike (by rw [hU]; exact (hE_36.kept hS.2.1).narrow hFc)⟩⟩ rfl rfl hl.1 rfl (lv_room (Nat.le_of_ble_eq_true rfl)) dX4_readSum_26 ⟨Nat.le_of_ble_eq_true rfl, Nat.le_of_ble_eq_true rfl⟩) hS (fun q _ h => hFc q h) hFc (fun u t H1 locs ht hvm hw hB hz1 hk1 hS => ?_)
          obtain ⟨x_45, x_46, x_47, w_48⟩ := u
          obtain ⟨hP1, hK1, hD1⟩ := hB
          rw [ht] at hP1
          obtain ⟨hP, hD⟩ := cl_put (w1 := (wd_c_X4_readAtom_4 h1 h1_0 h1_f1 x_45 x_46 h1_0 h1_0k h1_0c h0 h0_0 x_47 h0_2 h0_0 h0_0k w_48)) (nw := (wd_c_X4_readSum_4 h1 h1_0 h1_f1 x_45 x_46 h1_0 h1_0k h1_0c h0 h0_0 x_47 h0_2 h0_0 h0_0k w_48)) hP hD [0, 1, 2, 3] [4, 5, 6, 7] 4 rfl hqc (by decide +kernel) rfl hk1 hFc hP1 hD1
          generalize H1 = H at hP hS ⊢
          as_aux_lemma =>
          rcases hw with ⟨h_49, h_50, h_51, h_52⟩
          have h_52 : (x_45, x_46, x_47, w_48) = _ := h_52
          replace hEX := hEX.trans (exc4_eq h_52)
          refine lv_iload_n hx hb dX4_readSum_29 rfl (lv_at hl 2 rfl) ?_
          refine lv_if_eq (tgt := 39) hx hb dX4_readSum_30 rfl (fun c_53 => ?_) (fun c_53 => ?_)
          · replace hEX := hEX.trans (if_pos c_53)
            have g_54 : RG j8_l3 0 0 := RG_eq1 g_j8_l3 (RG_k 0 0 rfl) c_53 (by decide +kernel)
            exact hU _ _ _ (J39 x_45 x_46 x_47 w_48 g_h0_f1 g_h1_f1 g_h1_f2 g_h1_f3 h_51 h_49 h_50 g_j8_h0_f1 g_j8_h1_f2 h_40 (RG_w g_54 (by decide +kernel)) g_j8_l4 g_34 hEX _ _ _ hP hD hS (lv_sub hl [0, 1, 3, 4, 5] rfl))
          · replace hEX := hEX.trans (if_neg c_53)
            have g_55 : RG j8_l3 1 60 := RG_ne1 g_j8_l3 (q := 0) rfl c_53 (by decide +kernel)
            refine lv_aload_n hx hb dX4_readSum_33 rfl (lv_at hl 3 rfl) ?_
            refine lv_iload_n hx hb dX4_readSum_34 rfl (lv_at hl 2 rfl) ?_
            refine lv_ineg hx hb dX4_readSum_35 ?_
            refine lv_topi (fun x_56 ex_56 => ?_)
            as_aux_lemma =>
            replace hEX := hEX.trans (exl_eq ex_56)
            have g_57 : RG x_56 (-60) (-1) := RG_neg ex_56 g_55 (by decide +kernel)
            obtain ⟨hPc, hDc, hFc, hqc⟩ := cl_cut (wc := (wd_c_X4_emit h0 h0_0 x_47 h0_2 h0_0 h0_0k w_48)) hP hD hS hA [2, 3] (by decide +kernel) rfl
            have hKc := hK.sub (tys' := [(h0_0k, .int)]) [1] rfl
            have hrv := va_recv hKc hPc (ci := 4) (q0 := 0) rfl rfl
            refine va_callv (va_runV (As := [.int x_56]) (rest := []) ⟨hx, hb, hml, hown, hts⟩ (c_X4_emit l dC dI H.size h0 x_56 h0_0 x_47 h0_2 h0_0k w_48 h_51) (cwV 1 hts gf_c_X4_readSum_4_c_X4_emit rfl rfl rfl mdV_X4_emit ⟨Nat.le_of_ble_eq_true rfl, Nat.le_of_ble_eq_true rfl⟩) ⟨fun a U g mk q => by obtain ⟨q0, q1, qP, qK, qD⟩ := q; exact ⟨q0, q1, qP, va_K.moved (u := U) (U := U.calling g mk a) (Vm.Alike.refl U.vm) qK, qD⟩, hrv, fun U hU hW => ⟨rfl, by rw [hU], by rw [hU]; exact hPc, va_K.moved hW.alike hKc, hDc.weaken (fun _ _ _ _ => trivial)⟩⟩ rfl rfl hl.1 rfl (lv_room (Nat.le_of_ble_eq_true rfl)) dX4_readSum_36 ⟨Nat.le_of_ble_eq_true rfl, Nat.le_of_ble_eq_true rfl⟩) hS (fun q _ h => hFc q h) hFc (fun u t H1 locs ht hvm hw hB hz1 hk1 hS => ?_)
            obtain ⟨x_59, w_60⟩ := u
            obtain ⟨hP1, hK1, hD1⟩ := hB
            rw [ht] at hP1
            obtain ⟨hP, hD⟩ := cl_put (w1 := (wd_c_X4_emit h0 h0_0 x_59 h0_2 h0_0 h0_0k w_60)) (nw := (wd_c_X4_readSum_4 h1 h1_0 h1_f1 x_45 x_46 h1_0 h1_0k h1_0c h0 h0_0 x_59 h0_2 h0_0 h0_0k w_60)) hP hD [2, 3] [0, 1, 4, 5] 4 rfl hqc (by decide +kernel) rfl hk1 hFc hP1 hD1
            generalize H1 = H at hP hS ⊢
            as_aux_lemma =>
            rcases hw with ⟨h_61, h_62⟩
            have h_62 : (x_59, w_60) = _ := h_62
            replace hEX := hEX.trans (exc2_eq h_62)
            exact hU _ _ _ (J39 x_45 x_46 x_59 w_60 g_h0_f1 g_h1_f1 g_h1_f2 g_h1_f3 (RG_w h_61 (by decide +kernel)) h_49 h_50 g_j8_h0_f1 g_j8_h1_f2 h_40 (RG_w g_55 (by decide +kernel)) g_j8_l4 g_34 hEX _ _ _ hP hD hS (lv_sub hl [0, 1, 3, 4, 5] rfl))
  refine hG _ _ _ ?_
  refine lv_iconst (v := 0) hx hb dX4_readSum_0 kc_iconst_0 ?_
  refine lv_istore_n (lv' := [(3, .int 0), (0, .ref h0), (1, .ref h1), (2, .int 4)]) hx hb dX4_readSum_1 rfl hl (Nat.le_of_ble_eq_true rfl) rfl (fun ls hl => ?_)
  refine lv_iconst (v := 0) hx hb dX4_readSum_2 kc_iconst_0 ?_
  refine lv_istore (lv' := [(4, .int 0), (3, .int 0), (0, .ref h0), (1, .ref h1), (2, .int 4)]) hx hb dX4_readSum_3 hl (Nat.le_of_ble_eq_true rfl) rfl (fun ls hl => ?_)
  refine lv_iconst (v := 0) hx hb dX4_readSum_5 kc_iconst_0 ?_
  refine lv_istore (lv' := [(5, .int 0), (4, .int 0), (3, .int 0), (0, .ref h0), (1, .ref h1), (2, .int 4)]) hx hb dX4_readSum_6 hl (Nat.le_of_ble_eq_true rfl) rfl (fun ls hl => ?_)
  exact hU _ _ _ (J8 exF 0 0 0 h1_f2 h1_f3 h0_f1 h0_0c MU_F g_h0_f1 g_h1_f1 g_h1_f2 g_h1_f3 g_h0_f1 g_h1_f2 g_h1_f3 (RG_w (RG_k 0 0 rfl) (by decide +kernel)) (RG_w (RG_k 0 0 rfl) (by decide +kernel)) (RG_w (RG_k 0 0 rfl) (by decide +kernel)) hEX _ _ _ hP hD hS (lv_sub hl [0, 1, 2, 3, 4, 5] rfl))
noncomputable def wd_c_X4_readAtom_3 (a0 : Nat) (a1 : Nat) (a2 : Int32) (a3 : Int32) (a4 : Int32) (a5 : Nat) (a6 : ClassId) (a7 : Nat → Int32) (a8 : Nat) (a9 : Nat) (a10 : Int32) (a11 : Nat) (a12 : Nat) (a13 : ClassId) (a14 : Nat → Int32) : va_W := [(a0, .inr (9, [.ref a1, .int a2, .int a3, .int a4])), (a5, .inl (a6, 240, .inl a7)), (a8, .inr (4, [.ref a9, .int a10, .ref a11])), (a12, .inl (a13, 240, .inl a14))]
noncomputable def wf_c_X4_readAtom_3 : List Cond := List.cons (.code yX4_readAtom cX4_readAtom 6 none) (@HAppend.hAppend (List Cond) (List Cond) (List Cond) _ (@HAppend.hAppend (List Cond) (List Cond) (List Cond) _ [.methodLink RX4 41 yX9_peek, .instanceMethod yX9_peek, .selects RX9 yX9_peek yX9_peek, .initialized RX9, .code yX9_peek cX9_peek 1 (some .int), .fieldLink RX9 22 "BuoyVote$Tape" "at" "I", .fieldLink RX9 19 "BuoyVote$Tape" "length" "I", .fieldLink RX9 11 "BuoyVote$Tape" "bytes" "[I", .methodLink RX4 93 yJ0_indexOf_0f7a4, .instanceMethod yJ0_indexOf_0f7a4, .selects RJ0 yJ0_indexOf_0f7a4 yJ0_indexOf_0f7a4, .initialized RJ0, .code yJ0_indexOf_0f7a4 cJ0_indexOf_0f7a4 2 (some .int), .methodLink RJ0 633 yJ0_indexOf_7cf53, .instanceMethod yJ0_indexOf_7cf53, .selects RJ0 yJ0_indexOf_7cf53 yJ0_indexOf_7cf53, .code yJ0_indexOf_7cf53 cJ0_indexOf_7cf53 3 (some .int), .methodLink RJ0 492 yJ0_isLatin1_aae02, .instanceMethod yJ0_isLatin1_aae02, .selects RJ0 yJ0_isLatin1_aae02 yJ0_isLatin1_aae02, .code yJ0_isLatin1_aae02 cJ0_isLatin1_aae02 1 (some .boolean), .fieldLink RJ0 38 "java/lang/String" "COMPACT_STRINGS" "Z", .fieldLink RJ0 15 "java/lang/String" "coder" "B", .fieldLink RJ0 9 "java/lang/String" "value" "[B", .methodLink RJ0 505 yJ0_length_8abf5, .instanceMethod yJ0_length_8abf5, .selects RJ0 yJ0_length_8abf5 yJ0_length_8abf5, .code yJ0_length_8abf5 cJ0_length_8abf5 1 (some .int), .methodLink RJ0 335 yJ0_coder_7d493, .instanceMethod yJ0_coder_7d493, .selects RJ0 yJ0_coder_7d493 yJ0_coder_7d493, .code yJ0_coder_7d493 cJ0_coder_7d493 1 (some .byte), .methodLink RJ0 637 yJ1_indexOf_4cfef, .static yJ1_indexOf_4cfef, .initialized RJ1, .code yJ1_indexOf_4cfef cJ1_indexOf_4cfef 4 (some .int), .methodLink RJ1 88 yJ1_canEncode_9a6ad, .static yJ1_canEncode_9a6ad, .code yJ1_canEncode_9a6ad cJ1_canEncode_9a6ad 1 (some .boolean), .methodLink RJ1 92 Lib.Math.max.name, .static Lib.Math.max.name, .initialized "java/lang/Math", .code Lib.Math.max.name Lib.Math.max.code 2 (some .int), .methodLink RJ1 38 Lib.Math.min.name, .static Lib.Math.min.name, .code Lib.Math.min.name Lib.Math.min.code 2 (some .int), .methodLink RJ1 95 yJ1_indexOfChar_4cfef, .static yJ1_indexOfChar_4cfef, .code yJ1_indexOfChar_4cfef cJ1_indexOfChar_4cfef 6 (some .int), .methodLink RX4 99 yX9_number, .instanceMethod yX9_number, .selects RX9 yX9_number yX9_number, .code yX9_number cX9_number 4 (some .int), .methodLink RX4 82 yX9_refuseHere, .instanceMethod yX9_refuseHere, .selects RX9 yX9_refuseHere yX9_refuseHere, .code yX9_refuseHere cX9_refuseHere 1 none, .methodLink RX9 25 yX9_refuse, .instanceMethod yX9_refuse, .selects RX9 yX9_refuse yX9_refuse, .code yX9_refuse cX9_refuse 2 none, .fieldLink RX9 15 "BuoyVote$Tape" "wrong" "I", .methodLink RX4 79 yX9_skip, .instanceMethod yX9_skip, .selects RX9 yX9_skip yX9_skip, .code yX9_skip cX9_skip 1 none, .methodLink RX4 49 yX4_readSum, .instanceMethod yX4_readSum, .selects RX4 yX4_readSum yX4_readSum, .initialized RX4, .code yX4_readSum cX4_readSum 6 none, .methodLink RX4 72 yX9_isRight, .instanceMethod yX9_isRight, .selects RX9 yX9_isRight yX9_isRight, .code yX9_isRight cX9_isRight 1 (some .boolean), .methodLink RX4 85 yX4_readAtom, .instanceMethod yX4_readAtom, .selects RX4 yX4_readAtom yX4_readAtom, .methodLink RX4 60 yX4_emit, .instanceMethod yX4_emit, .selects RX4 yX4_emit yX4_emit, .code yX4_emit cX4_emit 2 none, .fieldLink RX4 20 "BuoyVote$Law" "length" "I", .fieldLink RX4 11 "BuoyVote$Law" "code" "[I", .methodLink RX4 88 yX9_takeEither, .instanceMethod yX9_takeEither, .selects RX9 yX9_takeEither yX9_takeEither, .code yX9_takeEither cX9_takeEither 4 (some .int), .methodLink RX9 29 yX9_peek, .methodLink RX4 37 yX9_expect, .instanceMethod yX9_expect, .selects RX9 yX9_expect yX9_expect, .code yX9_expect cX9_expect 2 none] wsX90) wsX40)
theorem iw_c_X4_readAtom_3_X9 : ∀ w ∈ wsX90, w ∈ wf_c_X4_readAtom_3 := fun w h => List.mem_cons_of_mem _ (List.mem_append_left _ (List.mem_append_right _ h))
theorem iw_c_X4_readAtom_3_X4 : ∀ w ∈ wsX40, w ∈ wf_c_X4_readAtom_3 := fun w h => List.mem_cons_of_mem _ (List.mem_append_right _ h)
set_option maxRecDepth 20000 in
theorem gf_c_X4_readAtom_3_c_X4_emit_1 : GoodIn wf_c_X4_readAtom_3 (wsV RX4 60 RX4 yX4_emit wf_c_X4_emit_1) := goodIn_app (gi_l [79, 80, 81, 70] rfl rfl) (gi_cons (j := 82) rfl rfl (goodIn_app (gi_l [83, 84] rfl rfl) (goodIn_sub iw_c_X4_readAtom_3_X4 gw_X4)))
set_option maxRecDepth 20000 in
theorem gf_c_X4_readAtom_3_c_X9_number_1 : GoodIn wf_c_X4_readAtom_3 (wsV RX4 99 RX9 yX9_number wf_c_X9_number_1) := goodIn_app (gi_l [50, 51, 52, 4] rfl rfl) (gi_cons (j := 53) rfl rfl (goodIn_app (gi_l [6, 7, 8] rfl rfl) (goodIn_sub iw_c_X4_readAtom_3_X9 gw_X9)))
set_option maxRecDepth 20000 in
theorem gf_c_X4_readAtom_3_c_X9_refuseHere : GoodIn wf_c_X4_readAtom_3 (wsV RX4 82 RX9 yX9_refuseHere wf_c_X9_refuseHere) := goodIn_app (gi_l [54, 55, 56, 4] rfl rfl) (gi_cons (j := 57) rfl rfl (goodIn_app (gi_l [6, 58, 59, 60, 4, 61, 62] rfl rfl) (goodIn_sub iw_c_X4_readAtom_3_X9 gw_X9)))
set_option maxRecDepth 20000 in
theorem gf_c_X4_readAtom_3_c_X9_skip : GoodIn wf_c_X4_readAtom_3 (wsV RX4 79 RX9 yX9_skip wf_c_X9_skip) := goodIn_app (gi_l [63, 64, 65, 4] rfl rfl) (gi_cons (j := 66) rfl rfl (goodIn_app (gi_l [6] rfl rfl) (goodIn_sub iw_c_X4_readAtom_3_X9 gw_X9)))
set_option maxRecDepth 20000 in
theorem gf_c_X4_readAtom_3_c_X4_readSum_4 : GoodIn wf_c_X4_readAtom_3 (wsV RX4 49 RX4 yX4_readSum wf_c_X4_readSum_4) := goodIn_app (gi_l [67, 68, 69, 70] rfl rfl) (gi_cons (j := 71) rfl rfl (goodIn_app (goodIn_app (gi_l [72, 73, 74, 4, 75, 62, 76, 77, 78, 70, 0, 1, 2, 3, 5, 6, 7, 8, 9, 10, 11, 12, 13, 14, 15, 16, 17, 18, 19, 20, 21, 22, 23, 24, 25, 26, 27, 28, 29, 30, 31, 32, 33, 34, 35, 36, 37, 38, 39, 40, 41, 42, 43, 44, 45, 46, 47, 48, 49, 50, 51, 52, 53, 54, 55, 56, 57, 58, 59, 60, 61, 63, 64, 65, 66, 67, 68, 69, 79, 80, 81, 82, 83, 84, 85, 86, 87, 88, 89, 90, 91, 92, 93] rfl rfl) (goodIn_sub iw_c_X4_readAtom_3_X9 gw_X9)) (goodIn_sub iw_c_X4_readAtom_3_X4 gw_X4)))
set_option maxRecDepth 20000 in
theorem gf_c_X4_readAtom_3_c_X9_expect_2 : GoodIn wf_c_X4_readAtom_3 (wsV RX4 37 RX9 yX9_expect wf_c_X9_expect_2) := goodIn_app (gi_l [90, 91, 92, 4] rfl rfl) (gi_cons (j := 93) rfl rfl (goodIn_app (gi_l [62, 89, 2, 3, 4, 5, 6, 7, 8, 58, 59, 60, 61] rfl rfl) (goodIn_sub iw_c_X4_readAtom_3_X9 gw_X9)))
set_option maxRecDepth 20000 in
theorem gf_c_X4_readAtom_3_c_X4_emit : GoodIn wf_c_X4_readAtom_3 (wsV RX4 60 RX4 yX4_emit wf_c_X4_emit) := goodIn_app (gi_l [79, 80, 81, 70] rfl rfl) (gi_cons (j := 82) rfl rfl (goodIn_app (gi_l [83, 84] rfl rfl) (goodIn_sub iw_c_X4_readAtom_3_X4 gw_X4)))
set_option maxRecDepth 20000 in
theorem gf_c_X4_readAtom_3_c_X9_peek : GoodIn wf_c_X4_readAtom_3 (wsV RX4 41 RX9 yX9_peek wf_c_X9_peek) := goodIn_app (gi_l [1, 2, 3, 4] rfl rfl) (gi_cons (j := 5) rfl rfl (goodIn_app (gi_l [6, 7, 8] rfl rfl) (goodIn_sub iw_c_X4_readAtom_3_X9 gw_X9)))
set_option maxRecDepth 20000 in
theorem gf_c_X4_readAtom_3_c_J0_indexOf_0f7a4_4 : GoodIn wf_c_X4_readAtom_3 (wsV RX4 93 RJ0 yJ0_indexOf_0f7a4 wf_c_J0_indexOf_0f7a4_4) := goodIn_app (gi_l [9, 10, 11, 12] rfl rfl) (gi_cons (j := 13) rfl rfl (gi_l [14, 15, 16, 12, 17, 18, 19, 20, 21, 22, 23, 24, 25, 26, 27, 28, 29, 30, 31, 32, 33, 34, 35, 36, 37, 38, 39, 40, 41, 42, 43, 44, 45, 46, 47, 48, 49] rfl rfl))
set_option maxHeartbeats 4000000 in
set_option maxRecDepth 100000 in
theorem c_X4_readAtom_3 (l : Launch) (dC : Nat → ClassId) (dI : Nat → Nat → Nat) (sz : Nat) (h0 : Nat) (h1 : Nat) (h1_0 : Nat) (h1_f1 : Int32) (h1_f2 : Int32) (h1_f3 : Int32) (h1_0k : ClassId) (h1_0c : Nat → Int32) (h0_0 : Nat) (h0_f1 : Int32) (h0_2 : Nat) (h0_0k : ClassId) (h0_0c : Nat → Int32) (ts4 : Nat) (tv4 : Nat) (g_h1_f1 : RG h1_f1 0 240) (g_h1_f2 : RG h1_f2 0 240) (g_h1_f3 : RG h1_f3 (-1) 240) (a_h1_0c : AI h1_0c 0 255) (g_h0_f1 : RG h0_f1 0 240) : Met l yX4_readAtom wf_c_X4_readAtom_3 ({ frames := 10, cells := 0, slots := 0, locals := 241 }) (va_Pc [.ref h0, .ref h1, .int 3] (fun U => U.heap.size = sz ∧ va_P (dC, dI) vwCl (wd_c_X4_readAtom_3 h1 h1_0 h1_f1 h1_f2 h1_f3 h1_0 h1_0k h1_0c h0 h0_0 h0_f1 h0_2 h0_0 h0_0k h0_0c) U.heap ∧ va_K (dC, dI) vwCl [(h1_0k, .int), (h0_0k, .int)] U ∧ va_D (fun _ => True) (wd_c_X4_readAtom_3 h1 h1_0 h1_f1 h1_f2 h1_f3 h1_0 h1_0k h1_0c h0 h0_0 h0_f1 h0_2 h0_0 h0_0k h0_0c) ∧ vk_R RX4 91 "vlrdph" ts4 U ∧ va_Z "java/lang/String" "COMPACT_STRINGS" "Z" (.int 1) (va_A (wd_c_X4_readAtom_3 h1 h1_0 h1_f1 h1_f2 h1_f3 h1_0 h1_0k h1_0c h0 h0_0 h0_f1 h0_2 h0_0 h0_0k h0_0c) sz) U U.heap ∧ va_OF "java/lang/String" "coder" "B" (.int 0) ts4 (va_A (wd_c_X4_readAtom_3 h1 h1_0 h1_f1 h1_f2 h1_f3 h1_0 h1_0k h1_0c h0 h0_0 h0_f1 h0_2 h0_0 h0_0k h0_0c) sz) U U.heap ∧ va_O "java/lang/String" ts4 (va_A (wd_c_X4_readAtom_3 h1 h1_0 h1_f1 h1_f2 h1_f3 h1_0 h1_0k h1_0c h0 h0_0 h0_f1 h0_2 h0_0 h0_0k h0_0c) sz) U U.heap ∧ va_OF "java/lang/String" "value" "[B" (.ref tv4) ts4 (va_A (wd_c_X4_readAtom_3 h1 h1_0 h1_f1 h1_f2 h1_f3 h1_0 h1_0k h1_0c h0 h0_0 h0_f1 h0_2 h0_0 h0_0k h0_0c) sz) U U.heap ∧ va_T .byte tv4 6 (fun j => .int ([118, 108, 114, 100, 112, 104].getD j 0)) (va_A (wd_c_X4_readAtom_3 h1 h1_0 h1_f1 h1_f2 h1_f3 h1_0 h1_0k h1_0c h0 h0_0 h0_f1 h0_2 h0_0 h0_0k h0_0c) sz) U U.heap)) (va_Qv (fun (u : (Int32) × (Int32) × (Int32) × (Nat → Int32)) => (RG u.1 0 240 ∧ RG u.2.1 (-1) 240 ∧ RG u.2.2.1 0 240 ∧ (u.1, u.2.1, u.2.2.1, u.2.2.2) = fx_c_X4_readAtom_3 h1_f1 h1_f2 h1_f3 h1_0c h0_f1 h0_0c)) (fun (u : (Int32) × (Int32) × (Int32) × (Nat → Int32)) t => va_P (dC, dI) vwCl (wd_c_X4_readAtom_3 h1 h1_0 h1_f1 (u.1) (u.2.1) h1_0 h1_0k h1_0c h0 h0_0 (u.2.2.1) h0_2 h0_0 h0_0k (u.2.2.2)) t.heap ∧ va_K (dC, dI) vwCl [] t ∧ va_D (va_A (wd_c_X4_readAtom_3 h1 h1_0 h1_f1 h1_f2 h1_f3 h1_0 h1_0k h1_0c h0 h0_0 h0_f1 h0_2 h0_0 h0_0k h0_0c) sz) (wd_c_X4_readAtom_3 h1 h1_0 h1_f1 (u.1) (u.2.1) h1_0 h1_0k h1_0c h0 h0_0 (u.2.2.1) h0_2 h0_0 h0_0k (u.2.2.2))) (va_A (wd_c_X4_readAtom_3 h1 h1_0 h1_f1 h1_f2 h1_f3 h1_0 h1_0k h1_0c h0 h0_0 h0_f1 h0_2 h0_0 h0_0k h0_0c) sz)) 0 0 (va_A (wd_c_X4_readAtom_3 h1 h1_0 h1_f1 h1_f2 h1_f3 h1_0 h1_0k h1_0c h0 h0_0 h0_f1 h0_2 h0_0 h0_0k h0_0c) sz) := by
  refine Met.ofW (cc := cX4_readAtom) (maxL := 6) (ret := none) (by decide +kernel) rfl ?_
  intro p e s m args below meth c s₁ B hml hv
  obtain ⟨rfl, hsz, hP, hK, hD0, hE_32, hE_10, hE_34, hE_33, hE_35, hE_36⟩ := hv
  have hx := B.exec
  have hb := B.bytes
  have hr := B.returns
  have hts := atoms_spec (ws := wf_c_X4_readAtom_3) B.pre
  have hown : s.vm.findClass RX4 = some m.cls := findClass_of_methodNamed B.named
  have hlocks := B.notSynchronized
  subst hsz
  have hD := hD0.self (sz := s.heap.size)
  generalize hAe : va_A (wd_c_X4_readAtom_3 h1 h1_0 h1_f1 h1_f2 h1_f3 h1_0 h1_0k h1_0c h0 h0_0 h0_f1 h0_2 h0_0 h0_0k h0_0c) s.heap.size = A at hD hE_10 hE_34 hE_33 hE_35 hE_36 ⊢
  have hA : ∀ q : Nat, s.heap.size ≤ q → A q := fun q h => by rw [← hAe]; exact Or.inr h
  have hP : va_P (dC, dI) vwCl (wd_c_X4_readAtom_3 h1 h1_0 h1_f1 h1_f2 h1_f3 h1_0 h1_0k h1_0c h0 h0_0 h0_f1 h0_2 h0_0 h0_0k h0_0c) s.heap := hP
  have hl := lv_entry ([.ref h0, .ref h1, .int 3]) (n := 6) (Nat.le_of_ble_eq_true rfl)
  rw [lg_entry_eq]
  generalize (lg_sl ([.ref h0, .ref h1, .int 3]) ++ List.replicate (6 - (lg_sl ([.ref h0, .ref h1, .int 3])).length) Slot.unset).toArray = ls at hl ⊢
  have hl : lv_has ls 6 [(0, .ref h0), (1, .ref h1), (2, .int 3)] := hl
  obtain ⟨H, hHe⟩ : ∃ H : Heap, s.heap = H := ⟨_, rfl⟩
  have hS : va_S A s.heap H [] := by rw [hHe]; exact va_S.rf
  have hP : va_P (dC, dI) vwCl (wd_c_X4_readAtom_3 h1 h1_0 h1_f1 h1_f2 h1_f3 h1_0 h1_0k h1_0c h0 h0_0 h0_f1 h0_2 h0_0 h0_0k h0_0c) H := by rw [← hHe]; exact hP
  rw [hHe]
  obtain ⟨RES, hR⟩ : ∃ z, fx_c_X4_readAtom_3 h1_f1 h1_f2 h1_f3 h1_0c h0_f1 h0_0c = z := ⟨_, rfl⟩
  have hEX : RES = fx_c_X4_readAtom_3 h1_f1 h1_f2 h1_f3 h1_0c h0_f1 h0_0c := hR.symm
  refine wj (fun G hG hU => ?_)
  as_aux_lemma =>
  have J65 : ∀ (j65_l5 : Int32) (j65_h1_f2 : Int32) (j65_h1_f3 : Int32) (g_h0_f1 : RG h0_f1 0 240) (g_h1_f1 : RG h1_f1 0 240) (g_h1_f2 : RG h1_f2 0 240) (g_h1_f3 : RG h1_f3 (-1) 240) (g_j65_h1_f2 : RG j65_h1_f2 0 240) (g_j65_h1_f3 : RG j65_h1_f3 (-1) 240) (g_j65_l5 : RG j65_l5 (-1) 9999) (hEX : RES = fx_c_X4_readAtom_3_p65 h0_f1 h0_0c j65_l5 j65_h1_f2 j65_h1_f3) (H : Heap) (locs : List Loc) (ls : Array Slot) (hP : va_P (dC, dI) vwCl (wd_c_X4_readAtom_3 h1 h1_0 h1_f1 j65_h1_f2 j65_h1_f3 h1_0 h1_0k h1_0c h0 h0_0 h0_f1 h0_2 h0_0 h0_0k h0_0c) H) (hD : va_D A (wd_c_X4_readAtom_3 h1 h1_0 h1_f1 j65_h1_f2 j65_h1_f3 h1_0 h1_0k h1_0c h0 h0_0 h0_f1 h0_2 h0_0 h0_0k h0_0c)) (hS : va_S A s.heap H locs) (hl : lv_has ls 6 [(5, .int j65_l5), (0, .ref h0)]), G H locs (F0 m 65 ls []) := by
    as_aux_lemma =>
    intro j65_l5 j65_h1_f2 j65_h1_f3 g_h0_f1 g_h1_f1 g_h1_f2 g_h1_f3 g_j65_h1_f2 g_j65_h1_f3 g_j65_l5 hEX H locs ls hP hD hS hl
    refine hG _ _ _ ?_
    refine lv_aload_n hx hb dX4_readAtom_65 rfl (lv_at hl 1 rfl) ?_
    refine lv_iload hx hb dX4_readAtom_66 (lv_at hl 0 rfl) ?_
    obtain ⟨hPc, hDc, hFc, hqc⟩ := cl_cut (wc := (wd_c_X4_emit_1 h0 h0_0 h0_f1 h0_2 h0_0 h0_0k h0_0c)) hP hD hS hA [2, 3] (by decide +kernel) rfl
    have hKc := hK.sub (tys' := [(h0_0k, .int)]) [1] rfl
    have hrv := va_recv hKc hPc (ci := 4) (q0 := 0) rfl rfl
    refine va_callv (va_runV (As := [.int j65_l5]) (rest := []) ⟨hx, hb, hml, hown, hts⟩ (c_X4_emit_1 l dC dI H.size h0 j65_l5 h0_0 h0_f1 h0_2 h0_0k h0_0c (RG_w g_j65_l5 (by decide +kernel)) g_h0_f1) (cwV 1 hts gf_c_X4_readAtom_3_c_X4_emit_1 rfl rfl rfl mdV_X4_emit ⟨Nat.le_of_ble_eq_true rfl, Nat.le_of_ble_eq_true rfl⟩) ⟨fun a U g mk q => by obtain ⟨q0, q1, qP, qK, qD⟩ := q; exact ⟨q0, q1, qP, va_K.moved (u := U) (U := U.calling g mk a) (Vm.Alike.refl U.vm) qK, qD⟩, hrv, fun U hU hW => ⟨rfl, by rw [hU], by rw [hU]; exact hPc, va_K.moved hW.alike hKc, hDc.weaken (fun _ _ _ _ => trivial)⟩⟩ rfl rfl hl.1 rfl (lv_room (Nat.le_of_ble_eq_true rfl)) dX4_readAtom_68 ⟨Nat.le_of_ble_eq_true rfl, Nat.le_of_ble_eq_true rfl⟩) hS (fun q _ h => hFc q h) hFc (fun u t H1 locs ht hvm hw hB hz1 hk1 hS => ?_)
    obtain ⟨x_2, w_3⟩ := u
    obtain ⟨hP1, hK1, hD1⟩ := hB
    rw [ht] at hP1
    obtain ⟨hP, hD⟩ := cl_put (w1 := (wd_c_X4_emit_1 h0 h0_0 x_2 h0_2 h0_0 h0_0k w_3)) (nw := (wd_c_X4_readAtom_3 h1 h1_0 h1_f1 j65_h1_f2 j65_h1_f3 h1_0 h1_0k h1_0c h0 h0_0 x_2 h0_2 h0_0 h0_0k w_3)) hP hD [2, 3] [0, 1, 4, 5] 4 rfl hqc (by decide +kernel) rfl hk1 hFc hP1 hD1
    generalize H1 = H at hP hS ⊢
    as_aux_lemma =>
    rcases hw with ⟨h_4, h_5⟩
    have h_5 : (x_2, w_3) = _ := h_5
    replace hEX := hEX.trans (exc2_eq h_5)
    refine lv_goto (tgt := 105) hx hb dX4_readAtom_71 rfl ?_
    have hK9 := hK.sub (tys' := []) [] rfl
    exact W.vret hx hb hr (fun t ht hW => ⟨⟨(j65_h1_f2, j65_h1_f3, x_2, w_3), rfl, ⟨g_j65_h1_f2, g_j65_h1_f3, (RG_w h_4 (by decide +kernel)), (hR.trans hEX).symm⟩, by rw [ht]; exact hP, va_K.moved hW.alike hK9, hD⟩, hS.F ht⟩) hS.2.2 dX4_readAtom_105
  have J20 : ∀ (j20_h1_f2 : Int32) (g_h0_f1 : RG h0_f1 0 240) (g_h1_f1 : RG h1_f1 0 240) (g_h1_f2 : RG h1_f2 0 240) (g_h1_f3 : RG h1_f3 (-1) 240) (g_j20_h1_f2 : RG j20_h1_f2 0 240) (hEX : RES = fx_c_X4_readAtom_3_p20 h1_f1 h1_f3 h1_0c h0_f1 h0_0c j20_h1_f2) (H : Heap) (locs : List Loc) (ls : Array Slot) (hP : va_P (dC, dI) vwCl (wd_c_X4_readAtom_3 h1 h1_0 h1_f1 j20_h1_f2 h1_f3 h1_0 h1_0k h1_0c h0 h0_0 h0_f1 h0_2 h0_0 h0_0k h0_0c) H) (hD : va_D A (wd_c_X4_readAtom_3 h1 h1_0 h1_f1 j20_h1_f2 h1_f3 h1_0 h1_0k h1_0c h0 h0_0 h0_f1 h0_2 h0_0 h0_0k h0_0c)) (hS : va_S A s.heap H locs) (hl : lv_has ls 6 [(3, .int (-1)), (0, .ref h0), (1, .ref h1), (2, .int 3)]), G H locs (F0 m 20 ls [.int (-1)]) := by
    as_aux_lemma =>
    intro j20_h1_f2 g_h0_f1 g_h1_f1 g_h1_f2 g_h1_f3 g_j20_h1_f2 hEX H locs ls hP hD hS hl
    refine hG _ _ _ ?_
    refine lv_istore (lv' := [(4, .int (-1)), (3, .int (-1)), (0, .ref h0), (1, .ref h1), (2, .int 3)]) hx hb dX4_readAtom_20 hl (Nat.le_of_ble_eq_true rfl) rfl (fun ls hl => ?_)
    refine lv_iload hx hb dX4_readAtom_22 (lv_at hl 0 rfl) ?_
    refine lv_if_lt (tgt := 42) hx hb dX4_readAtom_24 rfl (fun c_6 => ?_) (fun c_6 => absurd c_6 (by decide +kernel))
    refine lv_iload_n hx hb dX4_readAtom_42 rfl (lv_at hl 1 rfl) ?_
    refine lv_bipush (v := 91) hx hb dX4_readAtom_43 kc_bipush_91 ?_
    refine lv_icmp_eq (tgt := 74) hx hb dX4_readAtom_45 rfl (fun c_7 => absurd c_7 (by decide +kernel)) (fun c_7 => ?_)
    refine lv_aload_n hx hb dX4_readAtom_48 rfl (lv_at hl 3 rfl) ?_
    refine lv_iconst (v := 4) hx hb dX4_readAtom_49 kc_iconst_4 ?_
    obtain ⟨hPc, hDc, hFc, hqc⟩ := cl_cut (wc := (wd_c_X9_number_1 h1 h1_0 h1_f1 j20_h1_f2 h1_f3 h1_0 h1_0k h1_0c)) hP hD hS hA [0, 1] (by decide +kernel) rfl
    have hKc := hK.sub (tys' := [(h1_0k, .int)]) [0] rfl
    have hrv := va_recv hKc hPc (ci := 9) (q0 := 0) rfl rfl
    refine va_calli (va_runV (As := [.int 4]) (rest := []) ⟨hx, hb, hml, hown, hts⟩ (c_X9_number_1 l dC dI H.size h1 h1_0 h1_f1 j20_h1_f2 h1_f3 h1_0k h1_0c g_h1_f1 g_j20_h1_f2 g_h1_f3 a_h1_0c) (cwV 1 hts gf_c_X4_readAtom_3_c_X9_number_1 rfl rfl rfl mdV_X9_number ⟨Nat.le_of_ble_eq_true rfl, Nat.le_of_ble_eq_true rfl⟩) ⟨fun a U g mk q => by obtain ⟨q0, q1, qP, qK, qD⟩ := q; exact ⟨q0, q1, qP, va_K.moved (u := U) (U := U.calling g mk a) (Vm.Alike.refl U.vm) qK, qD⟩, hrv, fun U hU hW => ⟨rfl, by rw [hU], by rw [hU]; exact hPc, va_K.moved hW.alike hKc, hDc.weaken (fun _ _ _ _ => trivial)⟩⟩ rfl rfl hl.1 rfl (lv_room (Nat.le_of_ble_eq_true rfl)) dX4_readAtom_50 ⟨Nat.le_of_ble_eq_true rfl, Nat.le_of_ble_eq_true rfl⟩) hS (fun q _ h => hFc q h) hFc (fun r_8 x_9 t H1 locs ht hvm hw hB hz1 hk1 hS => ?_)
    as_aux_lemma =>
    obtain ⟨hP1, hK1, hD1⟩ := hB
    rw [ht] at hP1
    obtain ⟨hP, hD⟩ := cl_put (w1 := (wd_c_X9_number_1 h1 h1_0 h1_f1 x_9 h1_f3 h1_0 h1_0k h1_0c)) (nw := (wd_c_X4_readAtom_3 h1 h1_0 h1_f1 x_9 h1_f3 h1_0 h1_0k h1_0c h0 h0_0 h0_f1 h0_2 h0_0 h0_0k h0_0c)) hP hD [0, 1] [4, 5, 2, 3] 4 rfl hqc (by decide +kernel) rfl hk1 hFc hP1 hD1
    generalize H1 = H at hP hS ⊢
    as_aux_lemma =>
    rcases hw with ⟨h_10, h_11, h_12, h_13⟩ | ⟨h_14, h_15, h_16, h_17, h_18, h_19⟩
    · have h_13 : (r_8, x_9) = _ := h_13
      replace hEX := hEX.trans (exc2_eq h_13)
      replace hEX := hEX.trans (if_pos (show r_8 = (-1) from h_10))
      rw [h_10]
      refine lv_istore (lv' := [(5, .int (-1)), (4, .int (-1)), (3, .int (-1)), (0, .ref h0), (1, .ref h1), (2, .int 3)]) hx hb dX4_readAtom_53 hl (Nat.le_of_ble_eq_true rfl) rfl (fun ls hl => ?_)
      refine lv_iload hx hb dX4_readAtom_55 (lv_at hl 0 rfl) ?_
      refine lv_iconst (v := (-1)) hx hb dX4_readAtom_57 kc_iconst_m1 ?_
      refine lv_icmp_ne (tgt := 65) hx hb dX4_readAtom_58 rfl (fun c_20 => absurd c_20 (by decide +kernel)) (fun c_20 => ?_)
      refine lv_aload_n hx hb dX4_readAtom_61 rfl (lv_at hl 4 rfl) ?_
      obtain ⟨hPc, hDc, hFc, hqc⟩ := cl_cut (wc := (wd_c_X9_refuseHere h1 h1_0 h1_f1 x_9 h1_f3)) hP hD hS hA [0] (by decide +kernel) rfl
      have hKc := hK.sub (tys' := []) [] rfl
      have hrv := va_recv hKc hPc (ci := 9) (q0 := 0) rfl rfl
      refine va_callv (va_runV (As := []) (rest := []) ⟨hx, hb, hml, hown, hts⟩ (c_X9_refuseHere l dC dI H.size h1 h1_0 h1_f1 x_9 h1_f3 g_h1_f1 h_11 g_h1_f3) (cwV 0 hts gf_c_X4_readAtom_3_c_X9_refuseHere rfl rfl rfl mdV_X9_refuseHere ⟨Nat.le_of_ble_eq_true rfl, Nat.le_of_ble_eq_true rfl⟩) ⟨fun a U g mk q => by obtain ⟨q0, q1, qP, qK, qD⟩ := q; exact ⟨q0, q1, qP, va_K.moved (u := U) (U := U.calling g mk a) (Vm.Alike.refl U.vm) qK, qD⟩, hrv, fun U hU hW => ⟨rfl, by rw [hU], by rw [hU]; exact hPc, va_K.moved hW.alike hKc, hDc.weaken (fun _ _ _ _ => trivial)⟩⟩ rfl rfl hl.1 rfl (lv_room (Nat.le_of_ble_eq_true rfl)) dX4_readAtom_62 ⟨Nat.le_of_ble_eq_true rfl, Nat.le_of_ble_eq_true rfl⟩) hS (fun q _ h => hFc q h) hFc (fun x_22 t H1 locs ht hvm hw hB hz1 hk1 hS => ?_)
      as_aux_lemma =>
      obtain ⟨hP1, hK1, hD1⟩ := hB
      rw [ht] at hP1
      obtain ⟨hP, hD⟩ := cl_put (w1 := (wd_c_X9_refuseHere h1 h1_0 h1_f1 x_9 x_22)) (nw := (wd_c_X4_readAtom_3 h1 h1_0 h1_f1 x_9 x_22 h1_0 h1_0k h1_0c h0 h0_0 h0_f1 h0_2 h0_0 h0_0k h0_0c)) hP hD [0] [4, 1, 2, 3] 4 rfl hqc (by decide +kernel) rfl hk1 hFc hP1 hD1
      generalize H1 = H at hP hS ⊢
      as_aux_lemma =>
      rcases hw with ⟨h_23, h_24⟩
      have h_24 : x_22 = _ := h_24
      replace hEX := hEX.trans (exc1_eq h_24)
      exact hU _ _ _ (J65 (-1) x_9 x_22 g_h0_f1 g_h1_f1 g_h1_f2 g_h1_f3 h_11 (RG_w h_23 (by decide +kernel)) (RG_w (RG_k (-1) (-1) rfl) (by decide +kernel)) hEX _ _ _ hP hD hS (lv_sub hl [0, 3] rfl))
    · have h_19 : (r_8, x_9) = _ := h_19
      replace hEX := hEX.trans (exc2_eq h_19)
      replace hEX := hEX.trans (if_neg (RG_neq (x := r_8) (c := (-1)) (show RG r_8 0 9999 from h_14) (by decide +kernel)))
      refine lv_istore (lv' := [(5, .int r_8), (4, .int (-1)), (3, .int (-1)), (0, .ref h0), (1, .ref h1), (2, .int 3)]) hx hb dX4_readAtom_53 hl (Nat.le_of_ble_eq_true rfl) rfl (fun ls hl => ?_)
      refine lv_iload hx hb dX4_readAtom_55 (lv_at hl 0 rfl) ?_
      refine lv_iconst (v := (-1)) hx hb dX4_readAtom_57 kc_iconst_m1 ?_
      refine lv_icmp_ne (tgt := 65) hx hb dX4_readAtom_58 rfl (fun c_25 => ?_) (fun c_25 => ?_)
      · replace hEX := hEX.trans (if_neg c_25)
        exact hU _ _ _ (J65 r_8 x_9 h1_f3 g_h0_f1 (RG_w h_16 (by decide +kernel)) g_h1_f2 g_h1_f3 (RG_w h_15 (by decide +kernel)) g_h1_f3 (RG_w h_14 (by decide +kernel)) hEX _ _ _ hP hD hS (lv_sub hl [0, 3] rfl))
      · replace hEX := hEX.trans (if_pos c_25)
        exact RG_dead (RG_eq1 h_14 (RG_k (-1) (-1) rfl) c_25 (a' := 0) (b' := (-1)) (by decide +kernel)) (by decide +kernel)
  have J65b : ∀ (j65b_l5 : Int32) (j65b_h1_f2 : Int32) (j65b_h1_f3 : Int32) (g_h0_f1 : RG h0_f1 0 240) (g_h1_f1 : RG h1_f1 1 240) (g_h1_f2 : RG h1_f2 0 240) (g_h1_f3 : RG h1_f3 (-1) 240) (g_j65b_h1_f2 : RG j65b_h1_f2 0 240) (g_j65b_h1_f3 : RG j65b_h1_f3 (-1) 240) (g_j65b_l5 : RG j65b_l5 (-1) 9999) (hEX : RES = fx_c_X4_readAtom_3_p65b h0_f1 h0_0c j65b_l5 j65b_h1_f2 j65b_h1_f3) (H : Heap) (locs : List Loc) (ls : Array Slot) (hP : va_P (dC, dI) vwCl (wd_c_X4_readAtom_3 h1 h1_0 h1_f1 j65b_h1_f2 j65b_h1_f3 h1_0 h1_0k h1_0c h0 h0_0 h0_f1 h0_2 h0_0 h0_0k h0_0c) H) (hD : va_D A (wd_c_X4_readAtom_3 h1 h1_0 h1_f1 j65b_h1_f2 j65b_h1_f3 h1_0 h1_0k h1_0c h0 h0_0 h0_f1 h0_2 h0_0 h0_0k h0_0c)) (hS : va_S A s.heap H locs) (hl : lv_has ls 6 [(5, .int j65b_l5), (0, .ref h0)]), G H locs (F0 m 65 ls []) := by
    as_aux_lemma =>
    intro j65b_l5 j65b_h1_f2 j65b_h1_f3 g_h0_f1 g_h1_f1 g_h1_f2 g_h1_f3 g_j65b_h1_f2 g_j65b_h1_f3 g_j65b_l5 hEX H locs ls hP hD hS hl
    refine hG _ _ _ ?_
    refine lv_aload_n hx hb dX4_readAtom_65 rfl (lv_at hl 1 rfl) ?_
    refine lv_iload hx hb dX4_readAtom_66 (lv_at hl 0 rfl) ?_
    obtain ⟨hPc, hDc, hFc, hqc⟩ := cl_cut (wc := (wd_c_X4_emit_1 h0 h0_0 h0_f1 h0_2 h0_0 h0_0k h0_0c)) hP hD hS hA [2, 3] (by decide +kernel) rfl
    have hKc := hK.sub (tys' := [(h0_0k, .int)]) [1] rfl
    have hrv := va_recv hKc hPc (ci := 4) (q0 := 0) rfl rfl
    refine va_callv (va_runV (As := [.int j65b_l5]) (rest := []) ⟨hx, hb, hml, hown, hts⟩ (c_X4_emit_1 l dC dI H.size h0 j65b_l5 h0_0 h0_f1 h0_2 h0_0k h0_0c (RG_w g_j65b_l5 (by decide +kernel)) g_h0_f1) (cwV 1 hts gf_c_X4_readAtom_3_c_X4_emit_1 rfl rfl rfl mdV_X4_emit ⟨Nat.le_of_ble_eq_true rfl, Nat.le_of_ble_eq_true rfl⟩) ⟨fun a U g mk q => by obtain ⟨q0, q1, qP, qK, qD⟩ := q; exact ⟨q0, q1, qP, va_K.moved (u := U) (U := U.calling g mk a) (Vm.Alike.refl U.vm) qK, qD⟩, hrv, fun U hU hW => ⟨rfl, by rw [hU], by rw [hU]; exact hPc, va_K.moved hW.alike hKc, hDc.weaken (fun _ _ _ _ => trivial)⟩⟩ rfl rfl hl.1 rfl (lv_room (Nat.le_of_ble_eq_true rfl)) dX4_readAtom_68 ⟨Nat.le_of_ble_eq_true rfl, Nat.le_of_ble_eq_true rfl⟩) hS (fun q _ h => hFc q h) hFc (fun u t H1 locs ht hvm hw hB hz1 hk1 hS => ?_)
    obtain ⟨x_27, w_28⟩ := u
    obtain ⟨hP1, hK1, hD1⟩ := hB
    rw [ht] at hP1
    obtain ⟨hP, hD⟩ := cl_put (w1 := (wd_c_X4_emit_1 h0 h0_0 x_27 h0_2 h0_0 h0_0k w_28)) (nw := (wd_c_X4_readAtom_3 h1 h1_0 h1_f1 j65b_h1_f2 j65b_h1_f3 h1_0 h1_0k h1_0c h0 h0_0 x_27 h0_2 h0_0 h0_0k w_28)) hP hD [2, 3] [0, 1, 4, 5] 4 rfl hqc (by decide +kernel) rfl hk1 hFc hP1 hD1
    generalize H1 = H at hP hS ⊢
    as_aux_lemma =>
    rcases hw with ⟨h_29, h_30⟩
    have h_30 : (x_27, w_28) = _ := h_30
    replace hEX := hEX.trans (exc2_eq h_30)
    refine lv_goto (tgt := 105) hx hb dX4_readAtom_71 rfl ?_
    have hK9 := hK.sub (tys' := []) [] rfl
    exact W.vret hx hb hr (fun t ht hW => ⟨⟨(j65b_h1_f2, j65b_h1_f3, x_27, w_28), rfl, ⟨g_j65b_h1_f2, g_j65b_h1_f3, (RG_w h_29 (by decide +kernel)), (hR.trans hEX).symm⟩, by rw [ht]; exact hP, va_K.moved hW.alike hK9, hD⟩, hS.F ht⟩) hS.2.2 dX4_readAtom_105
  have J20b : ∀ (j20b_l3 : Int32) (j20b_h1_f2 : Int32) (g_h0_f1 : RG h0_f1 0 240) (g_h1_f1 : RG h1_f1 1 240) (g_h1_f2 : RG h1_f2 0 240) (g_h1_f3 : RG h1_f3 (-1) 240) (g_j20b_h1_f2 : RG j20b_h1_f2 0 239) (g_j20b_l3 : RG j20b_l3 0 255) (hEX : RES = fx_c_X4_readAtom_3_p20b h1_f1 h1_f3 h1_0c h0_f1 h0_0c j20b_l3 j20b_h1_f2) (H : Heap) (locs : List Loc) (ls : Array Slot) (hP : va_P (dC, dI) vwCl (wd_c_X4_readAtom_3 h1 h1_0 h1_f1 j20b_h1_f2 h1_f3 h1_0 h1_0k h1_0c h0 h0_0 h0_f1 h0_2 h0_0 h0_0k h0_0c) H) (hD : va_D A (wd_c_X4_readAtom_3 h1 h1_0 h1_f1 j20b_h1_f2 h1_f3 h1_0 h1_0k h1_0c h0 h0_0 h0_f1 h0_2 h0_0 h0_0k h0_0c)) (hS : va_S A s.heap H locs) (hl : lv_has ls 6 [(3, .int j20b_l3), (0, .ref h0), (1, .ref h1), (2, .int 3)]), G H locs (F0 m 20 ls [.int (-1)]) := by
    as_aux_lemma =>
    intro j20b_l3 j20b_h1_f2 g_h0_f1 g_h1_f1 g_h1_f2 g_h1_f3 g_j20b_h1_f2 g_j20b_l3 hEX H locs ls hP hD hS hl
    refine hG _ _ _ ?_
    refine lv_istore (lv' := [(4, .int (-1)), (3, .int j20b_l3), (0, .ref h0), (1, .ref h1), (2, .int 3)]) hx hb dX4_readAtom_20 hl (Nat.le_of_ble_eq_true rfl) rfl (fun ls hl => ?_)
    refine lv_iload hx hb dX4_readAtom_22 (lv_at hl 0 rfl) ?_
    refine lv_if_lt (tgt := 42) hx hb dX4_readAtom_24 rfl (fun c_31 => ?_) (fun c_31 => absurd c_31 (by decide +kernel))
    refine lv_iload_n hx hb dX4_readAtom_42 rfl (lv_at hl 1 rfl) ?_
    refine lv_bipush (v := 91) hx hb dX4_readAtom_43 kc_bipush_91 ?_
    refine lv_icmp_eq (tgt := 74) hx hb dX4_readAtom_45 rfl (fun c_32 => ?_) (fun c_32 => ?_)
    · replace hEX := hEX.trans (if_pos c_32)
      have g_33 : RG j20b_l3 91 91 := RG_eq1 g_j20b_l3 (RG_k 91 91 rfl) c_32 (by decide +kernel)
      refine lv_iload_n hx hb dX4_readAtom_74 rfl (lv_at hl 4 rfl) ?_
      refine lv_bipush (v := 6) hx hb dX4_readAtom_75 kc_bipush_6 ?_
      refine lv_icmp_lt (tgt := 87) hx hb dX4_readAtom_77 rfl (fun c_34 => ?_) (fun c_34 => absurd c_34 (by decide +kernel))
      refine lv_aload_n hx hb dX4_readAtom_87 rfl (lv_at hl 3 rfl) ?_
      as_aux_lemma =>
      obtain ⟨hPc, hDc, hFc, hqc⟩ := cl_cut (wc := (wd_c_X9_skip h1 h1_0 h1_f1 j20b_h1_f2 h1_f3)) hP hD hS hA [0] (by decide +kernel) rfl
      have hKc := hK.sub (tys' := []) [] rfl
      have hrv := va_recv hKc hPc (ci := 9) (q0 := 0) rfl rfl
      refine va_callv (va_runV (As := []) (rest := []) ⟨hx, hb, hml, hown, hts⟩ (c_X9_skip l dC dI H.size h1 h1_0 h1_f1 j20b_h1_f2 h1_f3 (RG_w g_h1_f1 (by decide +kernel)) g_j20b_h1_f2 g_h1_f3) (cwV 0 hts gf_c_X4_readAtom_3_c_X9_skip rfl rfl rfl mdV_X9_skip ⟨Nat.le_of_ble_eq_true rfl, Nat.le_of_ble_eq_true rfl⟩) ⟨fun a U g mk q => by obtain ⟨q0, q1, qP, qK, qD⟩ := q; exact ⟨q0, q1, qP, va_K.moved (u := U) (U := U.calling g mk a) (Vm.Alike.refl U.vm) qK, qD⟩, hrv, fun U hU hW => ⟨rfl, by rw [hU], by rw [hU]; exact hPc, va_K.moved hW.alike hKc, hDc.weaken (fun _ _ _ _ => trivial)⟩⟩ rfl rfl hl.1 rfl (lv_room (Nat.le_of_ble_eq_true rfl)) dX4_readAtom_88 ⟨Nat.le_of_ble_eq_true rfl, Nat.le_of_ble_eq_true rfl⟩) hS (fun q _ h => hFc q h) hFc (fun x_36 t H1 locs ht hvm hw hB hz1 hk1 hS => ?_)
      obtain ⟨hP1, hK1, hD1⟩ := hB
      rw [ht] at hP1
      obtain ⟨hP, hD⟩ := cl_put (w1 := (wd_c_X9_skip h1 h1_0 h1_f1 x_36 h1_f3)) (nw := (wd_c_X4_readAtom_3 h1 h1_0 h1_f1 x_36 h1_f3 h1_0 h1_0k h1_0c h0 h0_0 h0_f1 h0_2 h0_0 h0_0k h0_0c)) hP hD [0] [4, 1, 2, 3] 4 rfl hqc (by decide +kernel) rfl hk1 hFc hP1 hD1
      generalize H1 = H at hP hS ⊢
      as_aux_lemma =>
      rcases hw with ⟨h_37, h_38, h_39, h_40⟩
      have h_40 : x_36 = _ := h_40
      replace hEX := hEX.trans (exc1_eq h_40)
      refine lv_aload_n hx hb dX4_readAtom_91 rfl (lv_at hl 2 rfl) ?_
      refine lv_aload_n hx hb dX4_readAtom_92 rfl (lv_at hl 3 rfl) ?_
      refine lv_iload_n hx hb dX4_readAtom_93 rfl (lv_at hl 4 rfl) ?_
      refine lv_iconst (v := 1) hx hb dX4_readAtom_94 kc_iconst_1 ?_
      refine lv_iadd hx hb dX4_readAtom_95 ?_
      refine lv_topi (fun x_41 ex_41 => ?_)
      obtain rfl : x_41 = 4 := ex_41.trans (by decide +kernel)
      obtain ⟨hPc, hDc, hFc, hqc⟩ := cl_cut (wc := (wd_c_X4_readSum_4 h1 h1_0 h1_f1 x_36 h1_f3 h1_0 h1_0k h1_0c h0 h0_0 h0_f1 h0_2 h0_0 h0_0k h0_0c)) hP hD hS hA [0, 1, 2, 3] (by decide +kernel) rfl
      have hKc := hK.sub (tys' := [(h1_0k, .int), (h0_0k, .int)]) [0, 1] rfl
      have hrv := va_recv hKc hPc (ci := 4) (q0 := 2) rfl rfl
      refine va_callv (va_runV (As := [.ref h1, .int 4]) (rest := []) ⟨hx, hb, hml, hown, hts⟩ (c_X4_readSum_4 l dC dI H.size h0 h1 h1_0 h1_f1 x_36 h1_f3 h1_0k h1_0c h0_0 h0_f1 h0_2 h0_0k h0_0c ts4 tv4 (RG_w g_h1_f1 (by decide +kernel)) (RG_w h_37 (by decide +kernel)) g_h1_f3 a_h1_0c g_h0_f1) (cwV 2 hts gf_c_X4_readAtom_3_c_X4_readSum_4 rfl rfl rfl mdV_X4_readSum ⟨Nat.le_of_ble_eq_true rfl, Nat.le_of_ble_eq_true rfl⟩) ⟨fun a U g mk q => by obtain ⟨q0, q1, qP, qK, qD, qE0, qE1, qE2, qE3, qE4, qE5⟩ := q; exact ⟨q0, q1, qP, va_K.moved (u := U) (U := U.calling g mk a) (Vm.Alike.refl U.vm) qK, qD, vk_R.same rfl qE0, va_Z.moved (u := U) (U := U.calling g mk a) (Vm.Alike.refl U.vm) qE1, va_OF.moved (u := U) (U := U.calling g mk a) (Vm.Alike.refl U.vm) qE2, va_O.moved (u := U) (U := U.calling g mk a) (Vm.Alike.refl U.vm) qE3, va_OF.moved (u := U) (U := U.calling g mk a) (Vm.Alike.refl U.vm) qE4, va_T.moved (u := U) (U := U.calling g mk a) (Vm.Alike.refl U.vm) qE5⟩, hrv, fun U hU hW => ⟨rfl, by rw [hU], by rw [hU]; exact hPc, va_K.moved hW.alike hKc, hDc.weaken (fun _ _ _ _ => trivial), vk_R.warm hW hE_32, va_Z.moved hW.alike (by rw [hU]; exact (hE_10.kept hS.2.1).narrow hFc), va_OF.moved hW.alike (by rw [hU]; exact (hE_34.kept hS.2.1).narrow hFc), va_O.moved hW.alike (by rw [hU]; exact (hE_33.kept hS.2.1).narrow hFc), va_OF.moved hW.alike (by rw [hU]; exact (hE_35.kept hS.2.1).narrow hFc), va_T.moved hW.alike (by rw [hU]; exact (hE_36.kept hS.2.1).narrow hFc)⟩⟩ rfl rfl hl.1 rfl (lv_room (Nat.le_of_ble_eq_true rfl)) dX4_readAtom_96 ⟨Nat.le_of_ble_eq_true rfl, Nat.le_of_ble_eq_true rfl⟩) hS (fun q _ h => hFc q h) hFc (fun u t H1 locs ht hvm hw hB hz1 hk1 hS => ?_)
      as_aux_lemma =>
      obtain ⟨x_43, x_44, x_45, w_46⟩ := u
      obtain ⟨hP1, hK1, hD1⟩ := hB
      rw [ht] at hP1
      obtain ⟨hP, hD⟩ := cl_put (w1 := (wd_c_X4_readSum_4 h1 h1_0 h1_f1 x_43 x_44 h1_0 h1_0k h1_0c h0 h0_0 x_45 h0_2 h0_0 h0_0k w_46)) (nw := (wd_c_X4_readAtom_3 h1 h1_0 h1_f1 x_43 x_44 h1_0 h1_0k h1_0c h0 h0_0 x_45 h0_2 h0_0 h0_0k w_46)) hP hD [0, 1, 2, 3] [4, 5, 6, 7] 4 rfl hqc (by decide +kernel) rfl hk1 hFc hP1 hD1
      generalize H1 = H at hP hS ⊢
      as_aux_lemma =>
      rcases hw with ⟨h_47, h_48, h_49, h_50⟩
      have h_50 : (x_43, x_44, x_45, w_46) = _ := h_50
      replace hEX := hEX.trans (exc4_eq h_50)
      refine lv_aload_n hx hb dX4_readAtom_99 rfl (lv_at hl 3 rfl) ?_
      refine lv_bipush (v := 93) hx hb dX4_readAtom_100 kc_bipush_93 ?_
      obtain ⟨hPc, hDc, hFc, hqc⟩ := cl_cut (wc := (wd_c_X9_expect_2 h1 h1_0 h1_f1 x_43 x_44 h1_0 h1_0k h1_0c)) hP hD hS hA [0, 1] (by decide +kernel) rfl
      have hKc := hK.sub (tys' := [(h1_0k, .int)]) [0] rfl
      have hrv := va_recv hKc hPc (ci := 9) (q0 := 0) rfl rfl
      refine va_callv (va_runV (As := [.int 93]) (rest := []) ⟨hx, hb, hml, hown, hts⟩ (c_X9_expect_2 l dC dI H.size h1 93 h1_0 h1_f1 x_43 x_44 h1_0k h1_0c (RG_w (RG_k 93 93 rfl) (by decide +kernel)) (RG_w g_h1_f1 (by decide +kernel)) h_47 h_48 a_h1_0c) (cwV 1 hts gf_c_X4_readAtom_3_c_X9_expect_2 rfl rfl rfl mdV_X9_expect ⟨Nat.le_of_ble_eq_true rfl, Nat.le_of_ble_eq_true rfl⟩) ⟨fun a U g mk q => by obtain ⟨q0, q1, qP, qK, qD⟩ := q; exact ⟨q0, q1, qP, va_K.moved (u := U) (U := U.calling g mk a) (Vm.Alike.refl U.vm) qK, qD⟩, hrv, fun U hU hW => ⟨rfl, by rw [hU], by rw [hU]; exact hPc, va_K.moved hW.alike hKc, hDc.weaken (fun _ _ _ _ => trivial)⟩⟩ rfl rfl hl.1 rfl (lv_room (Nat.le_of_ble_eq_true rfl)) dX4_readAtom_102 ⟨Nat.le_of_ble_eq_true rfl, Nat.le_of_ble_eq_true rfl⟩) hS (fun q _ h => hFc q h) hFc (fun u t H1 locs ht hvm hw hB hz1 hk1 hS => ?_)
      obtain ⟨x_52, x_53⟩ := u
      obtain ⟨hP1, hK1, hD1⟩ := hB
      rw [ht] at hP1
      obtain ⟨hP, hD⟩ := cl_put (w1 := (wd_c_X9_expect_2 h1 h1_0 h1_f1 x_52 x_53 h1_0 h1_0k h1_0c)) (nw := (wd_c_X4_readAtom_3 h1 h1_0 h1_f1 x_52 x_53 h1_0 h1_0k h1_0c h0 h0_0 x_45 h0_2 h0_0 h0_0k w_46)) hP hD [0, 1] [4, 5, 2, 3] 4 rfl hqc (by decide +kernel) rfl hk1 hFc hP1 hD1
      generalize H1 = H at hP hS ⊢
      as_aux_lemma =>
      rcases hw with ⟨h_54, h_55, h_56, h_57⟩
      have h_57 : (x_52, x_53) = _ := h_57
      replace hEX := hEX.trans (exc2_eq h_57)
      have hK9 := hK.sub (tys' := []) [] rfl
      exact W.vret hx hb hr (fun t ht hW => ⟨⟨(x_52, x_53, x_45, w_46), rfl, ⟨h_54, h_55, h_49, (hR.trans hEX).symm⟩, by rw [ht]; exact hP, va_K.moved hW.alike hK9, hD⟩, hS.F ht⟩) hS.2.2 dX4_readAtom_105
    · replace hEX := hEX.trans (if_neg c_32)
      refine lv_aload_n hx hb dX4_readAtom_48 rfl (lv_at hl 3 rfl) ?_
      refine lv_iconst (v := 4) hx hb dX4_readAtom_49 kc_iconst_4 ?_
      obtain ⟨hPc, hDc, hFc, hqc⟩ := cl_cut (wc := (wd_c_X9_number_1 h1 h1_0 h1_f1 j20b_h1_f2 h1_f3 h1_0 h1_0k h1_0c)) hP hD hS hA [0, 1] (by decide +kernel) rfl
      have hKc := hK.sub (tys' := [(h1_0k, .int)]) [0] rfl
      have hrv := va_recv hKc hPc (ci := 9) (q0 := 0) rfl rfl
      refine va_calli (va_runV (As := [.int 4]) (rest := []) ⟨hx, hb, hml, hown, hts⟩ (c_X9_number_1 l dC dI H.size h1 h1_0 h1_f1 j20b_h1_f2 h1_f3 h1_0k h1_0c (RG_w g_h1_f1 (by decide +kernel)) (RG_w g_j20b_h1_f2 (by decide +kernel)) g_h1_f3 a_h1_0c) (cwV 1 hts gf_c_X4_readAtom_3_c_X9_number_1 rfl rfl rfl mdV_X9_number ⟨Nat.le_of_ble_eq_true rfl, Nat.le_of_ble_eq_true rfl⟩) ⟨fun a U g mk q => by obtain ⟨q0, q1, qP, qK, qD⟩ := q; exact ⟨q0, q1, qP, va_K.moved (u := U) (U := U.calling g mk a) (Vm.Alike.refl U.vm) qK, qD⟩, hrv, fun U hU hW => ⟨rfl, by rw [hU], by rw [hU]; exact hPc, va_K.moved hW.alike hKc, hDc.weaken (fun _ _ _ _ => trivial)⟩⟩ rfl rfl hl.1 rfl (lv_room (Nat.le_of_ble_eq_true rfl)) dX4_readAtom_50 ⟨Nat.le_of_ble_eq_true rfl, Nat.le_of_ble_eq_true rfl⟩) hS (fun q _ h => hFc q h) hFc (fun r_58 x_59 t H1 locs ht hvm hw hB hz1 hk1 hS => ?_)
      obtain ⟨hP1, hK1, hD1⟩ := hB
      rw [ht] at hP1
      obtain ⟨hP, hD⟩ := cl_put (w1 := (wd_c_X9_number_1 h1 h1_0 h1_f1 x_59 h1_f3 h1_0 h1_0k h1_0c)) (nw := (wd_c_X4_readAtom_3 h1 h1_0 h1_f1 x_59 h1_f3 h1_0 h1_0k h1_0c h0 h0_0 h0_f1 h0_2 h0_0 h0_0k h0_0c)) hP hD [0, 1] [4, 5, 2, 3] 4 rfl hqc (by decide +kernel) rfl hk1 hFc hP1 hD1
      generalize H1 = H at hP hS ⊢
      as_aux_lemma =>
      rcases hw with ⟨h_60, h_61, h_62, h_63⟩ | ⟨h_64, h_65, h_66, h_67, h_68, h_69⟩
      · have h_63 : (r_58, x_59) = _ := h_63
        replace hEX := hEX.trans (exc2_eq h_63)
        replace hEX := hEX.trans (if_pos (show r_58 = (-1) from h_60))
        rw [h_60]
        refine lv_istore (lv' := [(5, .int (-1)), (4, .int (-1)), (3, .int j20b_l3), (0, .ref h0), (1, .ref h1), (2, .int 3)]) hx hb dX4_readAtom_53 hl (Nat.le_of_ble_eq_true rfl) rfl (fun ls hl => ?_)
        refine lv_iload hx hb dX4_readAtom_55 (lv_at hl 0 rfl) ?_
        refine lv_iconst (v := (-1)) hx hb dX4_readAtom_57 kc_iconst_m1 ?_
        refine lv_icmp_ne (tgt := 65) hx hb dX4_readAtom_58 rfl (fun c_70 => absurd c_70 (by decide +kernel)) (fun c_70 => ?_)
        refine lv_aload_n hx hb dX4_readAtom_61 rfl (lv_at hl 4 rfl) ?_
        obtain ⟨hPc, hDc, hFc, hqc⟩ := cl_cut (wc := (wd_c_X9_refuseHere h1 h1_0 h1_f1 x_59 h1_f3)) hP hD hS hA [0] (by decide +kernel) rfl
        have hKc := hK.sub (tys' := []) [] rfl
        have hrv := va_recv hKc hPc (ci := 9) (q0 := 0) rfl rfl
        refine va_callv (va_runV (As := []) (rest := []) ⟨hx, hb, hml, hown, hts⟩ (c_X9_refuseHere l dC dI H.size h1 h1_0 h1_f1 x_59 h1_f3 (RG_w g_h1_f1 (by decide +kernel)) h_61 g_h1_f3) (cwV 0 hts gf_c_X4_readAtom_3_c_X9_refuseHere rfl rfl rfl mdV_X9_refuseHere ⟨Nat.le_of_ble_eq_true rfl, Nat.le_of_ble_eq_true rfl⟩) ⟨fun a U g mk q => by obtain ⟨q0, q1, qP, qK, qD⟩ := q; exact ⟨q0, q1, qP, va_K.moved (u := U) (U := U.calling g mk a) (Vm.Alike.refl U.vm) qK, qD⟩, hrv, fun U hU hW => ⟨rfl, by rw [hU], by rw [hU]; exact hPc, va_K.moved hW.alike hKc, hDc.weaken (fun _ _ _ _ => trivial)⟩⟩ rfl rfl hl.1 rfl (lv_room (Nat.le_of_ble_eq_true rfl)) dX4_readAtom_62 ⟨Nat.le_of_ble_eq_true rfl, Nat.le_of_ble_eq_true rfl⟩) hS (fun q _ h => hFc q h) hFc (fun x_72 t H1 locs ht hvm hw hB hz1 hk1 hS => ?_)
        as_aux_lemma =>
        obtain ⟨hP1, hK1, hD1⟩ := hB
        rw [ht] at hP1
        obtain ⟨hP, hD⟩ := cl_put (w1 := (wd_c_X9_refuseHere h1 h1_0 h1_f1 x_59 x_72)) (nw := (wd_c_X4_readAtom_3 h1 h1_0 h1_f1 x_59 x_72 h1_0 h1_0k h1_0c h0 h0_0 h0_f1 h0_2 h0_0 h0_0k h0_0c)) hP hD [0] [4, 1, 2, 3] 4 rfl hqc (by decide +kernel) rfl hk1 hFc hP1 hD1
        generalize H1 = H at hP hS ⊢
        as_aux_lemma =>
        rcases hw with ⟨h_73, h_74⟩
        have h_74 : x_72 = _ := h_74
        replace hEX := hEX.trans (exc1_eq h_74)
        exact hU _ _ _ (J65b (-1) x_59 x_72 g_h0_f1 g_h1_f1 g_h1_f2 g_h1_f3 h_61 (RG_w h_73 (by decide +kernel)) (RG_w (RG_k (-1) (-1) rfl) (by decide +kernel)) hEX _ _ _ hP hD hS (lv_sub hl [0, 3] rfl))
      · have h_69 : (r_58, x_59) = _ := h_69
        replace hEX := hEX.trans (exc2_eq h_69)
        replace hEX := hEX.trans (if_neg (RG_neq (x := r_58) (c := (-1)) (show RG r_58 0 9999 from h_64) (by decide +kernel)))
        refine lv_istore (lv' := [(5, .int r_58), (4, .int (-1)), (3, .int j20b_l3), (0, .ref h0), (1, .ref h1), (2, .int 3)]) hx hb dX4_readAtom_53 hl (Nat.le_of_ble_eq_true rfl) rfl (fun ls hl => ?_)
        refine lv_iload hx hb dX4_readAtom_55 (lv_at hl 0 rfl) ?_
        refine lv_iconst (v := (-1)) hx hb dX4_readAtom_57 kc_iconst_m1 ?_
        refine lv_icmp_ne (tgt := 65) hx hb dX4_readAtom_58 rfl (fun c_75 => ?_) (fun c_75 => ?_)
        · replace hEX := hEX.trans (if_neg c_75)
          exact hU _ _ _ (J65b r_58 x_59 h1_f3 g_h0_f1 g_h1_f1 g_h1_f2 g_h1_f3 (RG_w h_65 (by decide +kernel)) g_h1_f3 (RG_w h_64 (by decide +kernel)) hEX _ _ _ hP hD hS (lv_sub hl [0, 3] rfl))
        · replace hEX := hEX.trans (if_pos c_75)
          exact RG_dead (RG_eq1 h_64 (RG_k (-1) (-1) rfl) c_75 (a' := 0) (b' := (-1)) (by decide +kernel)) (by decide +kernel)
  have J20c : ∀ (j20c_l3 : Int32) (j20c_s0 : Int32) (j20c_h1_f2 : Int32) (g_h0_f1 : RG h0_f1 0 240) (g_h1_f1 : RG h1_f1 1 240) (g_h1_f2 : RG h1_f2 0 240) (g_h1_f3 : RG h1_f3 (-1) 240) (g_j20c_h1_f2 : RG j20c_h1_f2 0 239) (g_j20c_l3 : RG j20c_l3 0 255) (g_j20c_s0 : RG j20c_s0 0 5) (hEX : RES = fx_c_X4_readAtom_3_p20c h1_f3 h0_f1 h0_0c j20c_s0 j20c_h1_f2) (H : Heap) (locs : List Loc) (ls : Array Slot) (hP : va_P (dC, dI) vwCl (wd_c_X4_readAtom_3 h1 h1_0 h1_f1 j20c_h1_f2 h1_f3 h1_0 h1_0k h1_0c h0 h0_0 h0_f1 h0_2 h0_0 h0_0k h0_0c) H) (hD : va_D A (wd_c_X4_readAtom_3 h1 h1_0 h1_f1 j20c_h1_f2 h1_f3 h1_0 h1_0k h1_0c h0 h0_0 h0_f1 h0_2 h0_0 h0_0k h0_0c)) (hS : va_S A s.heap H locs) (hl : lv_has ls 6 [(3, .int j20c_l3), (0, .ref h0), (1, .ref h1), (2, .int 3)]), G H locs (F0 m 20 ls [.int j20c_s0]) := by
    as_aux_lemma =>
    intro j20c_l3 j20c_s0 j20c_h1_f2 g_h0_f1 g_h1_f1 g_h1_f2 g_h1_f3 g_j20c_h1_f2 g_j20c_l3 g_j20c_s0 hEX H locs ls hP hD hS hl
    refine hG _ _ _ ?_
    refine lv_istore (lv' := [(4, .int j20c_s0), (3, .int j20c_l3), (0, .ref h0), (1, .ref h1), (2, .int 3)]) hx hb dX4_readAtom_20 hl (Nat.le_of_ble_eq_true rfl) rfl (fun ls hl => ?_)
    refine lv_iload hx hb dX4_readAtom_22 (lv_at hl 0 rfl) ?_
    refine lv_if_lt (tgt := 42) hx hb dX4_readAtom_24 rfl (fun c_76 => ?_) (fun c_76 => ?_)
    · replace hEX := hEX.trans (if_pos c_76)
      have g_77 : RG j20c_s0 0 (-1) := RG_lt1 g_j20c_s0 (RG_k 0 0 rfl) c_76 (by decide +kernel)
      exact RG_dead (RG_lt1 g_j20c_s0 (RG_k 0 0 rfl) c_76 (b' := (-1)) (by decide +kernel)) (by decide +kernel)
    · replace hEX := hEX.trans (if_neg c_76)
      have d_78 := Int32.not_lt.mp c_76
      refine lv_aload_n hx hb dX4_readAtom_27 rfl (lv_at hl 3 rfl) ?_
      obtain ⟨hPc, hDc, hFc, hqc⟩ := cl_cut (wc := (wd_c_X9_skip h1 h1_0 h1_f1 j20c_h1_f2 h1_f3)) hP hD hS hA [0] (by decide +kernel) rfl
      have hKc := hK.sub (tys' := []) [] rfl
      have hrv := va_recv hKc hPc (ci := 9) (q0 := 0) rfl rfl
      refine va_callv (va_runV (As := []) (rest := []) ⟨hx, hb, hml, hown, hts⟩ (c_X9_skip l dC dI H.size h1 h1_0 h1_f1 j20c_h1_f2 h1_f3 (RG_w g_h1_f1 (by decide +kernel)) g_j20c_h1_f2 g_h1_f3) (cwV 0 hts gf_c_X4_readAtom_3_c_X9_skip rfl rfl rfl mdV_X9_skip ⟨Nat.le_of_ble_eq_true rfl, Nat.le_of_ble_eq_true rfl⟩) ⟨fun a U g mk q => by obtain ⟨q0, q1, qP, qK, qD⟩ := q; exact ⟨q0, q1, qP, va_K.moved (u := U) (U := U.calling g mk a) (Vm.Alike.refl U.vm) qK, qD⟩, hrv, fun U hU hW => ⟨rfl, by rw [hU], by rw [hU]; exact hPc, va_K.moved hW.alike hKc, hDc.weaken (fun _ _ _ _ => trivial)⟩⟩ rfl rfl hl.1 rfl (lv_room (Nat.le_of_ble_eq_true rfl)) dX4_readAtom_28 ⟨Nat.le_of_ble_eq_true rfl, Nat.le_of_ble_eq_true rfl⟩) hS (fun q _ h => hFc q h) hFc (fun x_80 t H1 locs ht hvm hw hB hz1 hk1 hS => ?_)
      as_aux_lemma =>
      obtain ⟨hP1, hK1, hD1⟩ := hB
      rw [ht] at hP1
      obtain ⟨hP, hD⟩ := cl_put (w1 := (wd_c_X9_skip h1 h1_0 h1_f1 x_80 h1_f3)) (nw := (wd_c_X4_readAtom_3 h1 h1_0 h1_f1 x_80 h1_f3 h1_0 h1_0k h1_0c h0 h0_0 h0_f1 h0_2 h0_0 h0_0k h0_0c)) hP hD [0] [4, 1, 2, 3] 4 rfl hqc (by decide +kernel) rfl hk1 hFc hP1 hD1
      generalize H1 = H at hP hS ⊢
      as_aux_lemma =>
      rcases hw with ⟨h_81, h_82, h_83, h_84⟩
      have h_84 : x_80 = _ := h_84
      replace hEX := hEX.trans (exc1_eq h_84)
      refine lv_aload_n hx hb dX4_readAtom_31 rfl (lv_at hl 2 rfl) ?_
      refine lv_iconst (v := (-1)) hx hb dX4_readAtom_32 kc_iconst_m1 ?_
      refine lv_iload hx hb dX4_readAtom_33 (lv_at hl 0 rfl) ?_
      refine lv_isub hx hb dX4_readAtom_35 ?_
      refine lv_topi (fun x_85 ex_85 => ?_)
      replace hEX := hEX.trans (exl_eq ex_85)
      have g_86 : RG x_85 (-6) (-1) := RG_sub ex_85 (RG_k (-1) (-1) rfl) g_j20c_s0 (by decide +kernel)
      obtain ⟨hPc, hDc, hFc, hqc⟩ := cl_cut (wc := (wd_c_X4_emit h0 h0_0 h0_f1 h0_2 h0_0 h0_0k h0_0c)) hP hD hS hA [2, 3] (by decide +kernel) rfl
      have hKc := hK.sub (tys' := [(h0_0k, .int)]) [1] rfl
      have hrv := va_recv hKc hPc (ci := 4) (q0 := 0) rfl rfl
      refine va_callv (va_runV (As := [.int x_85]) (rest := []) ⟨hx, hb, hml, hown, hts⟩ (c_X4_emit l dC dI H.size h0 x_85 h0_0 h0_f1 h0_2 h0_0k h0_0c g_h0_f1) (cwV 1 hts gf_c_X4_readAtom_3_c_X4_emit rfl rfl rfl mdV_X4_emit ⟨Nat.le_of_ble_eq_true rfl, Nat.le_of_ble_eq_true rfl⟩) ⟨fun a U g mk q => by obtain ⟨q0, q1, qP, qK, qD⟩ := q; exact ⟨q0, q1, qP, va_K.moved (u := U) (U := U.calling g mk a) (Vm.Alike.refl U.vm) qK, qD⟩, hrv, fun U hU hW => ⟨rfl, by rw [hU], by rw [hU]; exact hPc, va_K.moved hW.alike hKc, hDc.weaken (fun _ _ _ _ => trivial)⟩⟩ rfl rfl hl.1 rfl (lv_room (Nat.le_of_ble_eq_true rfl)) dX4_readAtom_36 ⟨Nat.le_of_ble_eq_true rfl, Nat.le_of_ble_eq_true rfl⟩) hS (fun q _ h => hFc q h) hFc (fun u t H1 locs ht hvm hw hB hz1 hk1 hS => ?_)
      as_aux_lemma =>
      obtain ⟨x_88, w_89⟩ := u
      obtain ⟨hP1, hK1, hD1⟩ := hB
      rw [ht] at hP1
      obtain ⟨hP, hD⟩ := cl_put (w1 := (wd_c_X4_emit h0 h0_0 x_88 h0_2 h0_0 h0_0k w_89)) (nw := (wd_c_X4_readAtom_3 h1 h1_0 h1_f1 x_80 h1_f3 h1_0 h1_0k h1_0c h0 h0_0 x_88 h0_2 h0_0 h0_0k w_89)) hP hD [2, 3] [0, 1, 4, 5] 4 rfl hqc (by decide +kernel) rfl hk1 hFc hP1 hD1
      generalize H1 = H at hP hS ⊢
      as_aux_lemma =>
      rcases hw with ⟨h_90, h_91⟩
      have h_91 : (x_88, w_89) = _ := h_91
      replace hEX := hEX.trans (exc2_eq h_91)
      refine lv_goto (tgt := 105) hx hb dX4_readAtom_39 rfl ?_
      have hK9 := hK.sub (tys' := []) [] rfl
      exact W.vret hx hb hr (fun t ht hW => ⟨⟨(x_80, h1_f3, x_88, w_89), rfl, ⟨(RG_w h_81 (by decide +kernel)), g_h1_f3, (RG_w h_90 (by decide +kernel)), (hR.trans hEX).symm⟩, by rw [ht]; exact hP, va_K.moved hW.alike hK9, hD⟩, hS.F ht⟩) hS.2.2 dX4_readAtom_105
  refine hG _ _ _ ?_
  refine lv_aload_n hx hb dX4_readAtom_0 rfl (lv_at hl 1 rfl) ?_
  obtain ⟨hPc, hDc, hFc, hqc⟩ := cl_cut (wc := (wd_c_X9_peek h1 h1_0 h1_f1 h1_f2 h1_f3 h1_0 h1_0k h1_0c)) hP hD hS hA [0, 1] (by decide +kernel) rfl
  have hKc := hK.sub (tys' := [(h1_0k, .int)]) [0] rfl
  have hrv := va_recv hKc hPc (ci := 9) (q0 := 0) rfl rfl
  refine va_calli (va_runV (As := []) (rest := []) ⟨hx, hb, hml, hown, hts⟩ (c_X9_peek l dC dI H.size h1 h1_0 h1_f1 h1_f2 h1_f3 h1_0k h1_0c g_h1_f1 g_h1_f2 g_h1_f3 a_h1_0c) (cwV 0 hts gf_c_X4_readAtom_3_c_X9_peek rfl rfl rfl mdV_X9_peek ⟨Nat.le_of_ble_eq_true rfl, Nat.le_of_ble_eq_true rfl⟩) ⟨fun a U g mk q => by obtain ⟨q0, q1, qP, qK, qD⟩ := q; exact ⟨q0, q1, qP, va_K.moved (u := U) (U := U.calling g mk a) (Vm.Alike.refl U.vm) qK, qD⟩, hrv, fun U hU hW => ⟨rfl, by rw [hU], by rw [hU]; exact hPc, va_K.moved hW.alike hKc, hDc.weaken (fun _ _ _ _ => trivial)⟩⟩ rfl rfl hl.1 rfl (lv_room (Nat.le_of_ble_eq_true rfl)) dX4_readAtom_1 ⟨Nat.le_of_ble_eq_true rfl, Nat.le_of_ble_eq_true rfl⟩) hS (fun q _ h => hFc q h) hFc (fun r_92 x_93 t H1 locs ht hvm hw hB hz1 hk1 hS => ?_)
  obtain ⟨hP1, hK1, hD1⟩ := hB
  rw [ht] at hP1
  obtain ⟨hP, hD⟩ := cl_put (w1 := (wd_c_X9_peek h1 h1_0 h1_f1 x_93 h1_f3 h1_0 h1_0k h1_0c)) (nw := (wd_c_X4_readAtom_3 h1 h1_0 h1_f1 x_93 h1_f3 h1_0 h1_0k h1_0c h0 h0_0 h0_f1 h0_2 h0_0 h0_0k h0_0c)) hP hD [0, 1] [4, 5, 2, 3] 4 rfl hqc (by decide +kernel) rfl hk1 hFc hP1 hD1
  generalize H1 = H at hP hS ⊢
  as_aux_lemma =>
  rcases hw with ⟨h_94, h_95, h_96, h_97⟩ | ⟨h_98, h_99, h_100, h_101, h_102⟩
  · have h_97 : (r_92, x_93) = _ := h_97
    replace hEX := hEX.trans (exc2_eq h_97)
    replace hEX := hEX.trans (if_pos (show r_92 = (-1) from h_94))
    rw [h_94]
    refine lv_istore_n (lv' := [(3, .int (-1)), (0, .ref h0), (1, .ref h1), (2, .int 3)]) hx hb dX4_readAtom_4 rfl hl (Nat.le_of_ble_eq_true rfl) rfl (fun ls hl => ?_)
    refine lv_iload_n hx hb dX4_readAtom_5 rfl (lv_at hl 0 rfl) ?_
    refine lv_if_ge (tgt := 13) hx hb dX4_readAtom_6 rfl (fun c_103 => absurd c_103 (by decide +kernel)) (fun c_103 => ?_)
    refine lv_iconst (v := (-1)) hx hb dX4_readAtom_9 kc_iconst_m1 ?_
    refine lv_goto (tgt := 20) hx hb dX4_readAtom_10 rfl ?_
    exact hU _ _ _ (J20 x_93 g_h0_f1 g_h1_f1 g_h1_f2 g_h1_f3 h_95 hEX _ _ _ hP hD hS (lv_sub hl [0, 1, 2, 3] rfl))
  · have h_102 : (r_92, x_93) = _ := h_102
    replace hEX := hEX.trans (exc2_eq h_102)
    replace hEX := hEX.trans (if_neg (RG_neq (x := r_92) (c := (-1)) (show RG r_92 0 255 from h_98) (by decide +kernel)))
    refine lv_istore_n (lv' := [(3, .int r_92), (0, .ref h0), (1, .ref h1), (2, .int 3)]) hx hb dX4_readAtom_4 rfl hl (Nat.le_of_ble_eq_true rfl) rfl (fun ls hl => ?_)
    as_aux_lemma =>
    refine lv_iload_n hx hb dX4_readAtom_5 rfl (lv_at hl 0 rfl) ?_
    refine lv_if_ge (tgt := 13) hx hb dX4_readAtom_6 rfl (fun c_104 => ?_) (fun c_104 => ?_)
    · replace hEX := hEX.trans (if_pos c_104)
      refine va_ldcS hx hb hown hE_32 dX4_readAtom_13 ?_
      refine lv_iload_n hx hb dX4_readAtom_15 rfl (lv_at hl 0 rfl) ?_
      refine lv_i2c hx hb dX4_readAtom_16 rfl ?_
      refine lv_topi (fun x_105 ex_105 => ?_)
      replace hEX := hEX.trans (exl_eq ex_105)
      have g_106 : RG x_105 0 65535 := RG_i2c ex_105
      obtain ⟨hPc, hDc, hFc, hqc⟩ := cl_cut (wc := []) hP hD hS hA [] (by decide +kernel) rfl
      have hKc := hK.sub (tys' := []) [] rfl
      have hrv := bv_Orecv hE_33 hS
      refine va_calli (va_runV (As := [.int x_105]) (rest := []) ⟨hx, hb, hml, hown, hts⟩ (c_J0_indexOf_0f7a4_4 l dC dI H.size ts4 x_105 tv4 g_106) (cwV 1 hts gf_c_X4_readAtom_3_c_J0_indexOf_0f7a4_4 rfl rfl rfl mdV_J0_indexOf_0f7a4 ⟨Nat.le_of_ble_eq_true rfl, Nat.le_of_ble_eq_true rfl⟩) ⟨fun a U g mk q => by obtain ⟨q0, q1, qP, qK, qD, qE0, qE1, qE2, qE3, qE4⟩ := q; exact ⟨q0, q1, qP, va_K.moved (u := U) (U := U.calling g mk a) (Vm.Alike.refl U.vm) qK, qD, va_Z.moved (u := U) (U := U.calling g mk a) (Vm.Alike.refl U.vm) qE0, va_OF.moved (u := U) (U := U.calling g mk a) (Vm.Alike.refl U.vm) qE1, va_O.moved (u := U) (U := U.calling g mk a) (Vm.Alike.refl U.vm) qE2, va_OF.moved (u := U) (U := U.calling g mk a) (Vm.Alike.refl U.vm) qE3, va_T.moved (u := U) (U := U.calling g mk a) (Vm.Alike.refl U.vm) qE4⟩, hrv, fun U hU hW => ⟨rfl, by rw [hU], by rw [hU]; exact hPc, va_K.moved hW.alike hKc, hDc.weaken (fun _ _ _ _ => trivial), va_Z.moved hW.alike (by rw [hU]; exact (hE_10.kept hS.2.1).narrow hFc), va_OF.moved hW.alike (by rw [hU]; exact (hE_34.kept hS.2.1).narrow hFc), va_O.moved hW.alike (by rw [hU]; exact (hE_33.kept hS.2.1).narrow hFc), va_OF.moved hW.alike (by rw [hU]; exact (hE_35.kept hS.2.1).narrow hFc), va_T.moved hW.alike (by rw [hU]; exact (hE_36.kept hS.2.1).narrow hFc)⟩⟩ rfl rfl hl.1 rfl (lv_room (Nat.le_of_ble_eq_true rfl)) dX4_readAtom_17 ⟨Nat.le_of_ble_eq_true rfl, Nat.le_of_ble_eq_true rfl⟩) hS (fun q _ h => hFc q h) hFc (fun r_107 u t H1 locs ht hvm hw hB hz1 hk1 hS => ?_)
      obtain ⟨hP1, hK1, hD1⟩ := hB
      rw [ht] at hP1
      have hP := bv_still hP hk1
      generalize H1 = H at hP hS ⊢
      as_aux_lemma =>
      rcases hw with ⟨h_108, h_109⟩ | ⟨h_110, h_111, h_112⟩
      · have h_109 : r_107 = _ := h_109
        replace hEX := hEX.trans (exc1_eq h_109)
        replace hEX := hEX.trans (if_pos (show r_107 = (-1) from h_108))
        rw [h_108]
        exact hU _ _ _ (J20b r_92 x_93 g_h0_f1 h_100 g_h1_f2 g_h1_f3 h_99 h_98 hEX _ _ _ hP hD hS (lv_sub hl [0, 1, 2, 3] rfl))
      · have h_112 : r_107 = _ := h_112
        replace hEX := hEX.trans (exc1_eq h_112)
        replace hEX := hEX.trans (if_neg (RG_neq (x := r_107) (c := (-1)) (show RG r_107 0 5 from h_110) (by decide +kernel)))
        exact hU _ _ _ (J20c r_92 r_107 x_93 g_h0_f1 h_100 g_h1_f2 g_h1_f3 h_99 h_98 h_110 hEX _ _ _ hP hD hS (lv_sub hl [0, 1, 2, 3] rfl))
    · replace hEX := hEX.trans (if_neg c_104)
      have d_113 := Int32.not_le.mp c_104
      have g_114 : RG r_92 0 (-1) := RG_lt1 h_98 (RG_k 0 0 rfl) d_113 (by decide +kernel)
      exact RG_dead (RG_lt1 h_98 (RG_k 0 0 rfl) d_113 (b' := (-1)) (by decide +kernel)) (by decide +kernel)
noncomputable def wd_c_X4_readSum_3 (a0 : Nat) (a1 : Nat) (a2 : Int32) (a3 : Int32) (a4 : Int32) (a5 : Nat) (a6 : ClassId) (a7 : Nat → Int32) (a8 : Nat) (a9 : Nat) (a10 : Int32) (a11 : Nat) (a12 : Nat) (a13 : ClassId) (a14 : Nat → Int32) : va_W := [(a0, .inr (9, [.ref a1, .int a2, .int a3, .int a4])), (a5, .inl (a6, 240, .inl a7)), (a8, .inr (4, [.ref a9, .int a10, .ref a11])), (a12, .inl (a13, 240, .inl a14))]
noncomputable def wf_c_X4_readSum_3 : List Cond := List.cons (.code yX4_readSum cX4_readSum 6 none) (@HAppend.hAppend (List Cond) (List Cond) (List Cond) _ (@HAppend.hAppend (List Cond) (List Cond) (List Cond) _ [.methodLink RX4 72 yX9_isRight, .instanceMethod yX9_isRight, .selects RX9 yX9_isRight yX9_isRight, .initialized RX9, .code yX9_isRight cX9_isRight 1 (some .boolean), .fieldLink RX9 15 "BuoyVote$Tape" "wrong" "I", .methodLink RX4 85 yX4_readAtom, .instanceMethod yX4_readAtom, .selects RX4 yX4_readAtom yX4_readAtom, .initialized RX4, .code yX4_readAtom cX4_readAtom 6 none, .methodLink RX4 41 yX9_peek, .instanceMethod yX9_peek, .selects RX9 yX9_peek yX9_peek, .code yX9_peek cX9_peek 1 (some .int), .fieldLink RX9 22 "BuoyVote$Tape" "at" "I", .fieldLink RX9 19 "BuoyVote$Tape" "length" "I", .fieldLink RX9 11 "BuoyVote$Tape" "bytes" "[I", .methodLink RX4 93 yJ0_indexOf_0f7a4, .instanceMethod yJ0_indexOf_0f7a4, .selects RJ0 yJ0_indexOf_0f7a4 yJ0_indexOf_0f7a4, .initialized RJ0, .code yJ0_indexOf_0f7a4 cJ0_indexOf_0f7a4 2 (some .int), .methodLink RJ0 633 yJ0_indexOf_7cf53, .instanceMethod yJ0_indexOf_7cf53, .selects RJ0 yJ0_indexOf_7cf53 yJ0_indexOf_7cf53, .code yJ0_indexOf_7cf53 cJ0_indexOf_7cf53 3 (some .int), .methodLink RJ0 492 yJ0_isLatin1_aae02, .instanceMethod yJ0_isLatin1_aae02, .selects RJ0 yJ0_isLatin1_aae02 yJ0_isLatin1_aae02, .code yJ0_isLatin1_aae02 cJ0_isLatin1_aae02 1 (some .boolean), .fieldLink RJ0 38 "java/lang/String" "COMPACT_STRINGS" "Z", .fieldLink RJ0 15 "java/lang/String" "coder" "B", .fieldLink RJ0 9 "java/lang/String" "value" "[B", .methodLink RJ0 505 yJ0_length_8abf5, .instanceMethod yJ0_length_8abf5, .selects RJ0 yJ0_length_8abf5 yJ0_length_8abf5, .code yJ0_length_8abf5 cJ0_length_8abf5 1 (some .int), .methodLink RJ0 335 yJ0_coder_7d493, .instanceMethod yJ0_coder_7d493, .selects RJ0 yJ0_coder_7d493 yJ0_coder_7d493, .code yJ0_coder_7d493 cJ0_coder_7d493 1 (some .byte), .methodLink RJ0 637 yJ1_indexOf_4cfef, .static yJ1_indexOf_4cfef, .initialized RJ1, .code yJ1_indexOf_4cfef cJ1_indexOf_4cfef 4 (some .int), .methodLink RJ1 88 yJ1_canEncode_9a6ad, .static yJ1_canEncode_9a6ad, .code yJ1_canEncode_9a6ad cJ1_canEncode_9a6ad 1 (some .boolean), .methodLink RJ1 92 Lib.Math.max.name, .static Lib.Math.max.name, .initialized "java/lang/Math", .code Lib.Math.max.name Lib.Math.max.code 2 (some .int), .methodLink RJ1 38 Lib.Math.min.name, .static Lib.Math.min.name, .code Lib.Math.min.name Lib.Math.min.code 2 (some .int), .methodLink RJ1 95 yJ1_indexOfChar_4cfef, .static yJ1_indexOfChar_4cfef, .code yJ1_indexOfChar_4cfef cJ1_indexOfChar_4cfef 6 (some .int), .methodLink RX4 99 yX9_number, .instanceMethod yX9_number, .selects RX9 yX9_number yX9_number, .code yX9_number cX9_number 4 (some .int), .methodLink RX4 82 yX9_refuseHere, .instanceMethod yX9_refuseHere, .selects RX9 yX9_refuseHere yX9_refuseHere, .code yX9_refuseHere cX9_refuseHere 1 none, .methodLink RX9 25 yX9_refuse, .instanceMethod yX9_refuse, .selects RX9 yX9_refuse yX9_refuse, .code yX9_refuse cX9_refuse 2 none, .methodLink RX4 79 yX9_skip, .instanceMethod yX9_skip, .selects RX9 yX9_skip yX9_skip, .code yX9_skip cX9_skip 1 none, .methodLink RX4 49 yX4_readSum, .instanceMethod yX4_readSum, .selects RX4 yX4_readSum yX4_readSum, .methodLink RX4 60 yX4_emit, .instanceMethod yX4_emit, .selects RX4 yX4_emit yX4_emit, .code yX4_emit cX4_emit 2 none, .fieldLink RX4 20 "BuoyVote$Law" "length" "I", .fieldLink RX4 11 "BuoyVote$Law" "code" "[I", .methodLink RX4 88 yX9_takeEither, .instanceMethod yX9_takeEither, .selects RX9 yX9_takeEither yX9_takeEither, .code yX9_takeEither cX9_takeEither 4 (some .int), .methodLink RX9 29 yX9_peek, .methodLink RX4 37 yX9_expect, .instanceMethod yX9_expect, .selects RX9 yX9_expect yX9_expect, .code yX9_expect cX9_expect 2 none] wsX90) wsX40)
theorem iw_c_X4_readSum_3_X9 : ∀ w ∈ wsX90, w ∈ wf_c_X4_readSum_3 := fun w h => List.mem_cons_of_mem _ (List.mem_append_left _ (List.mem_append_right _ h))
theorem iw_c_X4_readSum_3_X4 : ∀ w ∈ wsX40, w ∈ wf_c_X4_readSum_3 := fun w h => List.mem_cons_of_mem _ (List.mem_append_right _ h)
set_option maxRecDepth 20000 in
theorem gf_c_X4_readSum_3_c_X9_takeEither : GoodIn wf_c_X4_readSum_3 (wsV RX4 88 RX9 yX9_takeEither wf_c_X9_takeEither) := goodIn_app (gi_l [85, 86, 87, 4] rfl rfl) (gi_cons (j := 88) rfl rfl (goodIn_app (gi_l [89, 13, 14, 4, 15, 16, 17, 18, 6] rfl rfl) (goodIn_sub iw_c_X4_readSum_3_X9 gw_X9)))
set_option maxRecDepth 20000 in
theorem gf_c_X4_readSum_3_c_X4_emit : GoodIn wf_c_X4_readSum_3 (wsV RX4 60 RX4 yX4_emit wf_c_X4_emit) := goodIn_app (gi_l [79, 80, 81, 10] rfl rfl) (gi_cons (j := 82) rfl rfl (goodIn_app (gi_l [83, 84] rfl rfl) (goodIn_sub iw_c_X4_readSum_3_X4 gw_X4)))
set_option maxRecDepth 20000 in
theorem gf_c_X4_readSum_3_c_X9_isRight : GoodIn wf_c_X4_readSum_3 (wsV RX4 72 RX9 yX9_isRight wf_c_X9_isRight) := goodIn_app (gi_l [1, 2, 3, 4] rfl rfl) (gi_cons (j := 5) rfl rfl (goodIn_app (gi_l [6] rfl rfl) (goodIn_sub iw_c_X4_readSum_3_X9 gw_X9)))
set_option maxRecDepth 20000 in
theorem gf_c_X4_readSum_3_c_X4_readAtom_3 : GoodIn wf_c_X4_readSum_3 (wsV RX4 85 RX4 yX4_readAtom wf_c_X4_readAtom_3) := goodIn_app (gi_l [7, 8, 9, 10] rfl rfl) (gi_cons (j := 11) rfl rfl (goodIn_app (goodIn_app (gi_l [12, 13, 14, 4, 15, 16, 17, 18, 19, 20, 21, 22, 23, 24, 25, 26, 27, 28, 29, 30, 31, 32, 33, 34, 35, 36, 37, 38, 39, 40, 41, 42, 43, 44, 45, 46, 47, 48, 49, 50, 51, 52, 53, 54, 55, 56, 57, 58, 59, 60, 61, 62, 63, 64, 65, 66, 67, 68, 69, 70, 71, 6, 72, 73, 74, 75, 76, 77, 78, 10, 0, 1, 2, 3, 5, 7, 8, 9, 79, 80, 81, 82, 83, 84, 85, 86, 87, 88, 89, 90, 91, 92, 93] rfl rfl) (goodIn_sub iw_c_X4_readSum_3_X9 gw_X9)) (goodIn_sub iw_c_X4_readSum_3_X4 gw_X4)))
set_option maxHeartbeats 4000000 in
set_option maxRecDepth 100000 in
theorem c_X4_readSum_3 (l : Launch) (dC : Nat → ClassId) (dI : Nat → Nat → Nat) (sz : Nat) (h0 : Nat) (h1 : Nat) (h1_0 : Nat) (h1_f1 : Int32) (h1_f2 : Int32) (h1_f3 : Int32) (h1_0k : ClassId) (h1_0c : Nat → Int32) (h0_0 : Nat) (h0_f1 : Int32) (h0_2 : Nat) (h0_0k : ClassId) (h0_0c : Nat → Int32) (ts4 : Nat) (tv4 : Nat) (g_h1_f1 : RG h1_f1 0 240) (g_h1_f2 : RG h1_f2 0 240) (g_h1_f3 : RG h1_f3 (-1) 240) (a_h1_0c : AI h1_0c 0 255) (g_h0_f1 : RG h0_f1 0 240) : Met l yX4_readSum wf_c_X4_readSum_3 ({ frames := 11, cells := 0, slots := 0, locals := 266 }) (va_Pc [.ref h0, .ref h1, .int 3] (fun U => U.heap.size = sz ∧ va_P (dC, dI) vwCl (wd_c_X4_readSum_3 h1 h1_0 h1_f1 h1_f2 h1_f3 h1_0 h1_0k h1_0c h0 h0_0 h0_f1 h0_2 h0_0 h0_0k h0_0c) U.heap ∧ va_K (dC, dI) vwCl [(h1_0k, .int), (h0_0k, .int)] U ∧ va_D (fun _ => True) (wd_c_X4_readSum_3 h1 h1_0 h1_f1 h1_f2 h1_f3 h1_0 h1_0k h1_0c h0 h0_0 h0_f1 h0_2 h0_0 h0_0k h0_0c) ∧ vk_R RX4 91 "vlrdph" ts4 U ∧ va_Z "java/lang/String" "COMPACT_STRINGS" "Z" (.int 1) (va_A (wd_c_X4_readSum_3 h1 h1_0 h1_f1 h1_f2 h1_f3 h1_0 h1_0k h1_0c h0 h0_0 h0_f1 h0_2 h0_0 h0_0k h0_0c) sz) U U.heap ∧ va_OF "java/lang/String" "coder" "B" (.int 0) ts4 (va_A (wd_c_X4_readSum_3 h1 h1_0 h1_f1 h1_f2 h1_f3 h1_0 h1_0k h1_0c h0 h0_0 h0_f1 h0_2 h0_0 h0_0k h0_0c) sz) U U.heap ∧ va_O "java/lang/String" ts4 (va_A (wd_c_X4_readSum_3 h1 h1_0 h1_f1 h1_f2 h1_f3 h1_0 h1_0k h1_0c h0 h0_0 h0_f1 h0_2 h0_0 h0_0k h0_0c) sz) U U.heap ∧ va_OF "java/lang/String" "value" "[B" (.ref tv4) ts4 (va_A (wd_c_X4_readSum_3 h1 h1_0 h1_f1 h1_f2 h1_f3 h1_0 h1_0k h1_0c h0 h0_0 h0_f1 h0_2 h0_0 h0_0k h0_0c) sz) U U.heap ∧ va_T .byte tv4 6 (fun j => .int ([118, 108, 114, 100, 112, 104].getD j 0)) (va_A (wd_c_X4_readSum_3 h1 h1_0 h1_f1 h1_f2 h1_f3 h1_0 h1_0k h1_0c h0 h0_0 h0_f1 h0_2 h0_0 h0_0k h0_0c) sz) U U.heap)) (va_Qv (fun (u : (Int32) × (Int32) × (Int32) × (Nat → Int32)) => (RG u.1 0 240 ∧ RG u.2.1 (-1) 240 ∧ RG u.2.2.1 0 240 ∧ (u.1, u.2.1, u.2.2.1, u.2.2.2) = fx_c_X4_readSum_3 h1_f1 h1_f2 h1_f3 h1_0c h0_f1 h0_0c)) (fun (u : (Int32) × (Int32) × (Int32) × (Nat → Int32)) t => va_P (dC, dI) vwCl (wd_c_X4_readSum_3 h1 h1_0 h1_f1 (u.1) (u.2.1) h1_0 h1_0k h1_0c h0 h0_0 (u.2.2.1) h0_2 h0_0 h0_0k (u.2.2.2)) t.heap ∧ va_K (dC, dI) vwCl [] t ∧ va_D (va_A (wd_c_X4_readSum_3 h1 h1_0 h1_f1 h1_f2 h1_f3 h1_0 h1_0k h1_0c h0 h0_0 h0_f1 h0_2 h0_0 h0_0k h0_0c) sz) (wd_c_X4_readSum_3 h1 h1_0 h1_f1 (u.1) (u.2.1) h1_0 h1_0k h1_0c h0 h0_0 (u.2.2.1) h0_2 h0_0 h0_0k (u.2.2.2))) (va_A (wd_c_X4_readSum_3 h1 h1_0 h1_f1 h1_f2 h1_f3 h1_0 h1_0k h1_0c h0 h0_0 h0_f1 h0_2 h0_0 h0_0k h0_0c) sz)) 0 0 (va_A (wd_c_X4_readSum_3 h1 h1_0 h1_f1 h1_f2 h1_f3 h1_0 h1_0k h1_0c h0 h0_0 h0_f1 h0_2 h0_0 h0_0k h0_0c) sz) := by
  refine Met.ofW (cc := cX4_readSum) (maxL := 6) (ret := none) (by decide +kernel) rfl ?_
  intro p e s m args below meth c s₁ B hml hv
  obtain ⟨rfl, hsz, hP, hK, hD0, hE_32, hE_10, hE_34, hE_33, hE_35, hE_36⟩ := hv
  have hx := B.exec
  have hb := B.bytes
  have hr := B.returns
  have hts := atoms_spec (ws := wf_c_X4_readSum_3) B.pre
  have hown : s.vm.findClass RX4 = some m.cls := findClass_of_methodNamed B.named
  have hlocks := B.notSynchronized
  subst hsz
  have hD := hD0.self (sz := s.heap.size)
  generalize hAe : va_A (wd_c_X4_readSum_3 h1 h1_0 h1_f1 h1_f2 h1_f3 h1_0 h1_0k h1_0c h0 h0_0 h0_f1 h0_2 h0_0 h0_0k h0_0c) s.heap.size = A at hD hE_10 hE_34 hE_33 hE_35 hE_36 ⊢
  have hA : ∀ q : Nat, s.heap.size ≤ q → A q := fun q h => by rw [← hAe]; exact Or.inr h
  have hP : va_P (dC, dI) vwCl (wd_c_X4_readSum_3 h1 h1_0 h1_f1 h1_f2 h1_f3 h1_0 h1_0k h1_0c h0 h0_0 h0_f1 h0_2 h0_0 h0_0k h0_0c) s.heap := hP
  have hl := lv_entry ([.ref h0, .ref h1, .int 3]) (n := 6) (Nat.le_of_ble_eq_true rfl)
  rw [lg_entry_eq]
  generalize (lg_sl ([.ref h0, .ref h1, .int 3]) ++ List.replicate (6 - (lg_sl ([.ref h0, .ref h1, .int 3])).length) Slot.unset).toArray = ls at hl ⊢
  have hl : lv_has ls 6 [(0, .ref h0), (1, .ref h1), (2, .int 3)] := hl
  obtain ⟨H, hHe⟩ : ∃ H : Heap, s.heap = H := ⟨_, rfl⟩
  have hS : va_S A s.heap H [] := by rw [hHe]; exact va_S.rf
  have hP : va_P (dC, dI) vwCl (wd_c_X4_readSum_3 h1 h1_0 h1_f1 h1_f2 h1_f3 h1_0 h1_0k h1_0c h0 h0_0 h0_f1 h0_2 h0_0 h0_0k h0_0c) H := by rw [← hHe]; exact hP
  rw [hHe]
  obtain ⟨RES, hR⟩ : ∃ z, fx_c_X4_readSum_3 h1_f1 h1_f2 h1_f3 h1_0c h0_f1 h0_0c = z := ⟨_, rfl⟩
  have hEX : RES = fx_c_X4_readSum_3 h1_f1 h1_f2 h1_f3 h1_0c h0_f1 h0_0c := hR.symm
  refine wj (fun G hG hU => ?_)
  as_aux_lemma =>
  have J8 : ∀ (n8 : Nat) (j8_l5 : Int32) (j8_l4 : Int32) (j8_l3 : Int32) (j8_h1_f2 : Int32) (j8_h1_f3 : Int32) (j8_h0_f1 : Int32) (j8_h0_0c : Nat → Int32) (hM8 : MU j8_l5 < n8) (g_h0_f1 : RG h0_f1 0 240) (g_h1_f1 : RG h1_f1 0 240) (g_h1_f2 : RG h1_f2 0 240) (g_h1_f3 : RG h1_f3 (-1) 240) (g_j8_h0_f1 : RG j8_h0_f1 0 240) (g_j8_h1_f2 : RG j8_h1_f2 0 240) (g_j8_h1_f3 : RG j8_h1_f3 (-1) 240) (g_j8_l3 : RG j8_l3 0 60) (g_j8_l4 : RG j8_l4 0 60) (g_j8_l5 : RG j8_l5 0 240) (hEX : RES = fx_c_X4_readSum_3_p8 h1_f1 h1_0c n8 j8_l5 j8_l4 j8_l3 j8_h1_f2 j8_h1_f3 j8_h0_f1 j8_h0_0c) (H : Heap) (locs : List Loc) (ls : Array Slot) (hP : va_P (dC, dI) vwCl (wd_c_X4_readSum_3 h1 h1_0 h1_f1 j8_h1_f2 j8_h1_f3 h1_0 h1_0k h1_0c h0 h0_0 j8_h0_f1 h0_2 h0_0 h0_0k j8_h0_0c) H) (hD : va_D A (wd_c_X4_readSum_3 h1 h1_0 h1_f1 j8_h1_f2 j8_h1_f3 h1_0 h1_0k h1_0c h0 h0_0 j8_h0_f1 h0_2 h0_0 h0_0k j8_h0_0c)) (hS : va_S A s.heap H locs) (hl : lv_has ls 6 [(5, .int j8_l5), (4, .int j8_l4), (3, .int j8_l3), (0, .ref h0), (1, .ref h1), (2, .int 3)]), G H locs (F0 m 8 ls []) := by
    as_aux_lemma =>
    intro n8
    induction n8 with
    | zero => intros; exact absurd (by assumption) (Nat.not_lt_zero _)
    | succ n8 ih8 =>
      intro j8_l5 j8_l4 j8_l3 j8_h1_f2 j8_h1_f3 j8_h0_f1 j8_h0_0c hM8 g_h0_f1 g_h1_f1 g_h1_f2 g_h1_f3 g_j8_h0_f1 g_j8_h1_f2 g_j8_h1_f3 g_j8_l3 g_j8_l4 g_j8_l5 hEX H locs ls hP hD hS hl
      have J80 : ∀ (j80_l3 : Int32) (j80_l4 : Int32) (j80_h1_f2 : Int32) (j80_h1_f3 : Int32) (j80_h0_f1 : Int32) (j80_h0_0c : Nat → Int32) (g_h0_f1 : RG h0_f1 0 240) (g_h1_f1 : RG h1_f1 0 240) (g_h1_f2 : RG h1_f2 0 240) (g_h1_f3 : RG h1_f3 (-1) 240) (g_j80_h0_f1 : RG j80_h0_f1 0 240) (g_j80_h1_f2 : RG j80_h1_f2 0 240) (g_j80_h1_f3 : RG j80_h1_f3 (-1) 240) (g_j80_l3 : RG j80_l3 0 60) (g_j80_l4 : RG j80_l4 0 60) (g_j8_h0_f1 : RG j8_h0_f1 0 240) (g_j8_h1_f2 : RG j8_h1_f2 0 240) (g_j8_h1_f3 : RG j8_h1_f3 (-1) (-1)) (g_j8_l3 : RG j8_l3 0 60) (g_j8_l4 : RG j8_l4 0 60) (g_j8_l5 : RG j8_l5 0 239) (hEX : RES = fx_c_X4_readSum_3_p80 j8_l5 (fx_c_X4_readSum_3_p8 h1_f1 h1_0c n8) j80_l3 j80_l4 j80_h1_f2 j80_h1_f3 j80_h0_f1 j80_h0_0c) (H : Heap) (locs : List Loc) (ls : Array Slot) (hP : va_P (dC, dI) vwCl (wd_c_X4_readSum_3 h1 h1_0 h1_f1 j80_h1_f2 j80_h1_f3 h1_0 h1_0k h1_0c h0 h0_0 j80_h0_f1 h0_2 h0_0 h0_0k j80_h0_0c) H) (hD : va_D A (wd_c_X4_readSum_3 h1 h1_0 h1_f1 j80_h1_f2 j80_h1_f3 h1_0 h1_0k h1_0c h0 h0_0 j80_h0_f1 h0_2 h0_0 h0_0k j80_h0_0c)) (hS : va_S A s.heap H locs) (hl : lv_has ls 6 [(3, .int j80_l3), (5, .int j8_l5), (4, .int j80_l4), (0, .ref h0), (1, .ref h1), (2, .int 3)]), G H locs (F0 m 80 ls []) := by
        as_aux_lemma =>
        intro j80_l3 j80_l4 j80_h1_f2 j80_h1_f3 j80_h0_f1 j80_h0_0c g_h0_f1 g_h1_f1 g_h1_f2 g_h1_f3 g_j80_h0_f1 g_j80_h1_f2 g_j80_h1_f3 g_j80_l3 g_j80_l4 g_j8_h0_f1 g_j8_h1_f2 g_j8_h1_f3 g_j8_l3 g_j8_l4 g_j8_l5 hEX H locs ls hP hD hS hl
        refine hG _ _ _ ?_
        obtain ⟨x_1, ex_1⟩ : ∃ y : Int32, y = j8_l5 + 1 := ⟨_, rfl⟩
        have g_2 : RG x_1 1 240 := RG_add ex_1 g_j8_l5 (RG_k 1 1 rfl) (by decide +kernel)
        replace hEX := hEX.trans (exl_eq ex_1)
        refine lv_iinc (v := x_1) (lv' := [(5, .int x_1), (3, .int j80_l3), (4, .int j80_l4), (0, .ref h0), (1, .ref h1), (2, .int 3)]) hx hb dX4_readSum_80 hl (k := 1) rfl (by rw [ex_1]; rfl) (Nat.le_of_ble_eq_true rfl) rfl (fun ls hl => ?_)
        refine lv_goto (tgt := 8) hx hb dX4_readSum_83 rfl ?_
        exact hU _ _ _ (ih8 x_1 j80_l4 j80_l3 j80_h1_f2 j80_h1_f3 j80_h0_f1 j80_h0_0c (mu_s (MU_add ex_1 g_j8_l5 (q := 1) rfl (by decide +kernel)) hM8) g_h0_f1 g_h1_f1 g_h1_f2 g_h1_f3 g_j80_h0_f1 g_j80_h1_f2 g_j80_h1_f3 g_j80_l3 g_j80_l4 (RG_w g_2 (by decide +kernel)) hEX _ _ _ hP hD hS (lv_sub hl [0, 2, 1, 3, 4, 5] rfl))
      have J64 : ∀ (j64_l3 : Int32) (j64_h1_f2 : Int32) (j64_h1_f3 : Int32) (j64_h0_f1 : Int32) (j64_h0_0c : Nat → Int32) (g_h0_f1 : RG h0_f1 0 240) (g_h1_f1 : RG h1_f1 0 240) (g_h1_f2 : RG h1_f2 0 240) (g_h1_f3 : RG h1_f3 (-1) 240) (g_j64_h0_f1 : RG j64_h0_f1 0 240) (g_j64_h1_f2 : RG j64_h1_f2 0 240) (g_j64_h1_f3 : RG j64_h1_f3 (-1) 240) (g_j64_l3 : RG j64_l3 0 0) (g_j8_h0_f1 : RG j8_h0_f1 0 240) (g_j8_h1_f2 : RG j8_h1_f2 0 240) (g_j8_h1_f3 : RG j8_h1_f3 (-1) (-1)) (g_j8_l3 : RG j8_l3 0 60) (g_j8_l4 : RG j8_l4 0 60) (g_j8_l5 : RG j8_l5 0 239) (hEX : RES = fx_c_X4_readSum_3_p64 h1_f1 h1_0c j8_l5 (fx_c_X4_readSum_3_p8 h1_f1 h1_0c n8) j64_l3 j64_h1_f2 j64_h1_f3 j64_h0_f1 j64_h0_0c) (H : Heap) (locs : List Loc) (ls : Array Slot) (hP : va_P (dC, dI) vwCl (wd_c_X4_readSum_3 h1 h1_0 h1_f1 j64_h1_f2 j64_h1_f3 h1_0 h1_0k h1_0c h0 h0_0 j64_h0_f1 h0_2 h0_0 h0_0k j64_h0_0c) H) (hD : va_D A (wd_c_X4_readSum_3 h1 h1_0 h1_f1 j64_h1_f2 j64_h1_f3 h1_0 h1_0k h1_0c h0 h0_0 j64_h0_f1 h0_2 h0_0 h0_0k j64_h0_0c)) (hS : va_S A s.heap H locs) (hl : lv_has ls 6 [(3, .int j64_l3), (5, .int j8_l5), (0, .ref h0), (1, .ref h1), (2, .int 3)]), G H locs (F0 m 64 ls []) := by
        as_aux_lemma =>
        intro j64_l3 j64_h1_f2 j64_h1_f3 j64_h0_f1 j64_h0_0c g_h0_f1 g_h1_f1 g_h1_f2 g_h1_f3 g_j64_h0_f1 g_j64_h1_f2 g_j64_h1_f3 g_j64_l3 g_j8_h0_f1 g_j8_h1_f2 g_j8_h1_f3 g_j8_l3 g_j8_l4 g_j8_l5 hEX H locs ls hP hD hS hl
        refine hG _ _ _ ?_
        refine lv_aload_n hx hb dX4_readSum_64 rfl (lv_at hl 3 rfl) ?_
        refine lv_bipush (v := 43) hx hb dX4_readSum_65 kc_bipush_43 ?_
        refine lv_bipush (v := 45) hx hb dX4_readSum_67 kc_bipush_45 ?_
        obtain ⟨hPc, hDc, hFc, hqc⟩ := cl_cut (wc := (wd_c_X9_takeEither h1 h1_0 h1_f1 j64_h1_f2 j64_h1_f3 h1_0 h1_0k h1_0c)) hP hD hS hA [0, 1] (by decide +kernel) rfl
        have hKc := hK.sub (tys' := [(h1_0k, .int)]) [0] rfl
        have hrv := va_recv hKc hPc (ci := 9) (q0 := 0) rfl rfl
        refine va_calli (va_runV (As := [.int 43, .int 45]) (rest := []) ⟨hx, hb, hml, hown, hts⟩ (c_X9_takeEither l dC dI H.size h1 43 45 h1_0 h1_f1 j64_h1_f2 j64_h1_f3 h1_0k h1_0c (RG_w (RG_k 43 43 rfl) (by decide +kernel)) (RG_w (RG_k 45 45 rfl) (by decide +kernel)) g_h1_f1 g_j64_h1_f2 g_j64_h1_f3 a_h1_0c) (cwV 2 hts gf_c_X4_readSum_3_c_X9_takeEither rfl rfl rfl mdV_X9_takeEither ⟨Nat.le_of_ble_eq_true rfl, Nat.le_of_ble_eq_true rfl⟩) ⟨fun a U g mk q => by obtain ⟨q0, q1, qP, qK, qD⟩ := q; exact ⟨q0, q1, qP, va_K.moved (u := U) (U := U.calling g mk a) (Vm.Alike.refl U.vm) qK, qD⟩, hrv, fun U hU hW => ⟨rfl, by rw [hU], by rw [hU]; exact hPc, va_K.moved hW.alike hKc, hDc.weaken (fun _ _ _ _ => trivial)⟩⟩ rfl rfl hl.1 rfl (lv_room (Nat.le_of_ble_eq_true rfl)) dX4_readSum_69 ⟨Nat.le_of_ble_eq_true rfl, Nat.le_of_ble_eq_true rfl⟩) hS (fun q _ h => hFc q h) hFc (fun r_3 x_4 t H1 locs ht hvm hw hB hz1 hk1 hS => ?_)
        obtain ⟨hP1, hK1, hD1⟩ := hB
        rw [ht] at hP1
        obtain ⟨hP, hD⟩ := cl_put (w1 := (wd_c_X9_takeEither h1 h1_0 h1_f1 x_4 j64_h1_f3 h1_0 h1_0k h1_0c)) (nw := (wd_c_X4_readSum_3 h1 h1_0 h1_f1 x_4 j64_h1_f3 h1_0 h1_0k h1_0c h0 h0_0 j64_h0_f1 h0_2 h0_0 h0_0k j64_h0_0c)) hP hD [0, 1] [4, 5, 2, 3] 4 rfl hqc (by decide +kernel) rfl hk1 hFc hP1 hD1
        generalize H1 = H at hP hS ⊢
        as_aux_lemma =>
        rcases hw with ⟨h_5, h_6, h_7, h_8⟩
        have h_8 : (r_3, x_4) = _ := h_8
        replace hEX := hEX.trans (exc2_eq h_8)
        refine lv_istore (lv' := [(4, .int r_3), (3, .int j64_l3), (5, .int j8_l5), (0, .ref h0), (1, .ref h1), (2, .int 3)]) hx hb dX4_readSum_72 hl (Nat.le_of_ble_eq_true rfl) rfl (fun ls hl => ?_)
        refine lv_iload hx hb dX4_readSum_74 (lv_at hl 0 rfl) ?_
        refine lv_if_ne (tgt := 80) hx hb dX4_readSum_76 rfl (fun c_9 => ?_) (fun c_9 => ?_)
        · replace hEX := hEX.trans (if_neg c_9)
          have g_10 : RG r_3 1 60 := RG_ne1 h_5 (q := 0) rfl c_9 (by decide +kernel)
          exact hU _ _ _ (J80 j64_l3 r_3 x_4 j64_h1_f3 j64_h0_f1 j64_h0_0c g_h0_f1 g_h1_f1 g_h1_f2 g_h1_f3 g_j64_h0_f1 h_6 g_j64_h1_f3 (RG_w g_j64_l3 (by decide +kernel)) (RG_w g_10 (by decide +kernel)) g_j8_h0_f1 g_j8_h1_f2 g_j8_h1_f3 g_j8_l3 g_j8_l4 g_j8_l5 hEX _ _ _ hP hD hS (lv_sub hl [1, 2, 0, 3, 4, 5] rfl))
        · replace hEX := hEX.trans (if_pos c_9)
          have g_11 : RG r_3 0 0 := RG_eq1 h_5 (RG_k 0 0 rfl) c_9 (by decide +kernel)
          have hK9 := hK.sub (tys' := []) [] rfl
          exact W.vret hx hb hr (fun t ht hW => ⟨⟨(x_4, j64_h1_f3, j64_h0_f1, j64_h0_0c), rfl, ⟨h_6, g_j64_h1_f3, g_j64_h0_f1, (hR.trans hEX).symm⟩, by rw [ht]; exact hP, va_K.moved hW.alike hK9, hD⟩, hS.F ht⟩) hS.2.2 dX4_readSum_79
      have J39 : ∀ (j39_h1_f2 : Int32) (j39_h1_f3 : Int32) (j39_h0_f1 : Int32) (j39_h0_0c : Nat → Int32) (g_h0_f1 : RG h0_f1 0 240) (g_h1_f1 : RG h1_f1 0 240) (g_h1_f2 : RG h1_f2 0 240) (g_h1_f3 : RG h1_f3 (-1) 240) (g_j39_h0_f1 : RG j39_h0_f1 0 240) (g_j39_h1_f2 : RG j39_h1_f2 0 240) (g_j39_h1_f3 : RG j39_h1_f3 (-1) 240) (g_j8_h0_f1 : RG j8_h0_f1 0 240) (g_j8_h1_f2 : RG j8_h1_f2 0 240) (g_j8_h1_f3 : RG j8_h1_f3 (-1) (-1)) (g_j8_l3 : RG j8_l3 0 60) (g_j8_l4 : RG j8_l4 0 60) (g_j8_l5 : RG j8_l5 0 239) (hEX : RES = fx_c_X4_readSum_3_p39 h1_f1 h1_0c j8_l5 j8_l4 (fx_c_X4_readSum_3_p8 h1_f1 h1_0c n8) j39_h1_f2 j39_h1_f3 j39_h0_f1 j39_h0_0c) (H : Heap) (locs : List Loc) (ls : Array Slot) (hP : va_P (dC, dI) vwCl (wd_c_X4_readSum_3 h1 h1_0 h1_f1 j39_h1_f2 j39_h1_f3 h1_0 h1_0k h1_0c h0 h0_0 j39_h0_f1 h0_2 h0_0 h0_0k j39_h0_0c) H) (hD : va_D A (wd_c_X4_readSum_3 h1 h1_0 h1_f1 j39_h1_f2 j39_h1_f3 h1_0 h1_0k h1_0c h0 h0_0 j39_h0_f1 h0_2 h0_0 h0_0k j39_h0_0c)) (hS : va_S A s.heap H locs) (hl : lv_has ls 6 [(5, .int j8_l5), (4, .int j8_l4), (0, .ref h0), (1, .ref h1), (2, .int 3)]), G H locs (F0 m 39 ls []) := by
        as_aux_lemma =>
        intro j39_h1_f2 j39_h1_f3 j39_h0_f1 j39_h0_0c g_h0_f1 g_h1_f1 g_h1_f2 g_h1_f3 g_j39_h0_f1 g_j39_h1_f2 g_j39_h1_f3 g_j8_h0_f1 g_j8_h1_f2 g_j8_h1_f3 g_j8_l3 g_j8_l4 g_j8_l5 hEX H locs ls hP hD hS hl
        refine hG _ _ _ ?_
        refine lv_aload_n hx hb dX4_readSum_39 rfl (lv_at hl 3 rfl) ?_
        refine lv_bipush (v := 42) hx hb dX4_readSum_40 kc_bipush_42 ?_
        refine lv_bipush (v := 47) hx hb dX4_readSum_42 kc_bipush_47 ?_
        obtain ⟨hPc, hDc, hFc, hqc⟩ := cl_cut (wc := (wd_c_X9_takeEither h1 h1_0 h1_f1 j39_h1_f2 j39_h1_f3 h1_0 h1_0k h1_0c)) hP hD hS hA [0, 1] (by decide +kernel) rfl
        have hKc := hK.sub (tys' := [(h1_0k, .int)]) [0] rfl
        have hrv := va_recv hKc hPc (ci := 9) (q0 := 0) rfl rfl
        refine va_calli (va_runV (As := [.int 42, .int 47]) (rest := []) ⟨hx, hb, hml, hown, hts⟩ (c_X9_takeEither l dC dI H.size h1 42 47 h1_0 h1_f1 j39_h1_f2 j39_h1_f3 h1_0k h1_0c (RG_w (RG_k 42 42 rfl) (by decide +kernel)) (RG_w (RG_k 47 47 rfl) (by decide +kernel)) g_h1_f1 g_j39_h1_f2 g_j39_h1_f3 a_h1_0c) (cwV 2 hts gf_c_X4_readSum_3_c_X9_takeEither rfl rfl rfl mdV_X9_takeEither ⟨Nat.le_of_ble_eq_true rfl, Nat.le_of_ble_eq_true rfl⟩) ⟨fun a U g mk q => by obtain ⟨q0, q1, qP, qK, qD⟩ := q; exact ⟨q0, q1, qP, va_K.moved (u := U) (U := U.calling g mk a) (Vm.Alike.refl U.vm) qK, qD⟩, hrv, fun U hU hW => ⟨rfl, by rw [hU], by rw [hU]; exact hPc, va_K.moved hW.alike hKc, hDc.weaken (fun _ _ _ _ => trivial)⟩⟩ rfl rfl hl.1 rfl (lv_room (Nat.le_of_ble_eq_true rfl)) dX4_readSum_44 ⟨Nat.le_of_ble_eq_true rfl, Nat.le_of_ble_eq_true rfl⟩) hS (fun q _ h => hFc q h) hFc (fun r_12 x_13 t H1 locs ht hvm hw hB hz1 hk1 hS => ?_)
        obtain ⟨hP1, hK1, hD1⟩ := hB
        rw [ht] at hP1
        obtain ⟨hP, hD⟩ := cl_put (w1 := (wd_c_X9_takeEither h1 h1_0 h1_f1 x_13 j39_h1_f3 h1_0 h1_0k h1_0c)) (nw := (wd_c_X4_readSum_3 h1 h1_0 h1_f1 x_13 j39_h1_f3 h1_0 h1_0k h1_0c h0 h0_0 j39_h0_f1 h0_2 h0_0 h0_0k j39_h0_0c)) hP hD [0, 1] [4, 5, 2, 3] 4 rfl hqc (by decide +kernel) rfl hk1 hFc hP1 hD1
        generalize H1 = H at hP hS ⊢
        as_aux_lemma =>
        rcases hw with ⟨h_14, h_15, h_16, h_17⟩
        have h_17 : (r_12, x_13) = _ := h_17
        replace hEX := hEX.trans (exc2_eq h_17)
        refine lv_istore_n (lv' := [(3, .int r_12), (5, .int j8_l5), (4, .int j8_l4), (0, .ref h0), (1, .ref h1), (2, .int 3)]) hx hb dX4_readSum_47 rfl hl (Nat.le_of_ble_eq_true rfl) rfl (fun ls hl => ?_)
        refine lv_iload_n hx hb dX4_readSum_48 rfl (lv_at hl 0 rfl) ?_
        refine lv_if_ne (tgt := 80) hx hb dX4_readSum_49 rfl (fun c_18 => ?_) (fun c_18 => ?_)
        · replace hEX := hEX.trans (if_neg c_18)
          have g_19 : RG r_12 1 60 := RG_ne1 h_14 (q := 0) rfl c_18 (by decide +kernel)
          exact hU _ _ _ (J80 r_12 j8_l4 x_13 j39_h1_f3 j39_h0_f1 j39_h0_0c g_h0_f1 g_h1_f1 g_h1_f2 g_h1_f3 g_j39_h0_f1 h_15 g_j39_h1_f3 (RG_w g_19 (by decide +kernel)) g_j8_l4 g_j8_h0_f1 g_j8_h1_f2 g_j8_h1_f3 g_j8_l3 g_j8_l4 g_j8_l5 hEX _ _ _ hP hD hS (lv_sub hl [0, 1, 2, 3, 4, 5] rfl))
        · replace hEX := hEX.trans (if_pos c_18)
          have g_20 : RG r_12 0 0 := RG_eq1 h_14 (RG_k 0 0 rfl) c_18 (by decide +kernel)
          refine lv_iload hx hb dX4_readSum_52 (lv_at hl 2 rfl) ?_
          refine lv_if_eq (tgt := 64) hx hb dX4_readSum_54 rfl (fun c_21 => ?_) (fun c_21 => ?_)
          · replace hEX := hEX.trans (if_pos c_21)
            have g_22 : RG j8_l4 0 0 := RG_eq1 g_j8_l4 (RG_k 0 0 rfl) c_21 (by decide +kernel)
            exact hU _ _ _ (J64 r_12 x_13 j39_h1_f3 j39_h0_f1 j39_h0_0c g_h0_f1 g_h1_f1 g_h1_f2 g_h1_f3 g_j39_h0_f1 h_15 g_j39_h1_f3 g_20 g_j8_h0_f1 g_j8_h1_f2 g_j8_h1_f3 g_j8_l3 (RG_w g_22 (by decide +kernel)) g_j8_l5 hEX _ _ _ hP hD hS (lv_sub hl [0, 1, 3, 4, 5] rfl))
          · replace hEX := hEX.trans (if_neg c_21)
            have g_23 : RG j8_l4 1 60 := RG_ne1 g_j8_l4 (q := 0) rfl c_21 (by decide +kernel)
            refine lv_aload_n hx hb dX4_readSum_57 rfl (lv_at hl 3 rfl) ?_
            as_aux_lemma =>
            refine lv_iload hx hb dX4_readSum_58 (lv_at hl 2 rfl) ?_
            refine lv_ineg hx hb dX4_readSum_60 ?_
            refine lv_topi (fun x_24 ex_24 => ?_)
            replace hEX := hEX.trans (exl_eq ex_24)
            have g_25 : RG x_24 (-60) (-1) := RG_neg ex_24 g_23 (by decide +kernel)
            obtain ⟨hPc, hDc, hFc, hqc⟩ := cl_cut (wc := (wd_c_X4_emit h0 h0_0 j39_h0_f1 h0_2 h0_0 h0_0k j39_h0_0c)) hP hD hS hA [2, 3] (by decide +kernel) rfl
            have hKc := hK.sub (tys' := [(h0_0k, .int)]) [1] rfl
            have hrv := va_recv hKc hPc (ci := 4) (q0 := 0) rfl rfl
            refine va_callv (va_runV (As := [.int x_24]) (rest := []) ⟨hx, hb, hml, hown, hts⟩ (c_X4_emit l dC dI H.size h0 x_24 h0_0 j39_h0_f1 h0_2 h0_0k j39_h0_0c g_j39_h0_f1) (cwV 1 hts gf_c_X4_readSum_3_c_X4_emit rfl rfl rfl mdV_X4_emit ⟨Nat.le_of_ble_eq_true rfl, Nat.le_of_ble_eq_true rfl⟩) ⟨fun a U g mk q => by obtain ⟨q0, q1, qP, qK, qD⟩ := q; exact ⟨q0, q1, qP, va_K.moved (u := U) (U := U.calling g mk a) (Vm.Alike.refl U.vm) qK, qD⟩, hrv, fun U hU hW => ⟨rfl, by rw [hU], by rw [hU]; exact hPc, va_K.moved hW.alike hKc, hDc.weaken (fun _ _ _ _ => trivial)⟩⟩ rfl rfl hl.1 rfl (lv_room (Nat.le_of_ble_eq_true rfl)) dX4_readSum_61 ⟨Nat.le_of_ble_eq_true rfl, Nat.le_of_ble_eq_true rfl⟩) hS (fun q _ h => hFc q h) hFc (fun u t H1 locs ht hvm hw hB hz1 hk1 hS => ?_)
            obtain ⟨x_27, w_28⟩ := u
            obtain ⟨hP1, hK1, hD1⟩ := hB
            rw [ht] at hP1
            obtain ⟨hP, hD⟩ := cl_put (w1 := (wd_c_X4_emit h0 h0_0 x_27 h0_2 h0_0 h0_0k w_28)) (nw := (wd_c_X4_readSum_3 h1 h1_0 h1_f1 x_13 j39_h1_f3 h1_0 h1_0k h1_0c h0 h0_0 x_27 h0_2 h0_0 h0_0k w_28)) hP hD [2, 3] [0, 1, 4, 5] 4 rfl hqc (by decide +kernel) rfl hk1 hFc hP1 hD1
            generalize H1 = H at hP hS ⊢
            as_aux_lemma =>
            rcases hw with ⟨h_29, h_30⟩
            have h_30 : (x_27, w_28) = _ := h_30
            replace hEX := hEX.trans (exc2_eq h_30)
            exact hU _ _ _ (J64 r_12 x_13 j39_h1_f3 x_27 w_28 g_h0_f1 g_h1_f1 g_h1_f2 g_h1_f3 (RG_w h_29 (by decide +kernel)) h_15 g_j39_h1_f3 g_20 g_j8_h0_f1 g_j8_h1_f2 g_j8_h1_f3 g_j8_l3 (RG_w g_23 (by decide +kernel)) g_j8_l5 hEX _ _ _ hP hD hS (lv_sub hl [0, 1, 3, 4, 5] rfl))
      refine hG _ _ _ ?_
      replace hEX := hEX.trans (if_pos (rfl : j8_l5 = j8_l5))
      refine lv_iload hx hb dX4_readSum_8 (lv_at hl 0 rfl) ?_
      refine lv_sipush (v := 240) hx hb dX4_readSum_10 kc_sipush_240 ?_
      refine lv_icmp_ge (tgt := 86) hx hb dX4_readSum_13 rfl (fun c_31 => ?_) (fun c_31 => ?_)
      · replace hEX := hEX.trans (if_pos c_31)
        have g_32 : RG j8_l5 240 240 := RG_le2 (RG_k 240 240 rfl) g_j8_l5 c_31 (by decide +kernel)
        have hK9 := hK.sub (tys' := []) [] rfl
        exact W.vret hx hb hr (fun t ht hW => ⟨⟨(j8_h1_f2, j8_h1_f3, j8_h0_f1, j8_h0_0c), rfl, ⟨g_j8_h1_f2, g_j8_h1_f3, g_j8_h0_f1, (hR.trans hEX).symm⟩, by rw [ht]; exact hP, va_K.moved hW.alike hK9, hD⟩, hS.F ht⟩) hS.2.2 dX4_readSum_86
      · replace hEX := hEX.trans (if_neg c_31)
        have d_33 := Int32.not_le.mp c_31
        have g_34 : RG j8_l5 0 239 := RG_lt1 g_j8_l5 (RG_k 240 240 rfl) d_33 (by decide +kernel)
        refine lv_aload_n hx hb dX4_readSum_16 rfl (lv_at hl 4 rfl) ?_
        as_aux_lemma =>
        obtain ⟨hPc, hDc, hFc, hqc⟩ := cl_cut (wc := (wd_c_X9_isRight h1 h1_0 h1_f1 j8_h1_f2 j8_h1_f3)) hP hD hS hA [0] (by decide +kernel) rfl
        have hKc := hK.sub (tys' := []) [] rfl
        have hrv := va_recv hKc hPc (ci := 9) (q0 := 0) rfl rfl
        refine va_calli (va_runV (As := []) (rest := []) ⟨hx, hb, hml, hown, hts⟩ (c_X9_isRight l dC dI H.size h1 h1_0 h1_f1 j8_h1_f2 j8_h1_f3 g_h1_f1 g_j8_h1_f2 g_j8_h1_f3) (cwV 0 hts gf_c_X4_readSum_3_c_X9_isRight rfl rfl rfl mdV_X9_isRight ⟨Nat.le_of_ble_eq_true rfl, Nat.le_of_ble_eq_true rfl⟩) ⟨fun a U g mk q => by obtain ⟨q0, q1, qP, qK, qD⟩ := q; exact ⟨q0, q1, qP, va_K.moved (u := U) (U := U.calling g mk a) (Vm.Alike.refl U.vm) qK, qD⟩, hrv, fun U hU hW => ⟨rfl, by rw [hU], by rw [hU]; exact hPc, va_K.moved hW.alike hKc, hDc.weaken (fun _ _ _ _ => trivial)⟩⟩ rfl rfl hl.1 rfl (lv_room (Nat.le_of_ble_eq_true rfl)) dX4_readSum_17 ⟨Nat.le_of_ble_eq_true rfl, Nat.le_of_ble_eq_true rfl⟩) hS (fun q _ h => hFc q h) hFc (fun r_35 u t H1 locs ht hvm hw hB hz1 hk1 hS => ?_)
        obtain ⟨hP1, hK1, hD1⟩ := hB
        rw [ht] at hP1
        obtain ⟨hP, hD⟩ := cl_put (w1 := (wd_c_X9_isRight h1 h1_0 h1_f1 j8_h1_f2 j8_h1_f3)) (nw := (wd_c_X4_readSum_3 h1 h1_0 h1_f1 j8_h1_f2 j8_h1_f3 h1_0 h1_0k h1_0c h0 h0_0 j8_h0_f1 h0_2 h0_0 h0_0k j8_h0_0c)) hP hD [0] [4, 1, 2, 3] 4 rfl hqc (by decide +kernel) rfl hk1 hFc hP1 hD1
        generalize H1 = H at hP hS ⊢
        as_aux_lemma =>
        rcases hw with ⟨h_36, h_37, h_38⟩ | ⟨h_39, h_40, h_41⟩
        · have h_38 : r_35 = _ := h_38
          replace hEX := hEX.trans (exc1_eq h_38)
          replace hEX := hEX.trans (if_pos (show r_35 = 0 from h_36))
          rw [h_36]
          refine lv_if_eq (tgt := 86) hx hb dX4_readSum_20 rfl (fun c_42 => ?_) (fun c_42 => absurd c_42 (by decide +kernel))
          have hK9 := hK.sub (tys' := []) [] rfl
          exact W.vret hx hb hr (fun t ht hW => ⟨⟨(j8_h1_f2, j8_h1_f3, j8_h0_f1, j8_h0_0c), rfl, ⟨g_j8_h1_f2, (RG_w h_37 (by decide +kernel)), g_j8_h0_f1, (hR.trans hEX).symm⟩, by rw [ht]; exact hP, va_K.moved hW.alike hK9, hD⟩, hS.F ht⟩) hS.2.2 dX4_readSum_86
        · have h_41 : r_35 = _ := h_41
          replace hEX := hEX.trans (exc1_eq h_41)
          replace hEX := hEX.trans (if_neg (fun q9 : r_35 = 0 => absurd ((show r_35 = 1 from h_39).symm.trans q9) (by decide +kernel)))
          rw [h_39]
          refine lv_if_eq (tgt := 86) hx hb dX4_readSum_20 rfl (fun c_43 => absurd c_43 (by decide +kernel)) (fun c_43 => ?_)
          refine lv_aload_n hx hb dX4_readSum_23 rfl (lv_at hl 3 rfl) ?_
          as_aux_lemma =>
          refine lv_aload_n hx hb dX4_readSum_24 rfl (lv_at hl 4 rfl) ?_
          refine lv_iload_n hx hb dX4_readSum_25 rfl (lv_at hl 5 rfl) ?_
          obtain ⟨hPc, hDc, hFc, hqc⟩ := cl_cut (wc := (wd_c_X4_readAtom_3 h1 h1_0 h1_f1 j8_h1_f2 j8_h1_f3 h1_0 h1_0k h1_0c h0 h0_0 j8_h0_f1 h0_2 h0_0 h0_0k j8_h0_0c)) hP hD hS hA [0, 1, 2, 3] (by decide +kernel) rfl
          have hKc := hK.sub (tys' := [(h1_0k, .int), (h0_0k, .int)]) [0, 1] rfl
          have hrv := va_recv hKc hPc (ci := 4) (q0 := 2) rfl rfl
          refine va_callv (va_runV (As := [.ref h1, .int 3]) (rest := []) ⟨hx, hb, hml, hown, hts⟩ (c_X4_readAtom_3 l dC dI H.size h0 h1 h1_0 h1_f1 j8_h1_f2 j8_h1_f3 h1_0k h1_0c h0_0 j8_h0_f1 h0_2 h0_0k j8_h0_0c ts4 tv4 g_h1_f1 g_j8_h1_f2 (RG_w h_40 (by decide +kernel)) a_h1_0c g_j8_h0_f1) (cwV 2 hts gf_c_X4_readSum_3_c_X4_readAtom_3 rfl rfl rfl mdV_X4_readAtom ⟨Nat.le_of_ble_eq_true rfl, Nat.le_of_ble_eq_true rfl⟩) ⟨fun a U g mk q => by obtain ⟨q0, q1, qP, qK, qD, qE0, qE1, qE2, qE3, qE4, qE5⟩ := q; exact ⟨q0, q1, qP, va_K.moved (u := U) (U := U.calling g mk a) (Vm.Alike.refl U.vm) qK, qD, vk_R.same rfl qE0, va_Z.moved (u := U) (U := U.calling g mk a) (Vm.Alike.refl U.vm) qE1, va_OF.moved (u := U) (U := U.calling g mk a) (Vm.Alike.refl U.vm) qE2, va_O.moved (u := U) (U := U.calling g mk a) (Vm.Alike.refl U.vm) qE3, va_OF.moved (u := U) (U := U.calling g mk a) (Vm.Alike.refl U.vm) qE4, va_T.moved (u := U) (U := U.calling g mk a) (Vm.Alike.refl U.vm) qE5⟩, hrv, fun U hU hW => ⟨rfl, by rw [hU], by rw [hU]; exact hPc, va_K.moved hW.alike hKc, hDc.weaken (fun _ _ _ _ => trivial), vk_R.warm hW hE_32, va_Z.moved hW.alike (by rw [hU]; exact (hE_10.kept hS.2.1).narrow hFc), va_OF.moved hW.alike (by rw [hU]; exact (hE_34.kept hS.2.1).narrow hFc), va_O.moved hW.alike (by rw [hU]; exact (hE_33.kept hS.2.1).narrow hFc), va_OF.moved hW.alike (by rw [hU]; exact (hE_35.kept hS.2.1).narrow hFc), va_T.moved hW.alike (by rw [hU]; exact (hE_36.kept hS.2.1).narrow hFc)⟩⟩ rfl rfl hl.1 rfl (lv_room (Nat.le_of_ble_eq_true rfl)) dX4_readSum_26 ⟨Nat.le_of_ble_eq_true rfl, Nat.le_of_ble_eq_true rfl⟩) hS (fun q _ h => hFc q h) hFc (fun u t H1 locs ht hvm hw hB hz1 hk1 hS => ?_)
          obtain ⟨x_45, x_46, x_47, w_48⟩ := u
          obtain ⟨hP1, hK1, hD1⟩ := hB
          rw [ht] at hP1
          obtain ⟨hP, hD⟩ := cl_put (w1 := (wd_c_X4_readAtom_3 h1 h1_0 h1_f1 x_45 x_46 h1_0 h1_0k h1_0c h0 h0_0 x_47 h0_2 h0_0 h0_0k w_48)) (nw := (wd_c_X4_readSum_3 h1 h1_0 h1_f1 x_45 x_46 h1_0 h1_0k h1_0c h0 h0_0 x_47 h0_2 h0_0 h0_0k w_48)) hP hD [0, 1, 2, 3] [4, 5, 6, 7] 4 rfl hqc (by decide +kernel) rfl hk1 hFc hP1 hD1
          generalize H1 = H at hP hS ⊢
          as_aux_lemma =>
          rcases hw with ⟨h_49, h_50, h_51, h_52⟩
          have h_52 : (x_45, x_46, x_47, w_48) = _ := h_52
          replace hEX := hEX.trans (exc4_eq h_52)
          refine lv_iload_n hx hb dX4_readSum_29 rfl (lv_at hl 2 rfl) ?_
          refine lv_if_eq (tgt := 39) hx hb dX4_readSum_30 rfl (fun c_53 => ?_) (fun c_53 => ?_)
          · replace hEX := hEX.trans (if_pos c_53)
            have g_54 : RG j8_l3 0 0 := RG_eq1 g_j8_l3 (RG_k 0 0 rfl) c_53 (by decide +kernel)
            exact hU _ _ _ (J39 x_45 x_46 x_47 w_48 g_h0_f1 g_h1_f1 g_h1_f2 g_h1_f3 h_51 h_49 h_50 g_j8_h0_f1 g_j8_h1_f2 h_40 (RG_w g_54 (by decide +kernel)) g_j8_l4 g_34 hEX _ _ _ hP hD hS (lv_sub hl [0, 1, 3, 4, 5] rfl))
          · replace hEX := hEX.trans (if_neg c_53)
            have g_55 : RG j8_l3 1 60 := RG_ne1 g_j8_l3 (q := 0) rfl c_53 (by decide +kernel)
            refine lv_aload_n hx hb dX4_readSum_33 rfl (lv_at hl 3 rfl) ?_
            refine lv_iload_n hx hb dX4_readSum_34 rfl (lv_at hl 2 rfl) ?_
            refine lv_ineg hx hb dX4_readSum_35 ?_
            refine lv_topi (fun x_56 ex_56 => ?_)
            as_aux_lemma =>
            replace hEX := hEX.trans (exl_eq ex_56)
            have g_57 : RG x_56 (-60) (-1) := RG_neg ex_56 g_55 (by decide +kernel)
            obtain ⟨hPc, hDc, hFc, hqc⟩ := cl_cut (wc := (wd_c_X4_emit h0 h0_0 x_47 h0_2 h0_0 h0_0k w_48)) hP hD hS hA [2, 3] (by decide +kernel) rfl
            have hKc := hK.sub (tys' := [(h0_0k, .int)]) [1] rfl
            have hrv := va_recv hKc hPc (ci := 4) (q0 := 0) rfl rfl
            refine va_callv (va_runV (As := [.int x_56]) (rest := []) ⟨hx, hb, hml, hown, hts⟩ (c_X4_emit l dC dI H.size h0 x_56 h0_0 x_47 h0_2 h0_0k w_48 h_51) (cwV 1 hts gf_c_X4_readSum_3_c_X4_emit rfl rfl rfl mdV_X4_emit ⟨Nat.le_of_ble_eq_true rfl, Nat.le_of_ble_eq_true rfl⟩) ⟨fun a U g mk q => by obtain ⟨q0, q1, qP, qK, qD⟩ := q; exact ⟨q0, q1, qP, va_K.moved (u := U) (U := U.calling g mk a) (Vm.Alike.refl U.vm) qK, qD⟩, hrv, fun U hU hW => ⟨rfl, by rw [hU], by rw [hU]; exact hPc, va_K.moved hW.alike hKc, hDc.weaken (fun _ _ _ _ => trivial)⟩⟩ rfl rfl hl.1 rfl (lv_room (Nat.le_of_ble_eq_true rfl)) dX4_readSum_36 ⟨Nat.le_of_ble_eq_true rfl, Nat.le_of_ble_eq_true rfl⟩) hS (fun q _ h => hFc q h) hFc (fun u t H1 locs ht hvm hw hB hz1 hk1 hS => ?_)
            obtain ⟨x_59, w_60⟩ := u
            obtain ⟨hP1, hK1, hD1⟩ := hB
            rw [ht] at hP1
            obtain ⟨hP, hD⟩ := cl_put (w1 := (wd_c_X4_emit h0 h0_0 x_59 h0_2 h0_0 h0_0k w_60)) (nw := (wd_c_X4_readSum_3 h1 h1_0 h1_f1 x_45 x_46 h1_0 h1_0k h1_0c h0 h0_0 x_59 h0_2 h0_0 h0_0k w_60)) hP hD [2, 3] [0, 1, 4, 5] 4 rfl hqc (by decide +kernel) rfl hk1 hFc hP1 hD1
            generalize H1 = H at hP hS ⊢
            as_aux_lemma =>
            rcases hw with ⟨h_61, h_62⟩
            have h_62 : (x_59, w_60) = _ := h_62
            replace hEX := hEX.trans (exc2_eq h_62)
            exact hU _ _ _ (J39 x_45 x_46 x_59 w_60 g_h0_f1 g_h1_f1 g_h1_f2 g_h1_f3 (RG_w h_61 (by decide +kernel)) h_49 h_50 g_j8_h0_f1 g_j8_h1_f2 h_40 (RG_w g_55 (by decide +kernel)) g_j8_l4 g_34 hEX _ _ _ hP hD hS (lv_sub hl [0, 1, 3, 4, 5] rfl))
  refine hG _ _ _ ?_
  refine lv_iconst (v := 0) hx hb dX4_readSum_0 kc_iconst_0 ?_
  refine lv_istore_n (lv' := [(3, .int 0), (0, .ref h0), (1, .ref h1), (2, .int 3)]) hx hb dX4_readSum_1 rfl hl (Nat.le_of_ble_eq_true rfl) rfl (fun ls hl => ?_)
  refine lv_iconst (v := 0) hx hb dX4_readSum_2 kc_iconst_0 ?_
  refine lv_istore (lv' := [(4, .int 0), (3, .int 0), (0, .ref h0), (1, .ref h1), (2, .int 3)]) hx hb dX4_readSum_3 hl (Nat.le_of_ble_eq_true rfl) rfl (fun ls hl => ?_)
  refine lv_iconst (v := 0) hx hb dX4_readSum_5 kc_iconst_0 ?_
  refine lv_istore (lv' := [(5, .int 0), (4, .int 0), (3, .int 0), (0, .ref h0), (1, .ref h1), (2, .int 3)]) hx hb dX4_readSum_6 hl (Nat.le_of_ble_eq_true rfl) rfl (fun ls hl => ?_)
  exact hU _ _ _ (J8 exF 0 0 0 h1_f2 h1_f3 h0_f1 h0_0c MU_F g_h0_f1 g_h1_f1 g_h1_f2 g_h1_f3 g_h0_f1 g_h1_f2 g_h1_f3 (RG_w (RG_k 0 0 rfl) (by decide +kernel)) (RG_w (RG_k 0 0 rfl) (by decide +kernel)) (RG_w (RG_k 0 0 rfl) (by decide +kernel)) hEX _ _ _ hP hD hS (lv_sub hl [0, 1, 2, 3, 4, 5] rfl))
