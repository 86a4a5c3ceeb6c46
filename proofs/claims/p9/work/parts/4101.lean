noncomputable def wf_c_X12_spotOf_1 : List Cond := .code yX12_spotOf cX12_spotOf 3 (some .int) :: ([.methodLink RX12 114 yJ0_length_8abf5, .instanceMethod yJ0_length_8abf5, .selects RJ0 yJ0_length_8abf5 yJ0_length_8abf5, .initialized RJ0, .code yJ0_length_8abf5 cJ0_length_8abf5 1 (some .int), .fieldLink RJ0 9 "java/lang/String" "value" "[B", .methodLink RJ0 335 yJ0_coder_7d493, .instanceMethod yJ0_coder_7d493, .selects RJ0 yJ0_coder_7d493 yJ0_coder_7d493, .code yJ0_coder_7d493 cJ0_coder_7d493 1 (some .byte), .fieldLink RJ0 38 "java/lang/String" "COMPACT_STRINGS" "Z", .fieldLink RJ0 15 "java/lang/String" "coder" "B", .methodLink RX12 120 yJ0_charAt_5068e, .instanceMethod yJ0_charAt_5068e, .selects RJ0 yJ0_charAt_5068e yJ0_charAt_5068e, .code yJ0_charAt_5068e cJ0_charAt_5068e 2 (some .char), .methodLink RJ0 492 yJ0_isLatin1_aae02, .instanceMethod yJ0_isLatin1_aae02, .selects RJ0 yJ0_isLatin1_aae02 yJ0_isLatin1_aae02, .code yJ0_isLatin1_aae02 cJ0_isLatin1_aae02 1 (some .boolean), .methodLink RJ0 495 yJ1_charAt_3b067, .static yJ1_charAt_3b067, .initialized RJ1, .code yJ1_charAt_3b067 cJ1_charAt_3b067 2 (some .char), .methodLink RJ1 9 yJ0_checkIndex_df160, .static yJ0_checkIndex_df160, .code yJ0_checkIndex_df160 cJ0_checkIndex_df160 2 none, .fieldLink RJ0 1053 "jdk/internal/util/Preconditions" "SIOOBE_FORMATTER" "Ljava/util/function/BiFunction;", .methodLink RJ0 1059 yJ3_checkIndex_8e157, .static yJ3_checkIndex_8e157, .initialized RJ3, .code yJ3_checkIndex_8e157 cJ3_checkIndex_8e157 3 (some .int)])
set_option maxRecDepth 20000 in
theorem gf_c_X12_spotOf_1_c_J0_length_8abf5_6 : GoodIn wf_c_X12_spotOf_1 (wsV RX12 114 RJ0 yJ0_length_8abf5 wf_c_J0_length_8abf5_6) := goodIn_app (gi_l [1, 2, 3, 4] rfl rfl) (gi_cons (j := 5) rfl rfl (gi_l [6, 7, 8, 9, 4, 10, 11, 12] rfl rfl))
set_option maxRecDepth 20000 in
theorem gf_c_X12_spotOf_1_c_J0_charAt_5068e : GoodIn wf_c_X12_spotOf_1 (wsV RX12 120 RJ0 yJ0_charAt_5068e wf_c_J0_charAt_5068e) := goodIn_app (gi_l [13, 14, 15, 4] rfl rfl) (gi_cons (j := 16) rfl rfl (gi_l [17, 18, 19, 4, 20, 11, 12, 6, 21, 22, 23, 24, 25, 26, 27, 28, 29, 30, 31, 32] rfl rfl))
set_option maxRecDepth 20000 in
theorem gf_c_X12_spotOf_1_c_J0_charAt_5068e_1 : GoodIn wf_c_X12_spotOf_1 (wsV RX12 120 RJ0 yJ0_charAt_5068e wf_c_J0_charAt_5068e_1) := goodIn_app (gi_l [13, 14, 15, 4] rfl rfl) (gi_cons (j := 16) rfl rfl (gi_l [17, 18, 19, 4, 20, 11, 12, 6, 21, 22, 23, 24, 25, 26, 27, 28, 29, 30, 31, 32] rfl rfl))
set_option maxRecDepth 20000 in
theorem gf_c_X12_spotOf_1_c_J0_charAt_5068e_2 : GoodIn wf_c_X12_spotOf_1 (wsV RX12 120 RJ0 yJ0_charAt_5068e wf_c_J0_charAt_5068e_2) := goodIn_app (gi_l [13, 14, 15, 4] rfl rfl) (gi_cons (j := 16) rfl rfl (gi_l [17, 18, 19, 4, 20, 11, 12, 6, 21, 22, 23, 24, 25, 26, 27, 28, 29, 30, 31, 32] rfl rfl))
set_option maxRecDepth 20000 in
theorem gf_c_X12_spotOf_1_c_J0_charAt_5068e_3 : GoodIn wf_c_X12_spotOf_1 (wsV RX12 120 RJ0 yJ0_charAt_5068e wf_c_J0_charAt_5068e_3) := goodIn_app (gi_l [13, 14, 15, 4] rfl rfl) (gi_cons (j := 16) rfl rfl (gi_l [17, 18, 19, 4, 20, 11, 12, 6, 21, 22, 23, 24, 25, 26, 27, 28, 29, 30, 31, 32] rfl rfl))
set_option maxHeartbeats 4000000 in
set_option maxRecDepth 100000 in
theorem c_X12_spotOf_1 (l : Launch) (dC : Nat → ClassId) (dI : Nat → Nat → Nat) (sz : Nat) (ts10 : Nat) (p1 : Int32) (tv10 : Nat) (g_p1 : RG p1 0 255) : Met l yX12_spotOf wf_c_X12_spotOf_1 ({ frames := 4, cells := 0, slots := 0, locals := 85 }) (va_Pc [.ref ts10, .int p1] (fun U => U.heap.size = sz ∧ va_P (dC, dI) vwCl [] U.heap ∧ va_K (dC, dI) vwCl [] U ∧ va_D (fun _ => True) [] ∧ va_OF "java/lang/String" "value" "[B" (.ref tv10) ts10 (va_A [] sz) U U.heap ∧ va_T .byte tv10 4 (fun j => .int ([120, 121, 115, 118].getD j 0)) (va_A [] sz) U U.heap ∧ va_Z "java/lang/String" "COMPACT_STRINGS" "Z" (.int 1) (va_A [] sz) U U.heap ∧ va_OF "java/lang/String" "coder" "B" (.int 0) ts10 (va_A [] sz) U U.heap ∧ va_O "java/lang/String" ts10 (va_A [] sz) U U.heap ∧ va_Zq "jdk/internal/util/Preconditions" "SIOOBE_FORMATTER" "Ljava/util/function/BiFunction;" (va_A [] sz) U U.heap)) (va_Qi (fun (r : Int32) (u : Unit) => (r = (-1) ∧ r = fx_c_X12_spotOf_1 p1) ∨ (r = 3 ∧ RG p1 118 118 ∧ r = fx_c_X12_spotOf_1 p1) ∨ (r = 2 ∧ RG p1 115 115 ∧ r = fx_c_X12_spotOf_1 p1) ∨ (r = 1 ∧ RG p1 121 121 ∧ r = fx_c_X12_spotOf_1 p1) ∨ (r = 0 ∧ RG p1 120 120 ∧ r = fx_c_X12_spotOf_1 p1)) (fun (u : Unit) t => va_P (dC, dI) vwCl [] t.heap ∧ va_K (dC, dI) vwCl [] t ∧ va_D (va_A [] sz) []) (va_A [] sz)) 0 0 (va_A [] sz) := by
  refine Met.ofW (cc := cX12_spotOf) (maxL := 3) (ret := (some .int)) (by decide +kernel) rfl ?_
  intro p e s m args below meth c s₁ B hml hv
  obtain ⟨rfl, hsz, hP, hK, hD0, hE_65, hE_66, hE_10, hE_64, hE_63, hE_11⟩ := hv
  have hx := B.exec
  have hb := B.bytes
  have hr := B.returns
  have hts := atoms_spec (ws := wf_c_X12_spotOf_1) B.pre
  have hown : s.vm.findClass RX12 = some m.cls := findClass_of_methodNamed B.named
  have hlocks := B.notSynchronized
  subst hsz
  have hD := hD0.self (sz := s.heap.size)
  generalize hAe : va_A [] s.heap.size = A at hD hE_65 hE_66 hE_10 hE_64 hE_63 hE_11 ⊢
  have hA : ∀ q : Nat, s.heap.size ≤ q → A q := fun q h => by rw [← hAe]; exact Or.inr h
  have hP : va_P (dC, dI) vwCl [] s.heap := hP
  have hl := lv_entry ([.ref ts10, .int p1]) (n := 3) (Nat.le_of_ble_eq_true rfl)
  rw [lg_entry_eq]
  generalize (lg_sl ([.ref ts10, .int p1]) ++ List.replicate (3 - (lg_sl ([.ref ts10, .int p1])).length) Slot.unset).toArray = ls at hl ⊢
  have hl : lv_has ls 3 [(0, .ref ts10), (1, .int p1)] := hl
  obtain ⟨H, hHe⟩ : ∃ H : Heap, s.heap = H := ⟨_, rfl⟩
  have hS : va_S A s.heap H [] := by rw [hHe]; exact va_S.rf
  have hP : va_P (dC, dI) vwCl [] H := by rw [← hHe]; exact hP
  rw [hHe]
  obtain ⟨RES, hR⟩ : ∃ z, fx_c_X12_spotOf_1 p1 = z := ⟨_, rfl⟩
  have hEX : RES = fx_c_X12_spotOf_1 p1 := hR.symm
  refine lv_iconst (v := 0) hx hb dX12_spotOf_0 kc_iconst_0 ?_
  as_aux_lemma =>
  refine lv_istore_n (lv' := [(2, .int 0), (0, .ref ts10), (1, .int p1)]) hx hb dX12_spotOf_1 rfl hl (Nat.le_of_ble_eq_true rfl) rfl (fun ls hl => ?_)
  refine lv_iload_n hx hb dX12_spotOf_2 rfl (lv_at hl 0 rfl) ?_
  refine lv_aload_n hx hb dX12_spotOf_3 rfl (lv_at hl 1 rfl) ?_
  obtain ⟨hPc, hDc, hFc, hqc⟩ := cl_cut (wc := []) hP hD hS hA [] (by decide +kernel) rfl
  have hKc := hK.sub (tys' := []) [] rfl
  have hrv := bv_Orecv hE_63 hS
  refine va_calli (va_runV (As := []) (rest := [.int 0]) ⟨hx, hb, hml, hown, hts⟩ (c_J0_length_8abf5_6 l dC dI H.size ts10 tv10) (cwV 0 hts gf_c_X12_spotOf_1_c_J0_length_8abf5_6 rfl rfl rfl mdV_J0_length_8abf5 ⟨Nat.le_of_ble_eq_true rfl, Nat.le_of_ble_eq_true rfl⟩) ⟨fun a U g mk q => by obtain ⟨q0, q1, qP, qK, qD, qE0, qE1, qE2, qE3, qE4⟩ := q; exact ⟨q0, q1, qP, va_K.moved (u := U) (U := U.calling g mk a) (Vm.Alike.refl U.vm) qK, qD, va_OF.moved (u := U) (U := U.calling g mk a) (Vm.Alike.refl U.vm) qE0, va_T.moved (u := U) (U := U.calling g mk a) (Vm.Alike.refl U.vm) qE1, va_Z.moved (u := U) (U := U.calling g mk a) (Vm.Alike.refl U.vm) qE2, va_OF.moved (u := U) (U := U.calling g mk a) (Vm.Alike.refl U.vm) qE3, va_O.moved (u := U) (U := U.calling g mk a) (Vm.Alike.refl U.vm) qE4⟩, hrv, fun U hU hW => ⟨rfl, by rw [hU], by rw [hU]; exact hPc, va_K.moved hW.alike hKc, hDc.weaken (fun _ _ _ _ => trivial), va_OF.moved hW.alike (by rw [hU]; exact (hE_65.kept hS.2.1).narrow hFc), va_T.moved hW.alike (by rw [hU]; exact (hE_66.kept hS.2.1).narrow hFc), va_Z.moved hW.alike (by rw [hU]; exact (hE_10.kept hS.2.1).narrow hFc), va_OF.moved hW.alike (by rw [hU]; exact (hE_64.kept hS.2.1).narrow hFc), va_O.moved hW.alike (by rw [hU]; exact (hE_63.kept hS.2.1).narrow hFc)⟩⟩ rfl rfl hl.1 rfl (lv_room (Nat.le_of_ble_eq_true rfl)) dX12_spotOf_4 ⟨Nat.le_of_ble_eq_true rfl, Nat.le_of_ble_eq_true rfl⟩) hS (fun q _ h => hFc q h) hFc (fun r_1 u t H1 locs ht hvm hw hB hz1 hk1 hS => ?_)
  obtain ⟨hP1, hK1, hD1⟩ := hB
  rw [ht] at hP1
  have hP := bv_still hP hk1
  generalize H1 = H at hP hS ⊢
  as_aux_lemma =>
  rcases hw with ⟨h_2, h_3⟩
  have h_3 : r_1 = _ := h_3
  replace hEX := hEX.trans (exc1_eq h_3)
  rw [h_2]
  refine lv_icmp_ge (tgt := 27) hx hb dX12_spotOf_7 rfl (fun c_4 => absurd c_4 (by decide +kernel)) (fun c_4 => ?_)
  refine lv_aload_n hx hb dX12_spotOf_10 rfl (lv_at hl 1 rfl) ?_
  refine lv_iload_n hx hb dX12_spotOf_11 rfl (lv_at hl 0 rfl) ?_
  obtain ⟨hPc, hDc, hFc, hqc⟩ := cl_cut (wc := []) hP hD hS hA [] (by decide +kernel) rfl
  have hKc := hK.sub (tys' := []) [] rfl
  have hrv := bv_Orecv hE_63 hS
  refine va_calli (va_runV (As := [.int 0]) (rest := []) ⟨hx, hb, hml, hown, hts⟩ (c_J0_charAt_5068e l dC dI H.size ts10 tv10) (cwV 1 hts gf_c_X12_spotOf_1_c_J0_charAt_5068e rfl rfl rfl mdV_J0_charAt_5068e ⟨Nat.le_of_ble_eq_true rfl, Nat.le_of_ble_eq_true rfl⟩) ⟨fun a U g mk q => by obtain ⟨q0, q1, qP, qK, qD, qE0, qE1, qE2, qE3, qE4, qE5⟩ := q; exact ⟨q0, q1, qP, va_K.moved (u := U) (U := U.calling g mk a) (Vm.Alike.refl U.vm) qK, qD, va_Z.moved (u := U) (U := U.calling g mk a) (Vm.Alike.refl U.vm) qE0, va_OF.moved (u := U) (U := U.calling g mk a) (Vm.Alike.refl U.vm) qE1, va_O.moved (u := U) (U := U.calling g mk a) (Vm.Alike.refl U.vm) qE2, va_OF.moved (u := U) (U := U.calling g mk a) (Vm.Alike.refl U.vm) qE3, va_T.moved (u := U) (U := U.calling g mk a) (Vm.Alike.refl U.vm) qE4, va_Zq.moved (u := U) (U := U.calling g mk a) (Vm.Alike.refl U.vm) qE5⟩, hrv, fun U hU hW => ⟨rfl, by rw [hU], by rw [hU]; exact hPc, va_K.moved hW.alike hKc, hDc.weaken (fun _ _ _ _ => trivial), va_Z.moved hW.alike (by rw [hU]; exact (hE_10.kept hS.2.1).narrow hFc), va_OF.moved hW.alike (by rw [hU]; exact (hE_64.kept hS.2.1).narrow hFc), va_O.moved hW.alike (by rw [hU]; exact (hE_63.kept hS.2.1).narrow hFc), va_OF.moved hW.alike (by rw [hU]; exact (hE_65.kept hS.2.1).narrow hFc), va_T.moved hW.alike (by rw [hU]; exact (hE_66.kept hS.2.1).narrow hFc), va_Zq.moved hW.alike (by rw [hU]; exact (hE_11.kept hS.2.1).narrow hFc)⟩⟩ rfl rfl hl.1 rfl (lv_room (Nat.le_of_ble_eq_true rfl)) dX12_spotOf_12 ⟨Nat.le_of_ble_eq_true rfl, Nat.le_of_ble_eq_true rfl⟩) hS (fun q _ h => hFc q h) hFc (fun r_5 u t H1 locs ht hvm hw hB hz1 hk1 hS => ?_)
  obtain ⟨hP1, hK1, hD1⟩ := hB
  rw [ht] at hP1
  have hP := bv_still hP hk1
  generalize H1 = H at hP hS ⊢
  as_aux_lemma =>
  rcases hw with ⟨h_6, h_7⟩
  have h_7 : r_5 = _ := h_7
  replace hEX := hEX.trans (exc1_eq h_7)
  rw [h_6]
  refine lv_iload_n hx hb dX12_spotOf_15 rfl (lv_at hl 2 rfl) ?_
  refine lv_icmp_ne (tgt := 21) hx hb dX12_spotOf_16 rfl (fun c_8 => ?_) (fun c_8 => ?_)
  · replace hEX := hEX.trans (if_neg c_8)
    refine lv_iinc (v := 1) (lv' := [(2, .int 1), (0, .ref ts10), (1, .int p1)]) hx hb dX12_spotOf_21 hl (k := 0) rfl (by decide +kernel) (Nat.le_of_ble_eq_true rfl) rfl (fun ls hl => ?_)
    refine lv_goto (tgt := 2) hx hb dX12_spotOf_24 rfl ?_
    refine lv_iload_n hx hb dX12_spotOf_2 rfl (lv_at hl 0 rfl) ?_
    refine lv_aload_n hx hb dX12_spotOf_3 rfl (lv_at hl 1 rfl) ?_
    obtain ⟨hPc, hDc, hFc, hqc⟩ := cl_cut (wc := []) hP hD hS hA [] (by decide +kernel) rfl
    have hKc := hK.sub (tys' := []) [] rfl
    have hrv := bv_Orecv hE_63 hS
    refine va_calli (va_runV (As := []) (rest := [.int 1]) ⟨hx, hb, hml, hown, hts⟩ (c_J0_length_8abf5_6 l dC dI H.size ts10 tv10) (cwV 0 hts gf_c_X12_spotOf_1_c_J0_length_8abf5_6 rfl rfl rfl mdV_J0_length_8abf5 ⟨Nat.le_of_ble_eq_true rfl, Nat.le_of_ble_eq_true rfl⟩) ⟨fun a U g mk q => by obtain ⟨q0, q1, qP, qK, qD, qE0, qE1, qE2, qE3, qE4⟩ := q; exact ⟨q0, q1, qP, va_K.moved (u := U) (U := U.calling g mk a) (Vm.Alike.refl U.vm) qK, qD, va_OF.moved (u := U) (U := U.calling g mk a) (Vm.Alike.refl U.vm) qE0, va_T.moved (u := U) (U := U.calling g mk a) (Vm.Alike.refl U.vm) qE1, va_Z.moved (u := U) (U := U.calling g mk a) (Vm.Alike.refl U.vm) qE2, va_OF.moved (u := U) (U := U.calling g mk a) (Vm.Alike.refl U.vm) qE3, va_O.moved (u := U) (U := U.calling g mk a) (Vm.Alike.refl U.vm) qE4⟩, hrv, fun U hU hW => ⟨rfl, by rw [hU], by rw [hU]; exact hPc, va_K.moved hW.alike hKc, hDc.weaken (fun _ _ _ _ => trivial), va_OF.moved hW.alike (by rw [hU]; exact (hE_65.kept hS.2.1).narrow hFc), va_T.moved hW.alike (by rw [hU]; exact (hE_66.kept hS.2.1).narrow hFc), va_Z.moved hW.alike (by rw [hU]; exact (hE_10.kept hS.2.1).narrow hFc), va_OF.moved hW.alike (by rw [hU]; exact (hE_64.kept hS.2.1).narrow hFc), va_O.moved hW.alike (by rw [hU]; exact (hE_63.kept hS.2.1).narrow hFc)⟩⟩ rfl rfl hl.1 rfl (lv_room (Nat.le_of_ble_eq_true rfl)) dX12_spotOf_4 ⟨Nat.le_of_ble_eq_true rfl, Nat.le_of_ble_eq_true rfl⟩) hS (fun q _ h => hFc q h) hFc (fun r_9 u t H1 locs ht hvm hw hB hz1 hk1 hS => ?_)
    as_aux_lemma =>
    obtain ⟨hP1, hK1, hD1⟩ := hB
    rw [ht] at hP1
    have hP := bv_still hP hk1
    generalize H1 = H at hP hS ⊢
    as_aux_lemma =>
    rcases hw with ⟨h_10, h_11⟩
    have h_11 : r_9 = _ := h_11
    replace hEX := hEX.trans (exc1_eq h_11)
    rw [h_10]
    refine lv_icmp_ge (tgt := 27) hx hb dX12_spotOf_7 rfl (fun c_12 => absurd c_12 (by decide +kernel)) (fun c_12 => ?_)
    refine lv_aload_n hx hb dX12_spotOf_10 rfl (lv_at hl 1 rfl) ?_
    refine lv_iload_n hx hb dX12_spotOf_11 rfl (lv_at hl 0 rfl) ?_
    obtain ⟨hPc, hDc, hFc, hqc⟩ := cl_cut (wc := []) hP hD hS hA [] (by decide +kernel) rfl
    have hKc := hK.sub (tys' := []) [] rfl
    have hrv := bv_Orecv hE_63 hS
    refine va_calli (va_runV (As := [.int 1]) (rest := []) ⟨hx, hb, hml, hown, hts⟩ (c_J0_charAt_5068e_1 l dC dI H.size ts10 tv10) (cwV 1 hts gf_c_X12_spotOf_1_c_J0_charAt_5068e_1 rfl rfl rfl mdV_J0_charAt_5068e ⟨Nat.le_of_ble_eq_true rfl, Nat.le_of_ble_eq_true rfl⟩) ⟨fun a U g mk q => by obtain ⟨q0, q1, qP, qK, qD, qE0, qE1, qE2, qE3, qE4, qE5⟩ := q; exact ⟨q0, q1, qP, va_K.moved (u := U) (U := U.calling g mk a) (Vm.Alike.refl U.vm) qK, qD, va_Z.moved (u := U) (U := U.calling g mk a) (Vm.Alike.refl U.vm) qE0, va_OF.moved (u := U) (U := U.calling g mk a) (Vm.Alike.refl U.vm) qE1, va_O.moved (u := U) (U := U.calling g mk a) (Vm.Alike.refl U.vm) qE2, va_OF.moved (u := U) (U := U.calling g mk a) (Vm.Alike.refl U.vm) qE3, va_T.moved (u := U) (U := U.calling g mk a) (Vm.Alike.refl U.vm) qE4, va_Zq.moved (u := U) (U := U.calling g mk a) (Vm.Alike.refl U.vm) qE5⟩, hrv, fun U hU hW => ⟨rfl, by rw [hU], by rw [hU]; exact hPc, va_K.moved hW.alike hKc, hDc.weaken (fun _ _ _ _ => trivial), va_Z.moved hW.alike (by rw [hU]; exact (hE_10.kept hS.2.1).narrow hFc), va_OF.moved hW.alike (by rw [hU]; exact (hE_64.kept hS.2.1).narrow hFc), va_O.moved hW.alike (by rw [hU]; exact (hE_63.kept hS.2.1).narrow hFc), va_OF.moved hW.alike (by rw [hU]; exact (hE_65.kept hS.2.1).narrow hFc), va_T.moved hW.alike (by rw [hU]; exact (hE_66.kept hS.2.1).narrow hFc), va_Zq.moved hW.alike (by rw [hU]; exact (hE_11.kept hS.2.1).narrow hFc)⟩⟩ rfl rfl hl.1 rfl (lv_room (Nat.le_of_ble_eq_true rfl)) dX12_spotOf_12 ⟨Nat.le_of_ble_eq_true rfl, Nat.le_of_ble_eq_true rfl⟩) hS (fun q _ h => hFc q h) hFc (fun r_13 u t H1 locs ht hvm hw hB hz1 hk1 hS => ?_)
    obtain ⟨hP1, hK1, hD1⟩ := hB
    rw [ht] at hP1
    have hP := bv_still hP hk1
    generalize H1 = H at hP hS ⊢
    as_aux_lemma =>
    rcases hw with ⟨h_14, h_15⟩
    have h_15 : r_13 = _ := h_15
    replace hEX := hEX.trans (exc1_eq h_15)
    rw [h_14]
    refine lv_iload_n hx hb dX12_spotOf_15 rfl (lv_at hl 2 rfl) ?_
    refine lv_icmp_ne (tgt := 21) hx hb dX12_spotOf_16 rfl (fun c_16 => ?_) (fun c_16 => ?_)
    · replace hEX := hEX.trans (if_neg c_16)
      refine lv_iinc (v := 2) (lv' := [(2, .int 2), (0, .ref ts10), (1, .int p1)]) hx hb dX12_spotOf_21 hl (k := 0) rfl (by decide +kernel) (Nat.le_of_ble_eq_true rfl) rfl (fun ls hl => ?_)
      refine lv_goto (tgt := 2) hx hb dX12_spotOf_24 rfl ?_
      refine lv_iload_n hx hb dX12_spotOf_2 rfl (lv_at hl 0 rfl) ?_
      refine lv_aload_n hx hb dX12_spotOf_3 rfl (lv_at hl 1 rfl) ?_
      obtain ⟨hPc, hDc, hFc, hqc⟩ := cl_cut (wc := []) hP hD hS hA [] (by decide +kernel) rfl
      have hKc := hK.sub (tys' := []) [] rfl
      have hrv := bv_Orecv hE_63 hS
      refine va_calli (va_runV (As := []) (rest := [.int 2]) ⟨hx, hb, hml, hown, hts⟩ (c_J0_length_8abf5_6 l dC dI H.size ts10 tv10) (cwV 0 hts gf_c_X12_spotOf_1_c_J0_length_8abf5_6 rfl rfl rfl mdV_J0_length_8abf5 ⟨Nat.le_of_ble_eq_true rfl, Nat.le_of_ble_eq_true rfl⟩) ⟨fun a U g mk q => by obtain ⟨q0, q1, qP, qK, qD, qE0, qE1, qE2, qE3, qE4⟩ := q; exact ⟨q0, q1, qP, va_K.moved (u := U) (U := U.calling g mk a) (Vm.Alike.refl U.vm) qK, qD, va_OF.moved (u := U) (U := U.calling g mk a) (Vm.Alike.refl U.vm) qE0, va_T.moved (u := U) (U := U.calling g mk a) (Vm.Alike.refl U.vm) qE1, va_Z.moved (u := U) (U := U.calling g mk a) (Vm.Alike.refl U.vm) qE2, va_OF.moved (u := U) (U := U.calling g mk a) (Vm.Alike.refl U.vm) qE3, va_O.moved (u := U) (U := U.calling g mk a) (Vm.Alike.refl U.vm) qE4⟩, hrv, fun U hU hW => ⟨rfl, by rw [hU], by rw [hU]; exact hPc, va_K.moved hW.alike hKc, hDc.weaken (fun _ _ _ _ => trivial), va_OF.moved hW.alike (by rw [hU]; exact (hE_65.kept hS.2.1).narrow hFc), va_T.moved hW.alike (by rw [hU]; exact (hE_66.kept hS.2.1).narrow hFc), va_Z.moved hW.alike (by rw [hU]; exact (hE_10.kept hS.2.1).narrow hFc), va_OF.moved hW.alike (by rw [hU]; exact (hE_64.kept hS.2.1).narrow hFc), va_O.moved hW.alike (by rw [hU]; exact (hE_63.kept hS.2.1).narrow hFc)⟩⟩ rfl rfl hl.1 rfl (lv_room (Nat.le_of_ble_eq_true rfl)) dX12_spotOf_4 ⟨Nat.le_of_ble_eq_true rfl, Nat.le_of_ble_eq_true rfl⟩) hS (fun q _ h => hFc q h) hFc (fun r_17 u t H1 locs ht hvm hw hB hz1 hk1 hS => ?_)
      as_aux_lemma =>
      obtain ⟨hP1, hK1, hD1⟩ := hB
      rw [ht] at hP1
      have hP := bv_still hP hk1
      generalize H1 = H at hP hS ⊢
      as_aux_lemma =>
      rcases hw with ⟨h_18, h_19⟩
      have h_19 : r_17 = _ := h_19
      replace hEX := hEX.trans (exc1_eq h_19)
      rw [h_18]
      refine lv_icmp_ge (tgt := 27) hx hb dX12_spotOf_7 rfl (fun c_20 => absurd c_20 (by decide +kernel)) (fun c_20 => ?_)
      refine lv_aload_n hx hb dX12_spotOf_10 rfl (lv_at hl 1 rfl) ?_
      refine lv_iload_n hx hb dX12_spotOf_11 rfl (lv_at hl 0 rfl) ?_
      obtain ⟨hPc, hDc, hFc, hqc⟩ := cl_cut (wc := []) hP hD hS hA [] (by decide +kernel) rfl
      have hKc := hK.sub (tys' := []) [] rfl
      have hrv := bv_Orecv hE_63 hS
      refine va_calli (va_runV (As := [.int 2]) (rest := []) ⟨hx, hb, hml, hown, hts⟩ (c_J0_charAt_5068e_2 l dC dI H.size ts10 tv10) (cwV 1 hts gf_c_X12_spotOf_1_c_J0_charAt_5068e_2 rfl rfl rfl mdV_J0_charAt_5068e ⟨Nat.le_of_ble_eq_true rfl, Nat.le_of_ble_eq_true rfl⟩) ⟨fun a U g mk q => by obtain ⟨q0, q1, qP, qK, qD, qE0, qE1, qE2, qE3, qE4, qE5⟩ := q; exact ⟨q0, q1, qP, va_K.moved (u := U) (U := U.calling g mk a) (Vm.Alike.refl U.vm) qK, qD, va_Z.moved (u := U) (U := U.calling g mk a) (Vm.Alike.refl U.vm) qE0, va_OF.moved (u := U) (U := U.calling g mk a) (Vm.Alike.refl U.vm) qE1, va_O.moved (u := U) (U := U.calling g mk a) (Vm.Alike.refl U.vm) qE2, va_OF.moved (u := U) (U := U.calling g mk a) (Vm.Alike.refl U.vm) qE3, va_T.moved (u := U) (U := U.calling g mk a) (Vm.Alike.refl U.vm) qE4, va_Zq.moved (u := U) (U := U.calling g mk a) (Vm.Alike.refl U.vm) qE5⟩, hrv, fun U hU hW => ⟨rfl, by rw [hU], by rw [hU]; exact hPc, va_K.moved hW.alike hKc, hDc.weaken (fun _ _ _ _ => trivial), va_Z.moved hW.alike (by rw [hU]; exact (hE_10.kept hS.2.1).narrow hFc), va_OF.moved hW.alike (by rw [hU]; exact (hE_64.kept hS.2.1).narrow hFc), va_O.moved hW.alike (by rw [hU]; exact (hE_63.kept hS.2.1).narrow hFc), va_OF.moved hW.alike (by rw [hU]; exact (hE_65.kept hS.2.1).narrow hFc), va_T.moved hW.alike (by rw [hU]; exact (hE_66.kept hS.2.1).narrow hFc), va_Zq.moved hW.alike (by rw [hU]; exact (hE_11.kept hS.2.1).narrow hFc)⟩⟩ rfl rfl hl.1 rfl (lv_room (Nat.le_of_ble_eq_true rfl)) dX12_spotOf_12 ⟨Nat.le_of_ble_eq_true rfl, Nat.le_of_ble_eq_true rfl⟩) hS (fun q _ h => hFc q h) hFc (fun r_21 u t H1 locs ht hvm hw hB hz1 hk1 hS => ?_)
      obtain ⟨hP1, hK1, hD1⟩ := hB
      rw [ht] at hP1
      have hP := bv_still hP hk1
      generalize H1 = H at hP hS ⊢
      as_aux_lemma =>
      rcases hw with ⟨h_22, h_23⟩
      have h_23 : r_21 = _ := h_23
      replace hEX := hEX.trans (exc1_eq h_23)
      rw [h_22]
      refine lv_iload_n hx hb dX12_spotOf_15 rfl (lv_at hl 2 rfl) ?_
      refine lv_icmp_ne (tgt := 21) hx hb dX12_spotOf_16 rfl (fun c_24 => ?_) (fun c_24 => ?_)
      · replace hEX := hEX.trans (if_neg c_24)
        refine lv_iinc (v := 3) (lv' := [(2, .int 3), (0, .ref ts10), (1, .int p1)]) hx hb dX12_spotOf_21 hl (k := 0) rfl (by decide +kernel) (Nat.le_of_ble_eq_true rfl) rfl (fun ls hl => ?_)
        refine lv_goto (tgt := 2) hx hb dX12_spotOf_24 rfl ?_
        refine lv_iload_n hx hb dX12_spotOf_2 rfl (lv_at hl 0 rfl) ?_
        refine lv_aload_n hx hb dX12_spotOf_3 rfl (lv_at hl 1 rfl) ?_
        obtain ⟨hPc, hDc, hFc, hqc⟩ := cl_cut (wc := []) hP hD hS hA [] (by decide +kernel) rfl
        have hKc := hK.sub (tys' := []) [] rfl
        have hrv := bv_Orecv hE_63 hS
        refine va_calli (va_runV (As := []) (rest := [.int 3]) ⟨hx, hb, hml, hown, hts⟩ (c_J0_length_8abf5_6 l dC dI H.size ts10 tv10) (cwV 0 hts gf_c_X12_spotOf_1_c_J0_length_8abf5_6 rfl rfl rfl mdV_J0_length_8abf5 ⟨Nat.le_of_ble_eq_true rfl, Nat.le_of_ble_eq_true rfl⟩) ⟨fun a U g mk q => by obtain ⟨q0, q1, qP, qK, qD, qE0, qE1, qE2, qE3, qE4⟩ := q; exact ⟨q0, q1, qP, va_K.moved (u := U) (U := U.calling g mk a) (Vm.Alike.refl U.vm) qK, qD, va_OF.moved (u := U) (U := U.calling g mk a) (Vm.Alike.refl U.vm) qE0, va_T.moved (u := U) (U := U.calling g mk a) (Vm.Alike.refl U.vm) qE1, va_Z.moved (u := U) (U := U.calling g mk a) (Vm.Alike.refl U.vm) qE2, va_OF.moved (u := U) (U := U.calling g mk a) (Vm.Alike.refl U.vm) qE3, va_O.moved (u := U) (U := U.calling g mk a) (Vm.Alike.refl U.vm) qE4⟩, hrv, fun U hU hW => ⟨rfl, by rw [hU], by rw [hU]; exact hPc, va_K.moved hW.alike hKc, hDc.weaken (fun _ _ _ _ => trivial), va_OF.moved hW.alike (by rw [hU]; exact (hE_65.kept hS.2.1).narrow hFc), va_T.moved hW.alike (by rw [hU]; exact (hE_66.kept hS.2.1).narrow hFc), va_Z.moved hW.alike (by rw [hU]; exact (hE_10.kept hS.2.1).narrow hFc), va_OF.moved hW.alike (by rw [hU]; exact (hE_64.kept hS.2.1).narrow hFc), va_O.moved hW.alike (by rw [hU]; exact (hE_63.kept hS.2.1).narrow hFc)⟩⟩ rfl rfl hl.1 rfl (lv_room (Nat.le_of_ble_eq_true rfl)) dX12_spotOf_4 ⟨Nat.le_of_ble_eq_true rfl, Nat.le_of_ble_eq_true rfl⟩) hS (fun q _ h => hFc q h) hFc (fun r_25 u t H1 locs ht hvm hw hB hz1 hk1 hS => ?_)
        as_aux_lemma =>
        obtain ⟨hP1, hK1, hD1⟩ := hB
        rw [ht] at hP1
        have hP := bv_still hP hk1
        generalize H1 = H at hP hS ⊢
        as_aux_lemma =>
        rcases hw with ⟨h_26, h_27⟩
        have h_27 : r_25 = _ := h_27
        replace hEX := hEX.trans (exc1_eq h_27)
        rw [h_26]
        refine lv_icmp_ge (tgt := 27) hx hb dX12_spotOf_7 rfl (fun c_28 => absurd c_28 (by decide +kernel)) (fun c_28 => ?_)
        refine lv_aload_n hx hb dX12_spotOf_10 rfl (lv_at hl 1 rfl) ?_
        refine lv_iload_n hx hb dX12_spotOf_11 rfl (lv_at hl 0 rfl) ?_
        obtain ⟨hPc, hDc, hFc, hqc⟩ := cl_cut (wc := []) hP hD hS hA [] (by decide +kernel) rfl
        have hKc := hK.sub (tys' := []) [] rfl
        have hrv := bv_Orecv hE_63 hS
        refine va_calli (va_runV (As := [.int 3]) (rest := []) ⟨hx, hb, hml, hown, hts⟩ (c_J0_charAt_5068e_3 l dC dI H.size ts10 tv10) (cwV 1 hts gf_c_X12_spotOf_1_c_J0_charAt_5068e_3 rfl rfl rfl mdV_J0_charAt_5068e ⟨Nat.le_of_ble_eq_true rfl, Nat.le_of_ble_eq_true rfl⟩) ⟨fun a U g mk q => by obtain ⟨q0, q1, qP, qK, qD, qE0, qE1, qE2, qE3, qE4, qE5⟩ := q; exact ⟨q0, q1, qP, va_K.moved (u := U) (U := U.calling g mk a) (Vm.Alike.refl U.vm) qK, qD, va_Z.moved (u := U) (U := U.calling g mk a) (Vm.Alike.refl U.vm) qE0, va_OF.moved (u := U) (U := U.calling g mk a) (Vm.Alike.refl U.vm) qE1, va_O.moved (u := U) (U := U.calling g mk a) (Vm.Alike.refl U.vm) qE2, va_OF.moved (u := U) (U := U.calling g mk a) (Vm.Alike.refl U.vm) qE3, va_T.moved (u := U) (U := U.calling g mk a) (Vm.Alike.refl U.vm) qE4, va_Zq.moved (u := U) (U := U.calling g mk a) (Vm.Alike.refl U.vm) qE5⟩, hrv, fun U hU hW => ⟨rfl, by rw [hU], by rw [hU]; exact hPc, va_K.moved hW.alike hKc, hDc.weaken (fun _ _ _ _ => trivial), va_Z.moved hW.alike (by rw [hU]; exact (hE_10.kept hS.2.1).narrow hFc), va_OF.moved hW.alike (by rw [hU]; exact (hE_64.kept hS.2.1).narrow hFc), va_O.moved hW.alike (by rw [hU]; exact (hE_63.kept hS.2.1).narrow hFc), va_OF.moved hW.alike (by rw [hU]; exact (hE_65.kept hS.2.1).narrow hFc), va_T.moved hW.alike (by rw [hU]; exact (hE_66.kept hS.2.1).narrow hFc), va_Zq.moved hW.alike (by rw [hU]; exact (hE_11.kept hS.2.1).narrow hFc)⟩⟩ rfl rfl hl.1 rfl (lv_room (Nat.le_of_ble_eq_true rfl)) dX12_spotOf_12 ⟨Nat.le_of_ble_eq_true rfl, Nat.le_of_ble_eq_true rfl⟩) hS (fun q _ h => hFc q h) hFc (fun r_29 u t H1 locs ht hvm hw hB hz1 hk1 hS => ?_)
        obtain ⟨hP1, hK1, hD1⟩ := hB
        rw [ht] at hP1
        have hP := bv_still hP hk1
        generalize H1 = H at hP hS ⊢
        as_aux_lemma =>
        rcases hw with ⟨h_30, h_31⟩
        have h_31 : r_29 = _ := h_31
        replace hEX := hEX.trans (exc1_eq h_31)
        rw [h_30]
        refine lv_iload_n hx hb dX12_spotOf_15 rfl (lv_at hl 2 rfl) ?_
        refine lv_icmp_ne (tgt := 21) hx hb dX12_spotOf_16 rfl (fun c_32 => ?_) (fun c_32 => ?_)
        · replace hEX := hEX.trans (if_neg c_32)
          refine lv_iinc (v := 4) (lv' := [(2, .int 4), (0, .ref ts10), (1, .int p1)]) hx hb dX12_spotOf_21 hl (k := 0) rfl (by decide +kernel) (Nat.le_of_ble_eq_true rfl) rfl (fun ls hl => ?_)
          refine lv_goto (tgt := 2) hx hb dX12_spotOf_24 rfl ?_
          refine lv_iload_n hx hb dX12_spotOf_2 rfl (lv_at hl 0 rfl) ?_
          refine lv_aload_n hx hb dX12_spotOf_3 rfl (lv_at hl 1 rfl) ?_
          obtain ⟨hPc, hDc, hFc, hqc⟩ := cl_cut (wc := []) hP hD hS hA [] (by decide +kernel) rfl
          have hKc := hK.sub (tys' := []) [] rfl
          have hrv := bv_Orecv hE_63 hS
          refine va_calli (va_runV (As := []) (rest := [.int 4]) ⟨hx, hb, hml, hown, hts⟩ (c_J0_length_8abf5_6 l dC dI H.size ts10 tv10) (cwV 0 hts gf_c_X12_spotOf_1_c_J0_length_8abf5_6 rfl rfl rfl mdV_J0_length_8abf5 ⟨Nat.le_of_ble_eq_true rfl, Nat.le_of_ble_eq_true rfl⟩) ⟨fun a U g mk q => by obtain ⟨q0, q1, qP, qK, qD, qE0, qE1, qE2, qE3, qE4⟩ := q; exact ⟨q0, q1, qP, va_K.moved (u := U) (U := U.calling g mk a) (Vm.Alike.refl U.vm) qK, qD, va_OF.moved (u := U) (U := U.calling g mk a) (Vm.Alike.refl U.vm) qE0, va_T.moved (u := U) (U := U.calling g mk a) (Vm.Alike.refl U.vm) qE1, va_Z.moved (u := U) (U := U.calling g mk a) (Vm.Alike.refl U.vm) qE2, va_OF.moved (u := U) (U := U.calling g mk a) (Vm.Alike.refl U.vm) qE3, va_O.moved (u := U) (U := U.calling g mk a) (Vm.Alike.refl U.vm) qE4⟩, hrv, fun U hU hW => ⟨rfl, by rw [hU], by rw [hU]; exact hPc, va_K.moved hW.alike hKc, hDc.weaken (fun _ _ _ _ => trivial), va_OF.moved hW.alike (by rw [hU]; exact (hE_65.kept hS.2.1).narrow hFc), va_T.moved hW.alike (by rw [hU]; exact (hE_66.kept hS.2.1).narrow hFc), va_Z.moved hW.alike (by rw [hU]; exact (hE_10.kept hS.2.1).narrow hFc), va_OF.moved hW.alike (by rw [hU]; exact (hE_64.kept hS.2.1).narrow hFc), va_O.moved hW.alike (by rw [hU]; exact (hE_63.kept hS.2.1).narrow hFc)⟩⟩ rfl rfl hl.1 rfl (lv_room (Nat.le_of_ble_eq_true rfl)) dX12_spotOf_4 ⟨Nat.le_of_ble_eq_true rfl, Nat.le_of_ble_eq_true rfl⟩) hS (fun q _ h => hFc q h) hFc (fun r_33 u t H1 locs ht hvm hw hB hz1 hk1 hS => ?_)
          as_aux_lemma =>
          obtain ⟨hP1, hK1, hD1⟩ := hB
          rw [ht] at hP1
          have hP := bv_still hP hk1
          generalize H1 = H at hP hS ⊢
          as_aux_lemma =>
          rcases hw with ⟨h_34, h_35⟩
          have h_35 : r_33 = _ := h_35
          replace hEX := hEX.trans (exc1_eq h_35)
          rw [h_34]
          refine lv_icmp_ge (tgt := 27) hx hb dX12_spotOf_7 rfl (fun c_36 => ?_) (fun c_36 => absurd c_36 (by decide +kernel))
          refine lv_iconst (v := (-1)) hx hb dX12_spotOf_27 kc_iconst_m1 ?_
          have hK9 := hK.sub (tys' := []) [] rfl
          exact W.iret (v := (-1)) hx hb hr (fun t ht hW => ⟨⟨(-1), (), rfl, (Or.inl ⟨rfl, (hR.trans hEX).symm⟩), by rw [ht]; exact hP, va_K.moved hW.alike hK9, hD⟩, hS.F ht⟩) hS.2.2 dX12_spotOf_28
        · replace hEX := hEX.trans (if_pos c_32)
          have g_37 : RG p1 118 118 := RG_eq1 g_p1 (RG_k 118 118 rfl) c_32.symm (by decide +kernel)
          refine lv_iload_n hx hb dX12_spotOf_19 rfl (lv_at hl 0 rfl) ?_
          have hK9 := hK.sub (tys' := []) [] rfl
          exact W.iret (v := 3) hx hb hr (fun t ht hW => ⟨⟨3, (), rfl, (Or.inr (Or.inl ⟨rfl, g_37, (hR.trans hEX).symm⟩)), by rw [ht]; exact hP, va_K.moved hW.alike hK9, hD⟩, hS.F ht⟩) hS.2.2 dX12_spotOf_20
      · replace hEX := hEX.trans (if_pos c_24)
        have g_38 : RG p1 115 115 := RG_eq1 g_p1 (RG_k 115 115 rfl) c_24.symm (by decide +kernel)
        refine lv_iload_n hx hb dX12_spotOf_19 rfl (lv_at hl 0 rfl) ?_
        as_aux_lemma =>
        have hK9 := hK.sub (tys' := []) [] rfl
        exact W.iret (v := 2) hx hb hr (fun t ht hW => ⟨⟨2, (), rfl, (Or.inr (Or.inr (Or.inl ⟨rfl, g_38, (hR.trans hEX).symm⟩))), by rw [ht]; exact hP, va_K.moved hW.alike hK9, hD⟩, hS.F ht⟩) hS.2.2 dX12_spotOf_20
    · replace hEX := hEX.trans (if_pos c_16)
      have g_39 : RG p1 121 121 := RG_eq1 g_p1 (RG_k 121 121 rfl) c_16.symm (by decide +kernel)
      refine lv_iload_n hx hb dX12_spotOf_19 rfl (lv_at hl 0 rfl) ?_
      have hK9 := hK.sub (tys' := []) [] rfl
      exact W.iret (v := 1) hx hb hr (fun t ht hW => ⟨⟨1, (), rfl, (Or.inr (Or.inr (Or.inr (Or.inl ⟨rfl, g_39, (hR.trans hEX).symm⟩)))), by rw [ht]; exact hP, va_K.moved hW.alike hK9, hD⟩, hS.F ht⟩) hS.2.2 dX12_spotOf_20
  · replace hEX := hEX.trans (if_pos c_8)
    have g_40 : RG p1 120 120 := RG_eq1 g_p1 (RG_k 120 120 rfl) c_8.symm (by decide +kernel)
    refine lv_iload_n hx hb dX12_spotOf_19 rfl (lv_at hl 0 rfl) ?_
    have hK9 := hK.sub (tys' := []) [] rfl
    exact W.iret (v := 0) hx hb hr (fun t ht hW => ⟨⟨0, (), rfl, (Or.inr (Or.inr (Or.inr (Or.inr ⟨rfl, g_40, (hR.trans hEX).symm⟩)))), by rw [ht]; exact hP, va_K.moved hW.alike hK9, hD⟩, hS.F ht⟩) hS.2.2 dX12_spotOf_20
noncomputable def wf_c_X12_leastOf : List Cond := .code yX12_leastOf cX12_leastOf 2 (some .int) :: ([])
set_option maxHeartbeats 4000000 in
set_option maxRecDepth 100000 in
theorem c_X12_leastOf (l : Launch) (dC : Nat → ClassId) (dI : Nat → Nat → Nat) (sz : Nat) (p0 : Int32) (p1 : Int32) (g_p0 : RG p0 99 99) (g_p1 : RG p1 0 0) : Met l yX12_leastOf wf_c_X12_leastOf ({ frames := 0, cells := 0, slots := 0, locals := 0 }) (va_Pc [.int p0, .int p1] (fun U => U.heap.size = sz ∧ va_P (dC, dI) vwCl [] U.heap ∧ va_K (dC, dI) vwCl [] U ∧ va_D (fun _ => True) [])) (va_Qi (fun (r : Int32) (u : Unit) => (r = 0 ∧ r = fx_c_X12_leastOf p0 p1)) (fun (u : Unit) t => va_P (dC, dI) vwCl [] t.heap ∧ va_K (dC, dI) vwCl [] t ∧ va_D (va_A [] sz) []) (va_A [] sz)) 0 0 (va_A [] sz) := by
  refine Met.ofW (cc := cX12_leastOf) (maxL := 2) (ret := (some .int)) (by decide +kernel) rfl ?_
  intro p e s m args below meth c s₁ B hml hv
  obtain ⟨rfl, hsz, hP, hK, hD0⟩ := hv
  have hx := B.exec
  have hb := B.bytes
  have hr := B.returns
  have hts := atoms_spec (ws := wf_c_X12_leastOf) B.pre
  have hown : s.vm.findClass RX12 = some m.cls := findClass_of_methodNamed B.named
  have hlocks := B.notSynchronized
  subst hsz
  have hD := hD0.self (sz := s.heap.size)
  generalize hAe : va_A [] s.heap.size = A at hD ⊢
  have hA : ∀ q : Nat, s.heap.size ≤ q → A q := fun q h => by rw [← hAe]; exact Or.inr h
  have hP : va_P (dC, dI) vwCl [] s.heap := hP
  have hl := lv_entry ([.int p0, .int p1]) (n := 2) (Nat.le_of_ble_eq_true rfl)
  rw [lg_entry_eq]
  generalize (lg_sl ([.int p0, .int p1]) ++ List.replicate (2 - (lg_sl ([.int p0, .int p1])).length) Slot.unset).toArray = ls at hl ⊢
  have hl : lv_has ls 2 [(0, .int p0), (1, .int p1)] := hl
  obtain ⟨H, hHe⟩ : ∃ H : Heap, s.heap = H := ⟨_, rfl⟩
  have hS : va_S A s.heap H [] := by rw [hHe]; exact va_S.rf
  have hP : va_P (dC, dI) vwCl [] H := by rw [← hHe]; exact hP
  rw [hHe]
  obtain ⟨RES, hR⟩ : ∃ z, fx_c_X12_leastOf p0 p1 = z := ⟨_, rfl⟩
  have hEX : RES = fx_c_X12_leastOf p0 p1 := hR.symm
  refine wj (fun G hG hU => ?_)
  as_aux_lemma =>
  have J11 : ∀ (g_p0 : RG p0 99 99) (g_p1 : RG p1 0 0) (hEX : RES = fx_c_X12_leastOf_p11 p0 p1) (H : Heap) (locs : List Loc) (ls : Array Slot) (hP : va_P (dC, dI) vwCl [] H) (hD : va_D A []) (hS : va_S A s.heap H locs) (hl : lv_has ls 2 [(0, .int p0), (1, .int p1)]), G H locs (F0 m 11 ls []) := by
    as_aux_lemma =>
    intro g_p0 g_p1 hEX H locs ls hP hD hS hl
    refine hG _ _ _ ?_
    refine lv_iload_n hx hb dX12_leastOf_11 rfl (lv_at hl 0 rfl) ?_
    refine lv_bipush (v := 99) hx hb dX12_leastOf_12 kc_bipush_99 ?_
    refine lv_icmp_ne (tgt := 26) hx hb dX12_leastOf_14 rfl (fun c_1 => ?_) (fun c_1 => ?_)
    · replace hEX := hEX.trans (if_neg c_1)
      exact RG_dead (RG_ne1 g_p0 (q := 99) rfl c_1 (a' := 100) (b' := 99) (by decide +kernel)) (by decide +kernel)
    · replace hEX := hEX.trans (if_pos c_1)
      refine lv_iload_n hx hb dX12_leastOf_17 rfl (lv_at hl 1 rfl) ?_
      refine lv_iconst (v := 2) hx hb dX12_leastOf_18 kc_iconst_2 ?_
      refine lv_icmp_ne (tgt := 26) hx hb dX12_leastOf_19 rfl (fun c_2 => ?_) (fun c_2 => ?_)
      · replace hEX := hEX.trans (if_neg c_2)
        refine lv_iconst (v := 0) hx hb dX12_leastOf_26 kc_iconst_0 ?_
        have hK9 := hK.sub (tys' := []) [] rfl
        exact W.iret (v := 0) hx hb hr (fun t ht hW => ⟨⟨0, (), rfl, ⟨rfl, (hR.trans hEX).symm⟩, by rw [ht]; exact hP, va_K.moved hW.alike hK9, hD⟩, hS.F ht⟩) hS.2.2 dX12_leastOf_27
      · replace hEX := hEX.trans (if_pos c_2)
        exact RG_dead (RG_eq1 g_p1 (RG_k 2 2 rfl) c_2 (a' := 2) (b' := 0) (by decide +kernel)) (by decide +kernel)
  refine hG _ _ _ ?_
  as_aux_lemma =>
  refine lv_iload_n hx hb dX12_leastOf_0 rfl (lv_at hl 0 rfl) ?_
  refine lv_bipush (v := 115) hx hb dX12_leastOf_1 kc_bipush_115 ?_
  refine lv_icmp_ne (tgt := 11) hx hb dX12_leastOf_3 rfl (fun c_3 => ?_) (fun c_3 => ?_)
  · replace hEX := hEX.trans (if_neg c_3)
    exact hU _ _ _ (J11 g_p0 g_p1 hEX _ _ _ hP hD hS (lv_sub hl [0, 1] rfl))
  · replace hEX := hEX.trans (if_pos c_3)
    exact RG_dead (RG_eq1 g_p0 (RG_k 115 115 rfl) c_3 (a' := 115) (b' := 99) (by decide +kernel)) (by decide +kernel)
noncomputable def wf_c_X12_mostOf : List Cond := .code yX12_mostOf cX12_mostOf 2 (some .int) :: ([])
set_option maxHeartbeats 4000000 in
set_option maxRecDepth 100000 in
theorem c_X12_mostOf (l : Launch) (dC : Nat → ClassId) (dI : Nat → Nat → Nat) (sz : Nat) (p0 : Int32) (p1 : Int32) (g_p0 : RG p0 99 99) (g_p1 : RG p1 0 0) : Met l yX12_mostOf wf_c_X12_mostOf ({ frames := 0, cells := 0, slots := 0, locals := 0 }) (va_Pc [.int p0, .int p1] (fun U => U.heap.size = sz ∧ va_P (dC, dI) vwCl [] U.heap ∧ va_K (dC, dI) vwCl [] U ∧ va_D (fun _ => True) [])) (va_Qi (fun (r : Int32) (u : Unit) => (r = 9 ∧ r = fx_c_X12_mostOf p0 p1)) (fun (u : Unit) t => va_P (dC, dI) vwCl [] t.heap ∧ va_K (dC, dI) vwCl [] t ∧ va_D (va_A [] sz) []) (va_A [] sz)) 0 0 (va_A [] sz) := by
  refine Met.ofW (cc := cX12_mostOf) (maxL := 2) (ret := (some .int)) (by decide +kernel) rfl ?_
  intro p e s m args below meth c s₁ B hml hv
  obtain ⟨rfl, hsz, hP, hK, hD0⟩ := hv
  have hx := B.exec
  have hb := B.bytes
  have hr := B.returns
  have hts := atoms_spec (ws := wf_c_X12_mostOf) B.pre
  have hown : s.vm.findClass RX12 = some m.cls := findClass_of_methodNamed B.named
  have hlocks := B.notSynchronized
  subst hsz
  have hD := hD0.self (sz := s.heap.size)
  generalize hAe : va_A [] s.heap.size = A at hD ⊢
  have hA : ∀ q : Nat, s.heap.size ≤ q → A q := fun q h => by rw [← hAe]; exact Or.inr h
  have hP : va_P (dC, dI) vwCl [] s.heap := hP
  have hl := lv_entry ([.int p0, .int p1]) (n := 2) (Nat.le_of_ble_eq_true rfl)
  rw [lg_entry_eq]
  generalize (lg_sl ([.int p0, .int p1]) ++ List.replicate (2 - (lg_sl ([.int p0, .int p1])).length) Slot.unset).toArray = ls at hl ⊢
  have hl : lv_has ls 2 [(0, .int p0), (1, .int p1)] := hl
  obtain ⟨H, hHe⟩ : ∃ H : Heap, s.heap = H := ⟨_, rfl⟩
  have hS : va_S A s.heap H [] := by rw [hHe]; exact va_S.rf
  have hP : va_P (dC, dI) vwCl [] H := by rw [← hHe]; exact hP
  rw [hHe]
  obtain ⟨RES, hR⟩ : ∃ z, fx_c_X12_mostOf p0 p1 = z := ⟨_, rfl⟩
  have hEX : RES = fx_c_X12_mostOf p0 p1 := hR.symm
  refine lv_iload_n hx hb dX12_mostOf_0 rfl (lv_at hl 0 rfl) ?_
  as_aux_lemma =>
  refine lv_bipush (v := 115) hx hb dX12_mostOf_1 kc_bipush_115 ?_
  refine lv_icmp_ne (tgt := 37) hx hb dX12_mostOf_3 rfl (fun c_1 => ?_) (fun c_1 => ?_)
  · replace hEX := hEX.trans (if_neg c_1)
    refine lv_iload_n hx hb dX12_mostOf_37 rfl (lv_at hl 0 rfl) ?_
    refine lv_bipush (v := 99) hx hb dX12_mostOf_38 kc_bipush_99 ?_
    refine lv_icmp_ne (tgt := 55) hx hb dX12_mostOf_40 rfl (fun c_2 => ?_) (fun c_2 => ?_)
    · replace hEX := hEX.trans (if_neg c_2)
      exact RG_dead (RG_ne1 g_p0 (q := 99) rfl c_2 (a' := 100) (b' := 99) (by decide +kernel)) (by decide +kernel)
    · replace hEX := hEX.trans (if_pos c_2)
      refine lv_iload_n hx hb dX12_mostOf_43 rfl (lv_at hl 1 rfl) ?_
      refine lv_iconst (v := 2) hx hb dX12_mostOf_44 kc_iconst_2 ?_
      refine lv_icmp_ne (tgt := 52) hx hb dX12_mostOf_45 rfl (fun c_3 => ?_) (fun c_3 => ?_)
      · replace hEX := hEX.trans (if_neg c_3)
        refine lv_bipush (v := 9) hx hb dX12_mostOf_52 kc_bipush_9 ?_
        as_aux_lemma =>
        have hK9 := hK.sub (tys' := []) [] rfl
        exact W.iret (v := 9) hx hb hr (fun t ht hW => ⟨⟨9, (), rfl, ⟨rfl, (hR.trans hEX).symm⟩, by rw [ht]; exact hP, va_K.moved hW.alike hK9, hD⟩, hS.F ht⟩) hS.2.2 dX12_mostOf_54
      · replace hEX := hEX.trans (if_pos c_3)
        exact RG_dead (RG_eq1 g_p1 (RG_k 2 2 rfl) c_3 (a' := 2) (b' := 0) (by decide +kernel)) (by decide +kernel)
  · replace hEX := hEX.trans (if_pos c_1)
    exact RG_dead (RG_eq1 g_p0 (RG_k 115 115 rfl) c_1 (a' := 115) (b' := 99) (by decide +kernel)) (by decide +kernel)
noncomputable def wd_c_X12_isDigit (a0 : Nat) (a1 : Int32) (a2 : Nat) (a3 : Nat) (a4 : Nat) (a5 : Nat) (a6 : Nat) (a7 : Int32) (a8 : Int32) (a9 : Int32) (a10 : Int32) (a11 : Int32) (a12 : Int32) (a13 : Int32) (a14 : Int32) (a15 : Int32) (a16 : Nat) (a17 : Nat) (a18 : Int32) (a19 : Nat) (a20 : Nat) (a21 : Nat) (a22 : Nat) (a23 : Nat) (a24 : Nat) (a25 : Nat) (a26 : Nat) (a27 : Int32) (a28 : Int32) (a29 : Int32) (a30 : Int32) (a31 : Int32) (a32 : Int32) (a33 : Nat) (a34 : Nat) (a35 : Int32) (a36 : Nat) (a37 : Nat) (a38 : Nat) (a39 : Nat) (a40 : Nat) (a41 : Nat) (a42 : Int32) (a43 : Int64) (a44 : Int32) (a45 : Int32) (a46 : Nat) (a47 : Nat) (a48 : Nat) (a49 : Nat) (a50 : Nat) (a51 : Nat) (a52 : Int32) (a53 : Nat) (a54 : Int32) (a55 : Nat) (a56 : ClassId) (a57 : Nat) (a58 : Nat → Int32) : va_W := [(a0, .inr (12, [.int a1, .ref a2, .ref a3, .ref a4, .ref a5, .ref a6, .int a7, .int a8, .int a9, .int a10, .int a11, .int a12, .int a13, .int a14, .int a15, .ref a16, .ref a17, .int a18, .ref a19, .ref a20, .ref a21, .ref a22, .ref a23, .ref a24, .ref a25, .ref a26, .int a27, .int a28, .int a29, .int a30, .int a31, .int a32, .ref a33, .ref a34, .int a35, .ref a36, .ref a37, .ref a38, .ref a39, .ref a40, .ref a41, .int a42, .long a43, .int a44, .int a45, .ref a46, .ref a47, .ref a48, .ref a49, .ref a50, .ref a51, .int a52, .ref a53, .int a54])), (a55, .inl (a56, a57, .inl a58))]
noncomputable def wf_c_X12_isDigit : List Cond := List.cons (.code yX12_isDigit cX12_isDigit 1 (some .boolean)) (@HAppend.hAppend (List Cond) (List Cond) (List Cond) _ [.fieldLink RX12 134 "BuoyVoteModel" "at" "I", .fieldLink RX12 137 "BuoyVoteModel" "ends" "I", .fieldLink RX12 23 "BuoyVoteModel" "text" "[B", .fieldLink RX12 140 "BuoyVoteModel" "begins" "I"] wsX120)
theorem iw_c_X12_isDigit_X12 : ∀ w ∈ wsX120, w ∈ wf_c_X12_isDigit := fun w h => List.mem_cons_of_mem _ (List.mem_append_right _ h)
set_option maxHeartbeats 4000000 in
set_option maxRecDepth 100000 in
theorem c_X12_isDigit (l : Launch) (dC : Nat → ClassId) (dI : Nat → Nat → Nat) (sz : Nat) (h0 : Nat) (h0_f0 : Int32) (h0_1 : Nat) (h0_2 : Nat) (h0_3 : Nat) (h0_4 : Nat) (h0_5 : Nat) (h0_f6 : Int32) (h0_f7 : Int32) (h0_f8 : Int32) (h0_f9 : Int32) (h0_f10 : Int32) (h0_f12 : Int32) (h0_f13 : Int32) (h0_f14 : Int32) (h0_15 : Nat) (h0_16 : Nat) (h0_f17 : Int32) (h0_18 : Nat) (h0_19 : Nat) (h0_20 : Nat) (h0_21 : Nat) (h0_22 : Nat) (h0_23 : Nat) (h0_24 : Nat) (h0_25 : Nat) (h0_f26 : Int32) (h0_f27 : Int32) (h0_f28 : Int32) (h0_f29 : Int32) (h0_f30 : Int32) (h0_f31 : Int32) (h0_32 : Nat) (h0_33 : Nat) (h0_f34 : Int32) (h0_35 : Nat) (h0_36 : Nat) (h0_37 : Nat) (h0_38 : Nat) (h0_39 : Nat) (h0_40 : Nat) (h0_f41 : Int32) (h0_f42 : Int64) (h0_f43 : Int32) (h0_f44 : Int32) (h0_45 : Nat) (h0_46 : Nat) (h0_47 : Nat) (h0_48 : Nat) (h0_49 : Nat) (h0_50 : Nat) (h0_f51 : Int32) (h0_52 : Nat) (h0_f53 : Int32) (h0_5k : ClassId) (h0_5c : Nat → Int32) (tN : Nat) (g_h0_f6 : RG h0_f6 0 240) (g_h0_f7 : RG h0_f7 0 4) (g_h0_f8 : RG h0_f8 0 720) (g_h0_f9 : RG h0_f9 0 240) (g_h0_f10 : RG h0_f10 0 240) (g_h0_f17 : RG h0_f17 0 1) (g_h0_f26 : RG h0_f26 0 8) (g_h0_f27 : RG h0_f27 0 3) (g_h0_f28 : RG h0_f28 0 8) (g_h0_f29 : RG h0_f29 0 3) (g_h0_f30 : RG h0_f30 0 4) (g_h0_f31 : RG h0_f31 0 1) (g_h0_f34 : RG h0_f34 (-1) 3) (g_h0_f41 : RG h0_f41 0 40) (g_h0_f51 : RG h0_f51 0 10) (g_h0_f53 : RG h0_f53 0 1) (htN : h0_f8.toInt + 240 ≤ (tN : Int)) : Met l yX12_isDigit wf_c_X12_isDigit ({ frames := 0, cells := 0, slots := 0, locals := 0 }) (va_Pc [.ref h0] (fun U => U.heap.size = sz ∧ va_P (dC, dI) vwCl (wd_c_X12_isDigit h0 h0_f0 h0_1 h0_2 h0_3 h0_4 h0_5 h0_f6 h0_f7 h0_f8 h0_f9 h0_f10 (-1) h0_f12 h0_f13 h0_f14 h0_15 h0_16 h0_f17 h0_18 h0_19 h0_20 h0_21 h0_22 h0_23 h0_24 h0_25 h0_f26 h0_f27 h0_f28 h0_f29 h0_f30 h0_f31 h0_32 h0_33 h0_f34 h0_35 h0_36 h0_37 h0_38 h0_39 h0_40 h0_f41 h0_f42 h0_f43 h0_f44 h0_45 h0_46 h0_47 h0_48 h0_49 h0_50 h0_f51 h0_52 h0_f53 h0_5 h0_5k tN h0_5c) U.heap ∧ va_K (dC, dI) vwCl [(h0_5k, .byte)] U ∧ va_D (fun _ => True) (wd_c_X12_isDigit h0 h0_f0 h0_1 h0_2 h0_3 h0_4 h0_5 h0_f6 h0_f7 h0_f8 h0_f9 h0_f10 (-1) h0_f12 h0_f13 h0_f14 h0_15 h0_16 h0_f17 h0_18 h0_19 h0_20 h0_21 h0_22 h0_23 h0_24 h0_25 h0_f26 h0_f27 h0_f28 h0_f29 h0_f30 h0_f31 h0_32 h0_33 h0_f34 h0_35 h0_36 h0_37 h0_38 h0_39 h0_40 h0_f41 h0_f42 h0_f43 h0_f44 h0_45 h0_46 h0_47 h0_48 h0_49 h0_50 h0_f51 h0_52 h0_f53 h0_5 h0_5k tN h0_5c))) (va_Qi (fun (r : Int32) (u : Unit) => (r = 0 ∧ (r = 1 → RG (h0_5c (h0_f8 + h0_f10).toNatClampNeg) 48 57) ∧ r = fx_c_X12_isDigit h0_f8 h0_f9 h0_f10 h0_5c) ∨ (r = 1 ∧ RG h0_f10 0 239 ∧ RG h0_f9 1 240 ∧ h0_f10.toInt ≤ h0_f9.toInt + (-1) ∧ (r = 1 → RG (h0_5c (h0_f8 + h0_f10).toNatClampNeg) 48 57) ∧ r = fx_c_X12_isDigit h0_f8 h0_f9 h0_f10 h0_5c)) (fun (u : Unit) t => va_P (dC, dI) vwCl (wd_c_X12_isDigit h0 h0_f0 h0_1 h0_2 h0_3 h0_4 h0_5 h0_f6 h0_f7 h0_f8 h0_f9 h0_f10 (-1) h0_f12 h0_f13 h0_f14 h0_15 h0_16 h0_f17 h0_18 h0_19 h0_20 h0_21 h0_22 h0_23 h0_24 h0_25 h0_f26 h0_f27 h0_f28 h0_f29 h0_f30 h0_f31 h0_32 h0_33 h0_f34 h0_35 h0_36 h0_37 h0_38 h0_39 h0_40 h0_f41 h0_f42 h0_f43 h0_f44 h0_45 h0_46 h0_47 h0_48 h0_49 h0_50 h0_f51 h0_52 h0_f53 h0_5 h0_5k tN h0_5c) t.heap ∧ va_K (dC, dI) vwCl [] t ∧ va_D (va_A (wd_c_X12_isDigit h0 h0_f0 h0_1 h0_2 h0_3 h0_4 h0_5 h0_f6 h0_f7 h0_f8 h0_f9 h0_f10 (-1) h0_f12 h0_f13 h0_f14 h0_15 h0_16 h0_f17 h0_18 h0_19 h0_20 h0_21 h0_22 h0_23 h0_24 h0_25 h0_f26 h0_f27 h0_f28 h0_f29 h0_f30 h0_f31 h0_32 h0_33 h0_f34 h0_35 h0_36 h0_37 h0_38 h0_39 h0_40 h0_f41 h0_f42 h0_f43 h0_f44 h0_45 h0_46 h0_47 h0_48 h0_49 h0_50 h0_f51 h0_52 h0_f53 h0_5 h0_5k tN h0_5c) sz) (wd_c_X12_isDigit h0 h0_f0 h0_1 h0_2 h0_3 h0_4 h0_5 h0_f6 h0_f7 h0_f8 h0_f9 h0_f10 (-1) h0_f12 h0_f13 h0_f14 h0_15 h0_16 h0_f17 h0_18 h0_19 h0_20 h0_21 h0_22 h0_23 h0_24 h0_25 h0_f26 h0_f27 h0_f28 h0_f29 h0_f30 h0_f31 h0_32 h0_33 h0_f34 h0_35 h0_36 h0_37 h0_38 h0_39 h0_40 h0_f41 h0_f42 h0_f43 h0_f44 h0_45 h0_46 h0_47 h0_48 h0_49 h0_50 h0_f51 h0_52 h0_f53 h0_5 h0_5k tN h0_5c)) (va_A (wd_c_X12_isDigit h0 h0_f0 h0_1 h0_2 h0_3 h0_4 h0_5 h0_f6 h0_f7 h0_f8 h0_f9 h0_f10 (-1) h0_f12 h0_f13 h0_f14 h0_15 h0_16 h0_f17 h0_18 h0_19 h0_20 h0_21 h0_22 h0_23 h0_24 h0_25 h0_f26 h0_f27 h0_f28 h0_f29 h0_f30 h0_f31 h0_32 h0_33 h0_f34 h0_35 h0_36 h0_37 h0_38 h0_39 h0_40 h0_f41 h0_f42 h0_f43 h0_f44 h0_45 h0_46 h0_47 h0_48 h0_49 h0_50 h0_f51 h0_52 h0_f53 h0_5 h0_5k tN h0_5c) sz)) 0 0 (va_A (wd_c_X12_isDigit h0 h0_f0 h0_1 h0_2 h0_3 h0_4 h0_5 h0_f6 h0_f7 h0_f8 h0_f9 h0_f10 (-1) h0_f12 h0_f13 h0_f14 h0_15 h0_16 h0_f17 h0_18 h0_19 h0_20 h0_21 h0_22 h0_23 h0_24 h0_25 h0_f26 h0_f27 h0_f28 h0_f29 h0_f30 h0_f31 h0_32 h0_33 h0_f34 h0_35 h0_36 h0_37 h0_38 h0_39 h0_40 h0_f41 h0_f42 h0_f43 h0_f44 h0_45 h0_46 h0_47 h0_48 h0_49 h0_50 h0_f51 h0_52 h0_f53 h0_5 h0_5k tN h0_5c) sz) := by
  refine Met.ofW (cc := cX12_isDigit) (maxL := 1) (ret := (some .boolean)) (by decide +kernel) rfl ?_
  intro p e s m args below meth c s₁ B hml hv
  obtain ⟨rfl, hsz, hP, hK, hD0⟩ := hv
  have hx := B.exec
  have hb := B.bytes
  have hr := B.returns
  have hts := atoms_spec (ws := wf_c_X12_isDigit) B.pre
  have hown : s.vm.findClass RX12 = some m.cls := findClass_of_methodNamed B.named
  have hlocks := B.notSynchronized
  subst hsz
  have hD := hD0.self (sz := s.heap.size)
  generalize hAe : va_A (wd_c_X12_isDigit h0 h0_f0 h0_1 h0_2 h0_3 h0_4 h0_5 h0_f6 h0_f7 h0_f8 h0_f9 h0_f10 (-1) h0_f12 h0_f13 h0_f14 h0_15 h0_16 h0_f17 h0_18 h0_19 h0_20 h0_21 h0_22 h0_23 h0_24 h0_25 h0_f26 h0_f27 h0_f28 h0_f29 h0_f30 h0_f31 h0_32 h0_33 h0_f34 h0_35 h0_36 h0_37 h0_38 h0_39 h0_40 h0_f41 h0_f42 h0_f43 h0_f44 h0_45 h0_46 h0_47 h0_48 h0_49 h0_50 h0_f51 h0_52 h0_f53 h0_5 h0_5k tN h0_5c) s.heap.size = A at hD ⊢
  have hA : ∀ q : Nat, s.heap.size ≤ q → A q := fun q h => by rw [← hAe]; exact Or.inr h
  have hP : va_P (dC, dI) vwCl (wd_c_X12_isDigit h0 h0_f0 h0_1 h0_2 h0_3 h0_4 h0_5 h0_f6 h0_f7 h0_f8 h0_f9 h0_f10 (-1) h0_f12 h0_f13 h0_f14 h0_15 h0_16 h0_f17 h0_18 h0_19 h0_20 h0_21 h0_22 h0_23 h0_24 h0_25 h0_f26 h0_f27 h0_f28 h0_f29 h0_f30 h0_f31 h0_32 h0_33 h0_f34 h0_35 h0_36 h0_37 h0_38 h0_39 h0_40 h0_f41 h0_f42 h0_f43 h0_f44 h0_45 h0_46 h0_47 h0_48 h0_49 h0_50 h0_f51 h0_52 h0_f53 h0_5 h0_5k tN h0_5c) s.heap := hP
  have hl := lv_entry ([.ref h0]) (n := 1) (Nat.le_of_ble_eq_true rfl)
  rw [lg_entry_eq]
  generalize (lg_sl ([.ref h0]) ++ List.replicate (1 - (lg_sl ([.ref h0])).length) Slot.unset).toArray = ls at hl ⊢
  have hl : lv_has ls 1 [(0, .ref h0)] := hl
  obtain ⟨H, hHe⟩ : ∃ H : Heap, s.heap = H := ⟨_, rfl⟩
  have hS : va_S A s.heap H [] := by rw [hHe]; exact va_S.rf
  have hP : va_P (dC, dI) vwCl (wd_c_X12_isDigit h0 h0_f0 h0_1 h0_2 h0_3 h0_4 h0_5 h0_f6 h0_f7 h0_f8 h0_f9 h0_f10 (-1) h0_f12 h0_f13 h0_f14 h0_15 h0_16 h0_f17 h0_18 h0_19 h0_20 h0_21 h0_22 h0_23 h0_24 h0_25 h0_f26 h0_f27 h0_f28 h0_f29 h0_f30 h0_f31 h0_32 h0_33 h0_f34 h0_35 h0_36 h0_37 h0_38 h0_39 h0_40 h0_f41 h0_f42 h0_f43 h0_f44 h0_45 h0_46 h0_47 h0_48 h0_49 h0_50 h0_f51 h0_52 h0_f53 h0_5 h0_5k tN h0_5c) H := by rw [← hHe]; exact hP
  rw [hHe]
  obtain ⟨RES, hR⟩ : ∃ z, fx_c_X12_isDigit h0_f8 h0_f9 h0_f10 h0_5c = z := ⟨_, rfl⟩
  have hEX : RES = fx_c_X12_isDigit h0_f8 h0_f9 h0_f10 h0_5c := hR.symm
  refine lv_aload_n hx hb dX12_isDigit_0 rfl (lv_at hl 0 rfl) ?_
  as_aux_lemma =>
  refine va_get (D := (dC, dI)) (ci := 12) (v := .int h0_f10) (C := RX12) (T := TX12) (N := 54) hx hb hts iw_c_X12_isDigit_X12 hown hK hP 0 rfl rfl 10 (by decide +kernel) (hts (.fieldLink RX12 134 "BuoyVoteModel" "at" "I") (List.mem_of_getElem? (i := 1) rfl)) (fun _ h9 => h9) rfl dX12_isDigit_1 ?_
  refine lv_aload_n hx hb dX12_isDigit_4 rfl (lv_at hl 0 rfl) ?_
  refine va_get (D := (dC, dI)) (ci := 12) (v := .int h0_f9) (C := RX12) (T := TX12) (N := 54) hx hb hts iw_c_X12_isDigit_X12 hown hK hP 0 rfl rfl 9 (by decide +kernel) (hts (.fieldLink RX12 137 "BuoyVoteModel" "ends" "I") (List.mem_of_getElem? (i := 2) rfl)) (fun _ h9 => h9) rfl dX12_isDigit_5 ?_
  refine lv_icmp_ge (tgt := 53) hx hb dX12_isDigit_8 rfl (fun c_1 => ?_) (fun c_1 => ?_)
  · replace hEX := hEX.trans (if_pos c_1)
    have b_2 : h0_f9.toInt ≤ h0_f10.toInt + 0 := by have := Int32.le_iff_toInt_le.mp c_1; omega
    refine lv_iconst (v := 0) hx hb dX12_isDigit_53 kc_iconst_0 ?_
    have hK9 := hK.sub (tys' := []) [] rfl
    exact W.zret (v := 0) hx hb hr rfl (fun t ht hW => ⟨⟨0, (), rfl, (Or.inl ⟨rfl, (fun h => absurd h (by decide +kernel)), (hR.trans hEX).symm⟩), by rw [ht]; exact hP, va_K.moved hW.alike hK9, hD⟩, hS.F ht⟩) hS.2.2 dX12_isDigit_54
  · replace hEX := hEX.trans (if_neg c_1)
    have d_3 := Int32.not_le.mp c_1
    have b_4 : h0_f10.toInt ≤ h0_f9.toInt + (-1) := by have := Int32.lt_iff_toInt_lt.mp d_3; omega
    have g_5 : RG h0_f10 0 239 := RG_lt1 g_h0_f10 g_h0_f9 d_3 (by decide +kernel)
    have g_6 : RG h0_f9 1 240 := RG_lt2 g_h0_f10 g_h0_f9 d_3 (by decide +kernel)
    refine lv_aload_n hx hb dX12_isDigit_11 rfl (lv_at hl 0 rfl) ?_
    as_aux_lemma =>
    refine va_get (D := (dC, dI)) (ci := 12) (v := .ref h0_5) (C := RX12) (T := TX12) (N := 54) hx hb hts iw_c_X12_isDigit_X12 hown hK hP 0 rfl rfl 5 (by decide +kernel) (hts (.fieldLink RX12 23 "BuoyVoteModel" "text" "[B") (List.mem_of_getElem? (i := 3) rfl)) (fun _ h9 => h9) rfl dX12_isDigit_12 ?_
    refine lv_aload_n hx hb dX12_isDigit_15 rfl (lv_at hl 0 rfl) ?_
    refine va_get (D := (dC, dI)) (ci := 12) (v := .int h0_f8) (C := RX12) (T := TX12) (N := 54) hx hb hts iw_c_X12_isDigit_X12 hown hK hP 0 rfl rfl 8 (by decide +kernel) (hts (.fieldLink RX12 140 "BuoyVoteModel" "begins" "I") (List.mem_of_getElem? (i := 4) rfl)) (fun _ h9 => h9) rfl dX12_isDigit_16 ?_
    refine lv_aload_n hx hb dX12_isDigit_19 rfl (lv_at hl 0 rfl) ?_
    refine va_get (D := (dC, dI)) (ci := 12) (v := .int h0_f10) (C := RX12) (T := TX12) (N := 54) hx hb hts iw_c_X12_isDigit_X12 hown hK hP 0 rfl rfl 10 (by decide +kernel) (hts (.fieldLink RX12 134 "BuoyVoteModel" "at" "I") (List.mem_of_getElem? (i := 1) rfl)) (fun _ h9 => h9) rfl dX12_isDigit_20 ?_
    refine lv_iadd hx hb dX12_isDigit_23 ?_
    refine lv_topi (fun x_7 ex_7 => ?_)
    replace hEX := hEX.trans (exl_eq ex_7)
    have g_8 : RG x_7 0 959 := RG_add ex_7 g_h0_f8 g_5 (by decide +kernel)
    refine va_bald hx hb hK hP 1 0 rfl rfl (vp_in_iff.mpr ⟨by have := (g_8).1; omega, by have := eq_add2 ex_7 g_h0_f8 g_5 (by decide +kernel); have := htN; have := (g_5).2; omega⟩) dX12_isDigit_24 ?_
    refine lv_topi (fun x_9 ex_9 => ?_)
    replace hEX := hEX.trans (exl_eq ex_9)
    refine lv_bipush (v := 48) hx hb dX12_isDigit_25 kc_bipush_48 ?_
    refine lv_icmp_lt (tgt := 53) hx hb dX12_isDigit_27 rfl (fun c_10 => ?_) (fun c_10 => ?_)
    · replace hEX := hEX.trans (if_pos c_10)
      have g_11 : RG x_9 (-2147483648) 47 := RG_lt1 (RG_any x_9) (RG_k 48 48 rfl) c_10 (by decide +kernel)
      refine lv_iconst (v := 0) hx hb dX12_isDigit_53 kc_iconst_0 ?_
      as_aux_lemma =>
      have hK9 := hK.sub (tys' := []) [] rfl
      exact W.zret (v := 0) hx hb hr rfl (fun t ht hW => ⟨⟨0, (), rfl, (Or.inl ⟨rfl, (fun h => absurd h (by decide +kernel)), (hR.trans hEX).symm⟩), by rw [ht]; exact hP, va_K.moved hW.alike hK9, hD⟩, hS.F ht⟩) hS.2.2 dX12_isDigit_54
    · replace hEX := hEX.trans (if_neg c_10)
      have d_12 := Int32.not_lt.mp c_10
      have g_13 : RG x_9 48 2147483647 := RG_le2 (RG_k 48 48 rfl) (RG_any x_9) d_12 (by decide +kernel)
      refine lv_aload_n hx hb dX12_isDigit_30 rfl (lv_at hl 0 rfl) ?_
      refine va_get (D := (dC, dI)) (ci := 12) (v := .ref h0_5) (C := RX12) (T := TX12) (N := 54) hx hb hts iw_c_X12_isDigit_X12 hown hK hP 0 rfl rfl 5 (by decide +kernel) (hts (.fieldLink RX12 23 "BuoyVoteModel" "text" "[B") (List.mem_of_getElem? (i := 3) rfl)) (fun _ h9 => h9) rfl dX12_isDigit_31 ?_
      refine lv_aload_n hx hb dX12_isDigit_34 rfl (lv_at hl 0 rfl) ?_
      refine va_get (D := (dC, dI)) (ci := 12) (v := .int h0_f8) (C := RX12) (T := TX12) (N := 54) hx hb hts iw_c_X12_isDigit_X12 hown hK hP 0 rfl rfl 8 (by decide +kernel) (hts (.fieldLink RX12 140 "BuoyVoteModel" "begins" "I") (List.mem_of_getElem? (i := 4) rfl)) (fun _ h9 => h9) rfl dX12_isDigit_35 ?_
      refine lv_aload_n hx hb dX12_isDigit_38 rfl (lv_at hl 0 rfl) ?_
      refine va_get (D := (dC, dI)) (ci := 12) (v := .int h0_f10) (C := RX12) (T := TX12) (N := 54) hx hb hts iw_c_X12_isDigit_X12 hown hK hP 0 rfl rfl 10 (by decide +kernel) (hts (.fieldLink RX12 134 "BuoyVoteModel" "at" "I") (List.mem_of_getElem? (i := 1) rfl)) (fun _ h9 => h9) rfl dX12_isDigit_39 ?_
      refine lv_iadd hx hb dX12_isDigit_42 ?_
      refine lv_topi (fun x_14 ex_14 => ?_)
      obtain rfl : x_7 = x_14 := ex_7.trans ex_14.symm
      refine va_bald hx hb hK hP 1 0 rfl rfl (vp_in_iff.mpr ⟨by have := (g_8).1; omega, by have := eq_add2 ex_7 g_h0_f8 g_5 (by decide +kernel); have := htN; have := (g_5).2; omega⟩) dX12_isDigit_43 ?_
      as_aux_lemma =>
      refine lv_topi (fun x_15 ex_15 => ?_)
      obtain rfl : x_9 = x_15 := (ex_15.trans ex_9.symm).symm
      refine lv_bipush (v := 57) hx hb dX12_isDigit_44 kc_bipush_57 ?_
      refine lv_icmp_gt (tgt := 53) hx hb dX12_isDigit_46 rfl (fun c_16 => ?_) (fun c_16 => ?_)
      · replace hEX := hEX.trans (if_pos c_16)
        have g_17 : RG x_9 58 2147483647 := RG_lt2 (RG_k 57 57 rfl) g_13 c_16 (by decide +kernel)
        refine lv_iconst (v := 0) hx hb dX12_isDigit_53 kc_iconst_0 ?_
        have hK9 := hK.sub (tys' := []) [] rfl
        exact W.zret (v := 0) hx hb hr rfl (fun t ht hW => ⟨⟨0, (), rfl, (Or.inl ⟨rfl, (fun h => absurd h (by decide +kernel)), (hR.trans hEX).symm⟩), by rw [ht]; exact hP, va_K.moved hW.alike hK9, hD⟩, hS.F ht⟩) hS.2.2 dX12_isDigit_54
      · replace hEX := hEX.trans (if_neg c_16)
        have d_18 := Int32.not_lt.mp c_16
        have g_19 : RG x_9 48 57 := RG_le1 g_13 (RG_k 57 57 rfl) d_18 (by decide +kernel)
        refine lv_iconst (v := 1) hx hb dX12_isDigit_49 kc_iconst_1 ?_
        refine lv_goto (tgt := 54) hx hb dX12_isDigit_50 rfl ?_
        as_aux_lemma =>
        have hK9 := hK.sub (tys' := []) [] rfl
        exact W.zret (v := 1) hx hb hr rfl (fun t ht hW => ⟨⟨1, (), rfl, (Or.inr ⟨rfl, g_5, g_6, (by have := b_4; have := (g_5).2; have := (g_6).1; show h0_f10.toInt ≤ h0_f9.toInt + (-1); omega), (fun _ => (by rw [← ex_7, ← ex_9]; exact g_19)), (hR.trans hEX).symm⟩), by rw [ht]; exact hP, va_K.moved hW.alike hK9, hD⟩, hS.F ht⟩) hS.2.2 dX12_isDigit_54
noncomputable def wd_c_X12_fails (a0 : Nat) (a1 : Int32) (a2 : Nat) (a3 : Nat) (a4 : Nat) (a5 : Nat) (a6 : Nat) (a7 : Int32) (a8 : Int32) (a9 : Int32) (a10 : Int32) (a11 : Int32) (a12 : Int32) (a13 : Int32) (a14 : Int32) (a15 : Int32) (a16 : Nat) (a17 : Nat) (a18 : Int32) (a19 : Nat) (a20 : Nat) (a21 : Nat) (a22 : Nat) (a23 : Nat) (a24 : Nat) (a25 : Nat) (a26 : Nat) (a27 : Int32) (a28 : Int32) (a29 : Int32) (a30 : Int32) (a31 : Int32) (a32 : Int32) (a33 : Nat) (a34 : Nat) (a35 : Int32) (a36 : Nat) (a37 : Nat) (a38 : Nat) (a39 : Nat) (a40 : Nat) (a41 : Nat) (a42 : Int32) (a43 : Int64) (a44 : Int32) (a45 : Int32) (a46 : Nat) (a47 : Nat) (a48 : Nat) (a49 : Nat) (a50 : Nat) (a51 : Nat) (a52 : Int32) (a53 : Nat) (a54 : Int32) : va_W := [(a0, .inr (12, [.int a1, .ref a2, .ref a3, .ref a4, .ref a5, .ref a6, .int a7, .int a8, .int a9, .int a10, .int a11, .int a12, .int a13, .int a14, .int a15, .ref a16, .ref a17, .int a18, .ref a19, .ref a20, .ref a21, .ref a22, .ref a23, .ref a24, .ref a25, .ref a26, .int a27, .int a28, .int a29, .int a30, .int a31, .int a32, .ref a33, .ref a34, .int a35, .ref a36, .ref a37, .ref a38, .ref a39, .ref a40, .ref a41, .int a42, .long a43, .int a44, .int a45, .ref a46, .ref a47, .ref a48, .ref a49, .ref a50, .ref a51, .int a52, .ref a53, .int a54]))]
noncomputable def wf_c_X12_fails : List Cond := List.cons (.code yX12_fails cX12_fails 1 (some .boolean)) (@HAppend.hAppend (List Cond) (List Cond) (List Cond) _ [.fieldLink RX12 143 "BuoyVoteModel" "fault" "I", .fieldLink RX12 134 "BuoyVoteModel" "at" "I"] wsX120)
theorem iw_c_X12_fails_X12 : ∀ w ∈ wsX120, w ∈ wf_c_X12_fails := fun w h => List.mem_cons_of_mem _ (List.mem_append_right _ h)
set_option maxHeartbeats 4000000 in
set_option maxRecDepth 100000 in
theorem c_X12_fails (l : Launch) (dC : Nat → ClassId) (dI : Nat → Nat → Nat) (sz : Nat) (h0 : Nat) (h0_f0 : Int32) (h0_1 : Nat) (h0_2 : Nat) (h0_3 : Nat) (h0_4 : Nat) (h0_5 : Nat) (h0_f6 : Int32) (h0_f7 : Int32) (h0_f8 : Int32) (h0_f9 : Int32) (h0_f10 : Int32) (h0_f12 : Int32) (h0_f13 : Int32) (h0_f14 : Int32) (h0_15 : Nat) (h0_16 : Nat) (h0_f17 : Int32) (h0_18 : Nat) (h0_19 : Nat) (h0_20 : Nat) (h0_21 : Nat) (h0_22 : Nat) (h0_23 : Nat) (h0_24 : Nat) (h0_25 : Nat) (h0_f26 : Int32) (h0_f27 : Int32) (h0_f28 : Int32) (h0_f29 : Int32) (h0_f30 : Int32) (h0_f31 : Int32) (h0_32 : Nat) (h0_33 : Nat) (h0_f34 : Int32) (h0_35 : Nat) (h0_36 : Nat) (h0_37 : Nat) (h0_38 : Nat) (h0_39 : Nat) (h0_40 : Nat) (h0_f41 : Int32) (h0_f42 : Int64) (h0_f43 : Int32) (h0_f44 : Int32) (h0_45 : Nat) (h0_46 : Nat) (h0_47 : Nat) (h0_48 : Nat) (h0_49 : Nat) (h0_50 : Nat) (h0_f51 : Int32) (h0_52 : Nat) (h0_f53 : Int32) (g_h0_f6 : RG h0_f6 0 240) (g_h0_f7 : RG h0_f7 0 4) (g_h0_f8 : RG h0_f8 0 720) (g_h0_f9 : RG h0_f9 0 240) (g_h0_f10 : RG h0_f10 0 240) (g_h0_f17 : RG h0_f17 0 1) (g_h0_f26 : RG h0_f26 0 8) (g_h0_f27 : RG h0_f27 0 3) (g_h0_f28 : RG h0_f28 0 8) (g_h0_f29 : RG h0_f29 0 3) (g_h0_f30 : RG h0_f30 0 4) (g_h0_f31 : RG h0_f31 0 1) (g_h0_f34 : RG h0_f34 (-1) 3) (g_h0_f41 : RG h0_f41 0 40) (g_h0_f51 : RG h0_f51 0 10) (g_h0_f53 : RG h0_f53 0 1) : Met l yX12_fails wf_c_X12_fails ({ frames := 0, cells := 0, slots := 0, locals := 0 }) (va_Pc [.ref h0] (fun U => U.heap.size = sz ∧ va_P (dC, dI) vwCl (wd_c_X12_fails h0 h0_f0 h0_1 h0_2 h0_3 h0_4 h0_5 h0_f6 h0_f7 h0_f8 h0_f9 h0_f10 (-1) h0_f12 h0_f13 h0_f14 h0_15 h0_16 h0_f17 h0_18 h0_19 h0_20 h0_21 h0_22 h0_23 h0_24 h0_25 h0_f26 h0_f27 h0_f28 h0_f29 h0_f30 h0_f31 h0_32 h0_33 h0_f34 h0_35 h0_36 h0_37 h0_38 h0_39 h0_40 h0_f41 h0_f42 h0_f43 h0_f44 h0_45 h0_46 h0_47 h0_48 h0_49 h0_50 h0_f51 h0_52 h0_f53) U.heap ∧ va_K (dC, dI) vwCl [] U ∧ va_D (fun _ => True) (wd_c_X12_fails h0 h0_f0 h0_1 h0_2 h0_3 h0_4 h0_5 h0_f6 h0_f7 h0_f8 h0_f9 h0_f10 (-1) h0_f12 h0_f13 h0_f14 h0_15 h0_16 h0_f17 h0_18 h0_19 h0_20 h0_21 h0_22 h0_23 h0_24 h0_25 h0_f26 h0_f27 h0_f28 h0_f29 h0_f30 h0_f31 h0_32 h0_33 h0_f34 h0_35 h0_36 h0_37 h0_38 h0_39 h0_40 h0_f41 h0_f42 h0_f43 h0_f44 h0_45 h0_46 h0_47 h0_48 h0_49 h0_50 h0_f51 h0_52 h0_f53))) (va_Qi (fun (r : Int32) (u : Unit) => (r = 0 ∧ r = fx_c_X12_fails)) (fun (u : Unit) t => va_P (dC, dI) vwCl (wd_c_X12_fails h0 h0_f0 h0_1 h0_2 h0_3 h0_4 h0_5 h0_f6 h0_f7 h0_f8 h0_f9 h0_f10 h0_f10 h0_f12 h0_f13 h0_f14 h0_15 h0_16 h0_f17 h0_18 h0_19 h0_20 h0_21 h0_22 h0_23 h0_24 h0_25 h0_f26 h0_f27 h0_f28 h0_f29 h0_f30 h0_f31 h0_32 h0_33 h0_f34 h0_35 h0_36 h0_37 h0_38 h0_39 h0_40 h0_f41 h0_f42 h0_f43 h0_f44 h0_45 h0_46 h0_47 h0_48 h0_49 h0_50 h0_f51 h0_52 h0_f53) t.heap ∧ va_K (dC, dI) vwCl [] t ∧ va_D (va_A (wd_c_X12_fails h0 h0_f0 h0_1 h0_2 h0_3 h0_4 h0_5 h0_f6 h0_f7 h0_f8 h0_f9 h0_f10 (-1) h0_f12 h0_f13 h0_f14 h0_15 h0_16 h0_f17 h0_18 h0_19 h0_20 h0_21 h0_22 h0_23 h0_24 h0_25 h0_f26 h0_f27 h0_f28 h0_f29 h0_f30 h0_f31 h0_32 h0_33 h0_f34 h0_35 h0_36 h0_37 h0_38 h0_39 h0_40 h0_f41 h0_f42 h0_f43 h0_f44 h0_45 h0_46 h0_47 h0_48 h0_49 h0_50 h0_f51 h0_52 h0_f53) sz) (wd_c_X12_fails h0 h0_f0 h0_1 h0_2 h0_3 h0_4 h0_5 h0_f6 h0_f7 h0_f8 h0_f9 h0_f10 h0_f10 h0_f12 h0_f13 h0_f14 h0_15 h0_16 h0_f17 h0_18 h0_19 h0_20 h0_21 h0_22 h0_23 h0_24 h0_25 h0_f26 h0_f27 h0_f28 h0_f29 h0_f30 h0_f31 h0_32 h0_33 h0_f34 h0_35 h0_36 h0_37 h0_38 h0_39 h0_40 h0_f41 h0_f42 h0_f43 h0_f44 h0_45 h0_46 h0_47 h0_48 h0_49 h0_50 h0_f51 h0_52 h0_f53)) (va_A (wd_c_X12_fails h0 h0_f0 h0_1 h0_2 h0_3 h0_4 h0_5 h0_f6 h0_f7 h0_f8 h0_f9 h0_f10 (-1) h0_f12 h0_f13 h0_f14 h0_15 h0_16 h0_f17 h0_18 h0_19 h0_20 h0_21 h0_22 h0_23 h0_24 h0_25 h0_f26 h0_f27 h0_f28 h0_f29 h0_f30 h0_f31 h0_32 h0_33 h0_f34 h0_35 h0_36 h0_37 h0_38 h0_39 h0_40 h0_f41 h0_f42 h0_f43 h0_f44 h0_45 h0_46 h0_47 h0_48 h0_49 h0_50 h0_f51 h0_52 h0_f53) sz)) 0 0 (va_A (wd_c_X12_fails h0 h0_f0 h0_1 h0_2 h0_3 h0_4 h0_5 h0_f6 h0_f7 h0_f8 h0_f9 h0_f10 (-1) h0_f12 h0_f13 h0_f14 h0_15 h0_16 h0_f17 h0_18 h0_19 h0_20 h0_21 h0_22 h0_23 h0_24 h0_25 h0_f26 h0_f27 h0_f28 h0_f29 h0_f30 h0_f31 h0_32 h0_33 h0_f34 h0_35 h0_36 h0_37 h0_38 h0_39 h0_40 h0_f41 h0_f42 h0_f43 h0_f44 h0_45 h0_46 h0_47 h0_48 h0_49 h0_50 h0_f51 h0_52 h0_f53) sz) := by
  refine Met.ofW (cc := cX12_fails) (maxL := 1) (ret := (some .boolean)) (by decide +kernel) rfl ?_
  intro p e s m args below meth c s₁ B hml hv
  obtain ⟨rfl, hsz, hP, hK, hD0⟩ := hv
  have hx := B.exec
  have hb := B.bytes
  have hr := B.returns
  have hts := atoms_spec (ws := wf_c_X12_fails) B.pre
  have hown : s.vm.findClass RX12 = some m.cls := findClass_of_methodNamed B.named
  have hlocks := B.notSynchronized
  subst hsz
  have hD := hD0.self (sz := s.heap.size)
  generalize hAe : va_A (wd_c_X12_fails h0 h0_f0 h0_1 h0_2 h0_3 h0_4 h0_5 h0_f6 h0_f7 h0_f8 h0_f9 h0_f10 (-1) h0_f12 h0_f13 h0_f14 h0_15 h0_16 h0_f17 h0_18 h0_19 h0_20 h0_21 h0_22 h0_23 h0_24 h0_25 h0_f26 h0_f27 h0_f28 h0_f29 h0_f30 h0_f31 h0_32 h0_33 h0_f34 h0_35 h0_36 h0_37 h0_38 h0_39 h0_40 h0_f41 h0_f42 h0_f43 h0_f44 h0_45 h0_46 h0_47 h0_48 h0_49 h0_50 h0_f51 h0_52 h0_f53) s.heap.size = A at hD ⊢
  have hA : ∀ q : Nat, s.heap.size ≤ q → A q := fun q h => by rw [← hAe]; exact Or.inr h
  have hP : va_P (dC, dI) vwCl (wd_c_X12_fails h0 h0_f0 h0_1 h0_2 h0_3 h0_4 h0_5 h0_f6 h0_f7 h0_f8 h0_f9 h0_f10 (-1) h0_f12 h0_f13 h0_f14 h0_15 h0_16 h0_f17 h0_18 h0_19 h0_20 h0_21 h0_22 h0_23 h0_24 h0_25 h0_f26 h0_f27 h0_f28 h0_f29 h0_f30 h0_f31 h0_32 h0_33 h0_f34 h0_35 h0_36 h0_37 h0_38 h0_39 h0_40 h0_f41 h0_f42 h0_f43 h0_f44 h0_45 h0_46 h0_47 h0_48 h0_49 h0_50 h0_f51 h0_52 h0_f53) s.heap := hP
  have hl := lv_entry ([.ref h0]) (n := 1) (Nat.le_of_ble_eq_true rfl)
  rw [lg_entry_eq]
  generalize (lg_sl ([.ref h0]) ++ List.replicate (1 - (lg_sl ([.ref h0])).length) Slot.unset).toArray = ls at hl ⊢
  have hl : lv_has ls 1 [(0, .ref h0)] := hl
  obtain ⟨H, hHe⟩ : ∃ H : Heap, s.heap = H := ⟨_, rfl⟩
  have hS : va_S A s.heap H [] := by rw [hHe]; exact va_S.rf
  have hP : va_P (dC, dI) vwCl (wd_c_X12_fails h0 h0_f0 h0_1 h0_2 h0_3 h0_4 h0_5 h0_f6 h0_f7 h0_f8 h0_f9 h0_f10 (-1) h0_f12 h0_f13 h0_f14 h0_15 h0_16 h0_f17 h0_18 h0_19 h0_20 h0_21 h0_22 h0_23 h0_24 h0_25 h0_f26 h0_f27 h0_f28 h0_f29 h0_f30 h0_f31 h0_32 h0_33 h0_f34 h0_35 h0_36 h0_37 h0_38 h0_39 h0_40 h0_f41 h0_f42 h0_f43 h0_f44 h0_45 h0_46 h0_47 h0_48 h0_49 h0_50 h0_f51 h0_52 h0_f53) H := by rw [← hHe]; exact hP
  rw [hHe]
  obtain ⟨RES, hR⟩ : ∃ z, fx_c_X12_fails = z := ⟨_, rfl⟩
  have hEX : RES = fx_c_X12_fails := hR.symm
  refine lv_aload_n hx hb dX12_fails_0 rfl (lv_at hl 0 rfl) ?_
  as_aux_lemma =>
  refine va_get (D := (dC, dI)) (ci := 12) (v := .int (-1)) (C := RX12) (T := TX12) (N := 54) hx hb hts iw_c_X12_fails_X12 hown hK hP 0 rfl rfl 11 (by decide +kernel) (hts (.fieldLink RX12 143 "BuoyVoteModel" "fault" "I") (List.mem_of_getElem? (i := 1) rfl)) (fun _ h9 => h9) rfl dX12_fails_1 ?_
  refine lv_iconst (v := (-1)) hx hb dX12_fails_4 kc_iconst_m1 ?_
  refine lv_icmp_ne (tgt := 16) hx hb dX12_fails_5 rfl (fun c_1 => absurd c_1 (by decide +kernel)) (fun c_1 => ?_)
  refine lv_aload_n hx hb dX12_fails_8 rfl (lv_at hl 0 rfl) ?_
  refine lv_aload_n hx hb dX12_fails_9 rfl (lv_at hl 0 rfl) ?_
  refine va_get (D := (dC, dI)) (ci := 12) (v := .int h0_f10) (C := RX12) (T := TX12) (N := 54) hx hb hts iw_c_X12_fails_X12 hown hK hP 0 rfl rfl 10 (by decide +kernel) (hts (.fieldLink RX12 134 "BuoyVoteModel" "at" "I") (List.mem_of_getElem? (i := 2) rfl)) (fun _ h9 => h9) rfl dX12_fails_10 ?_
  refine va_put (D := (dC, dI)) (ci := 12) (v := .int h0_f10) (ty := .int) (C := RX12) (T := TX12) (N := 54) hx hb hts iw_c_X12_fails_X12 tyX12 tyX12_ok nmX12 hown hK hP hD hS 0 rfl rfl 11 (by decide +kernel) (hts (.fieldLink RX12 143 "BuoyVoteModel" "fault" "I") (List.mem_of_getElem? (i := 1) rfl)) (fun _ h9 => h9) rfl (by decide +kernel) rfl rfl (Nat.le_of_ble_eq_true rfl) dX12_fails_13 (fun H locs hP hD hS => ?_)
  have hP : va_P (dC, dI) vwCl (wd_c_X12_fails h0 h0_f0 h0_1 h0_2 h0_3 h0_4 h0_5 h0_f6 h0_f7 h0_f8 h0_f9 h0_f10 h0_f10 h0_f12 h0_f13 h0_f14 h0_15 h0_16 h0_f17 h0_18 h0_19 h0_20 h0_21 h0_22 h0_23 h0_24 h0_25 h0_f26 h0_f27 h0_f28 h0_f29 h0_f30 h0_f31 h0_32 h0_33 h0_f34 h0_35 h0_36 h0_37 h0_38 h0_39 h0_40 h0_f41 h0_f42 h0_f43 h0_f44 h0_45 h0_46 h0_47 h0_48 h0_49 h0_50 h0_f51 h0_52 h0_f53) H := hP
  have hD : va_D A (wd_c_X12_fails h0 h0_f0 h0_1 h0_2 h0_3 h0_4 h0_5 h0_f6 h0_f7 h0_f8 h0_f9 h0_f10 h0_f10 h0_f12 h0_f13 h0_f14 h0_15 h0_16 h0_f17 h0_18 h0_19 h0_20 h0_21 h0_22 h0_23 h0_24 h0_25 h0_f26 h0_f27 h0_f28 h0_f29 h0_f30 h0_f31 h0_32 h0_33 h0_f34 h0_35 h0_36 h0_37 h0_38 h0_39 h0_40 h0_f41 h0_f42 h0_f43 h0_f44 h0_45 h0_46 h0_47 h0_48 h0_49 h0_50 h0_f51 h0_52 h0_f53) := hD
  refine lv_iconst (v := 0) hx hb dX12_fails_16 kc_iconst_0 ?_
  have hK9 := hK.sub (tys' := []) [] rfl
  exact W.zret (v := 0) hx hb hr rfl (fun t ht hW => ⟨⟨0, (), rfl, ⟨rfl, (hR.trans hEX).symm⟩, by rw [ht]; exact hP, va_K.moved hW.alike hK9, hD⟩, hS.F ht⟩) hS.2.2 dX12_fails_17
noncomputable def wd_c_X12_here (a0 : Nat) (a1 : Int32) (a2 : Nat) (a3 : Nat) (a4 : Nat) (a5 : Nat) (a6 : Nat) (a7 : Int32) (a8 : Int32) (a9 : Int32) (a10 : Int32) (a11 : Int32) (a12 : Int32) (a13 : Int32) (a14 : Int32) (a15 : Int32) (a16 : Nat) (a17 : Nat) (a18 : Int32) (a19 : Nat) (a20 : Nat) (a21 : Nat) (a22 : Nat) (a23 : Nat) (a24 : Nat) (a25 : Nat) (a26 : Nat) (a27 : Int32) (a28 : Int32) (a29 : Int32) (a30 : Int32) (a31 : Int32) (a32 : Int32) (a33 : Nat) (a34 : Nat) (a35 : Int32) (a36 : Nat) (a37 : Nat) (a38 : Nat) (a39 : Nat) (a40 : Nat) (a41 : Nat) (a42 : Int32) (a43 : Int64) (a44 : Int32) (a45 : Int32) (a46 : Nat) (a47 : Nat) (a48 : Nat) (a49 : Nat) (a50 : Nat) (a51 : Nat) (a52 : Int32) (a53 : Nat) (a54 : Int32) (a55 : Nat) (a56 : ClassId) (a57 : Nat) (a58 : Nat → Int32) : va_W := [(a0, .inr (12, [.int a1, .ref a2, .ref a3, .ref a4, .ref a5, .ref a6, .int a7, .int a8, .int a9, .int a10, .int a11, .int a12, .int a13, .int a14, .int a15, .ref a16, .ref a17, .int a18, .ref a19, .ref a20, .ref a21, .ref a22, .ref a23, .ref a24, .ref a25, .ref a26, .int a27, .int a28, .int a29, .int a30, .int a31, .int a32, .ref a33, .ref a34, .int a35, .ref a36, .ref a37, .ref a38, .ref a39, .ref a40, .ref a41, .int a42, .long a43, .int a44, .int a45, .ref a46, .ref a47, .ref a48, .ref a49, .ref a50, .ref a51, .int a52, .ref a53, .int a54])), (a55, .inl (a56, a57, .inl a58))]
noncomputable def wf_c_X12_here : List Cond := List.cons (.code yX12_here cX12_here 1 (some .int)) (@HAppend.hAppend (List Cond) (List Cond) (List Cond) _ [.fieldLink RX12 134 "BuoyVoteModel" "at" "I", .fieldLink RX12 137 "BuoyVoteModel" "ends" "I", .fieldLink RX12 23 "BuoyVoteModel" "text" "[B", .fieldLink RX12 140 "BuoyVoteModel" "begins" "I"] wsX120)
theorem iw_c_X12_here_X12 : ∀ w ∈ wsX120, w ∈ wf_c_X12_here := fun w h => List.mem_cons_of_mem _ (List.mem_append_right _ h)
set_option maxHeartbeats 4000000 in
set_option maxRecDepth 100000 in
theorem c_X12_here (l : Launch) (dC : Nat → ClassId) (dI : Nat → Nat → Nat) (sz : Nat) (h0 : Nat) (h0_f0 : Int32) (h0_1 : Nat) (h0_2 : Nat) (h0_3 : Nat) (h0_4 : Nat) (h0_5 : Nat) (h0_f6 : Int32) (h0_f7 : Int32) (h0_f8 : Int32) (h0_f9 : Int32) (h0_f10 : Int32) (h0_f12 : Int32) (h0_f13 : Int32) (h0_f14 : Int32) (h0_15 : Nat) (h0_16 : Nat) (h0_f17 : Int32) (h0_18 : Nat) (h0_19 : Nat) (h0_20 : Nat) (h0_21 : Nat) (h0_22 : Nat) (h0_23 : Nat) (h0_24 : Nat) (h0_25 : Nat) (h0_f26 : Int32) (h0_f27 : Int32) (h0_f28 : Int32) (h0_f29 : Int32) (h0_f30 : Int32) (h0_f31 : Int32) (h0_32 : Nat) (h0_33 : Nat) (h0_f34 : Int32) (h0_35 : Nat) (h0_36 : Nat) (h0_37 : Nat) (h0_38 : Nat) (h0_39 : Nat) (h0_40 : Nat) (h0_f41 : Int32) (h0_f42 : Int64) (h0_f43 : Int32) (h0_f44 : Int32) (h0_45 : Nat) (h0_46 : Nat) (h0_47 : Nat) (h0_48 : Nat) (h0_49 : Nat) (h0_50 : Nat) (h0_f51 : Int32) (h0_52 : Nat) (h0_f53 : Int32) (h0_5k : ClassId) (h0_5c : Nat → Int32) (tN : Nat) (g_h0_f6 : RG h0_f6 0 240) (g_h0_f7 : RG h0_f7 0 4) (g_h0_f8 : RG h0_f8 0 720) (g_h0_f9 : RG h0_f9 0 240) (g_h0_f10 : RG h0_f10 0 240) (g_h0_f17 : RG h0_f17 0 1) (g_h0_f26 : RG h0_f26 0 8) (g_h0_f27 : RG h0_f27 0 3) (g_h0_f28 : RG h0_f28 0 8) (g_h0_f29 : RG h0_f29 0 3) (g_h0_f30 : RG h0_f30 0 4) (g_h0_f31 : RG h0_f31 0 1) (g_h0_f34 : RG h0_f34 (-1) 3) (g_h0_f41 : RG h0_f41 0 40) (g_h0_f51 : RG h0_f51 0 10) (g_h0_f53 : RG h0_f53 0 1) (htN : h0_f8.toInt + 240 ≤ (tN : Int)) : Met l yX12_here wf_c_X12_here ({ frames := 0, cells := 0, slots := 0, locals := 0 }) (va_Pc [.ref h0] (fun U => U.heap.size = sz ∧ va_P (dC, dI) vwCl (wd_c_X12_here h0 h0_f0 h0_1 h0_2 h0_3 h0_4 h0_5 h0_f6 h0_f7 h0_f8 h0_f9 h0_f10 (-1) h0_f12 h0_f13 h0_f14 h0_15 h0_16 h0_f17 h0_18 h0_19 h0_20 h0_21 h0_22 h0_23 h0_24 h0_25 h0_f26 h0_f27 h0_f28 h0_f29 h0_f30 h0_f31 h0_32 h0_33 h0_f34 h0_35 h0_36 h0_37 h0_38 h0_39 h0_40 h0_f41 h0_f42 h0_f43 h0_f44 h0_45 h0_46 h0_47 h0_48 h0_49 h0_50 h0_f51 h0_52 h0_f53 h0_5 h0_5k tN h0_5c) U.heap ∧ va_K (dC, dI) vwCl [(h0_5k, .byte)] U ∧ va_D (fun _ => True) (wd_c_X12_here h0 h0_f0 h0_1 h0_2 h0_3 h0_4 h0_5 h0_f6 h0_f7 h0_f8 h0_f9 h0_f10 (-1) h0_f12 h0_f13 h0_f14 h0_15 h0_16 h0_f17 h0_18 h0_19 h0_20 h0_21 h0_22 h0_23 h0_24 h0_25 h0_f26 h0_f27 h0_f28 h0_f29 h0_f30 h0_f31 h0_32 h0_33 h0_f34 h0_35 h0_36 h0_37 h0_38 h0_39 h0_40 h0_f41 h0_f42 h0_f43 h0_f44 h0_45 h0_46 h0_47 h0_48 h0_49 h0_50 h0_f51 h0_52 h0_f53 h0_5 h0_5k tN h0_5c))) (va_Qi (fun (r : Int32) (u : Unit) => (r = (-1) ∧ h0_f9.toInt ≤ h0_f10.toInt + 0 ∧ (r = (-1) ∨ r = h0_5c (h0_f8 + h0_f10).toNatClampNeg &&& 255) ∧ r = fx_c_X12_here h0_f8 h0_f9 h0_f10 h0_5c) ∨ (RG r 0 255 ∧ RG h0_f10 0 239 ∧ RG h0_f9 1 240 ∧ (r = (-1) ∨ r = h0_5c (h0_f8 + h0_f10).toNatClampNeg &&& 255) ∧ r = fx_c_X12_here h0_f8 h0_f9 h0_f10 h0_5c)) (fun (u : Unit) t => va_P (dC, dI) vwCl (wd_c_X12_here h0 h0_f0 h0_1 h0_2 h0_3 h0_4 h0_5 h0_f6 h0_f7 h0_f8 h0_f9 h0_f10 (-1) h0_f12 h0_f13 h0_f14 h0_15 h0_16 h0_f17 h0_18 h0_19 h0_20 h0_21 h0_22 h0_23 h0_24 h0_25 h0_f26 h0_f27 h0_f28 h0_f29 h0_f30 h0_f31 h0_32 h0_33 h0_f34 h0_35 h0_36 h0_37 h0_38 h0_39 h0_40 h0_f41 h0_f42 h0_f43 h0_f44 h0_45 h0_46 h0_47 h0_48 h0_49 h0_50 h0_f51 h0_52 h0_f53 h0_5 h0_5k tN h0_5c) t.heap ∧ va_K (dC, dI) vwCl [] t ∧ va_D (va_A (wd_c_X12_here h0 h0_f0 h0_1 h0_2 h0_3 h0_4 h0_5 h0_f6 h0_f7 h0_f8 h0_f9 h0_f10 (-1) h0_f12 h0_f13 h0_f14 h0_15 h0_16 h0_f17 h0_18 h0_19 h0_20 h0_21 h0_22 h0_23 h0_24 h0_25 h0_f26 h0_f27 h0_f28 h0_f29 h0_f30 h0_f31 h0_32 h0_33 h0_f34 h0_35 h0_36 h0_37 h0_38 h0_39 h0_40 h0_f41 h0_f42 h0_f43 h0_f44 h0_45 h0_46 h0_47 h0_48 h0_49 h0_50 h0_f51 h0_52 h0_f53 h0_5 h0_5k tN h0_5c) sz) (wd_c_X12_here h0 h0_f0 h0_1 h0_2 h0_3 h0_4 h0_5 h0_f6 h0_f7 h0_f8 h0_f9 h0_f10 (-1) h0_f12 h0_f13 h0_f14 h0_15 h0_16 h0_f17 h0_18 h0_19 h0_20 h0_21 h0_22 h0_23 h0_24 h0_25 h0_f26 h0_f27 h0_f28 h0_f29 h0_f30 h0_f31 h0_32 h0_33 h0_f34 h0_35 h0_36 h0_37 h0_38 h0_39 h0_40 h0_f41 h0_f42 h0_f43 h0_f44 h0_45 h0_46 h0_47 h0_48 h0_49 h0_50 h0_f51 h0_52 h0_f53 h0_5 h0_5k tN h0_5c)) (va_A (wd_c_X12_here h0 h0_f0 h0_1 h0_2 h0_3 h0_4 h0_5 h0_f6 h0_f7 h0_f8 h0_f9 h0_f10 (-1) h0_f12 h0_f13 h0_f14 h0_15 h0_16 h0_f17 h0_18 h0_19 h0_20 h0_21 h0_22 h0_23 h0_24 h0_25 h0_f26 h0_f27 h0_f28 h0_f29 h0_f30 h0_f31 h0_32 h0_33 h0_f34 h0_35 h0_36 h0_37 h0_38 h0_39 h0_40 h0_f41 h0_f42 h0_f43 h0_f44 h0_45 h0_46 h0_47 h0_48 h0_49 h0_50 h0_f51 h0_52 h0_f53 h0_5 h0_5k tN h0_5c) sz)) 0 0 (va_A (wd_c_X12_here h0 h0_f0 h0_1 h0_2 h0_3 h0_4 h0_5 h0_f6 h0_f7 h0_f8 h0_f9 h0_f10 (-1) h0_f12 h0_f13 h0_f14 h0_15 h0_16 h0_f17 h0_18 h0_19 h0_20 h0_21 h0_22 h0_23 h0_24 h0_25 h0_f26 h0_f27 h0_f28 h0_f29 h0_f30 h0_f31 h0_32 h0_33 h0_f34 h0_35 h0_36 h0_37 h0_38 h0_39 h0_40 h0_f41 h0_f42 h0_f43 h0_f44 h0_45 h0_46 h0_47 h0_48 h0_49 h0_50 h0_f51 h0_52 h0_f53 h0_5 h0_5k tN h0_5c) sz) := by
  refine Met.ofW (cc := cX12_here) (maxL := 1) (ret := (some .int)) (by decide +kernel) rfl ?_
  intro p e s m args below meth c s₁ B hml hv
  obtain ⟨rfl, hsz, hP, hK, hD0⟩ := hv
  have hx := B.exec
  have hb := B.bytes
  have hr := B.returns
  have hts := atoms_spec (ws := wf_c_X12_here) B.pre
  have hown : s.vm.findClass RX12 = some m.cls := findClass_of_methodNamed B.named
  have hlocks := B.notSynchronized
  subst hsz
  have hD := hD0.self (sz := s.heap.size)
  generalize hAe : va_A (wd_c_X12_here h0 h0_f0 h0_1 h0_2 h0_3 h0_4 h0_5 h0_f6 h0_f7 h0_f8 h0_f9 h0_f10 (-1) h0_f12 h0_f13 h0_f14 h0_15 h0_16 h0_f17 h0_18 h0_19 h0_20 h0_21 h0_22 h0_23 h0_24 h0_25 h0_f26 h0_f27 h0_f28 h0_f29 h0_f30 h0_f31 h0_32 h0_33 h0_f34 h0_35 h0_36 h0_37 h0_38 h0_39 h0_40 h0_f41 h0_f42 h0_f43 h0_f44 h0_45 h0_46 h0_47 h0_48 h0_49 h0_50 h0_f51 h0_52 h0_f53 h0_5 h0_5k tN h0_5c) s.heap.size = A at hD ⊢
  have hA : ∀ q : Nat, s.heap.size ≤ q → A q := fun q h => by rw [← hAe]; exact Or.inr h
  have hP : va_P (dC, dI) vwCl (wd_c_X12_here h0 h0_f0 h0_1 h0_2 h0_3 h0_4 h0_5 h0_f6 h0_f7 h0_f8 h0_f9 h0_f10 (-1) h0_f12 h0_f13 h0_f14 h0_15 h0_16 h0_f17 h0_18 h0_19 h0_20 h0_21 h0_22 h0_23 h0_24 h0_25 h0_f26 h0_f27 h0_f28 h0_f29 h0_f30 h0_f31 h0_32 h0_33 h0_f34 h0_35 h0_36 h0_37 h0_38 h0_39 h0_40 h0_f41 h0_f42 h0_f43 h0_f44 h0_45 h0_46 h0_47 h0_48 h0_49 h0_50 h0_f51 h0_52 h0_f53 h0_5 h0_5k tN h0_5c) s.heap := hP
  have hl := lv_entry ([.ref h0]) (n := 1) (Nat.le_of_ble_eq_true rfl)
  rw [lg_entry_eq]
  generalize (lg_sl ([.ref h0]) ++ List.replicate (1 - (lg_sl ([.ref h0])).length) Slot.unset).toArray = ls at hl ⊢
  have hl : lv_has ls 1 [(0, .ref h0)] := hl
  obtain ⟨H, hHe⟩ : ∃ H : Heap, s.heap = H := ⟨_, rfl⟩
  have hS : va_S A s.heap H [] := by rw [hHe]; exact va_S.rf
  have hP : va_P (dC, dI) vwCl (wd_c_X12_here h0 h0_f0 h0_1 h0_2 h0_3 h0_4 h0_5 h0_f6 h0_f7 h0_f8 h0_f9 h0_f10 (-1) h0_f12 h0_f13 h0_f14 h0_15 h0_16 h0_f17 h0_18 h0_19 h0_20 h0_21 h0_22 h0_23 h0_24 h0_25 h0_f26 h0_f27 h0_f28 h0_f29 h0_f30 h0_f31 h0_32 h0_33 h0_f34 h0_35 h0_36 h0_37 h0_38 h0_39 h0_40 h0_f41 h0_f42 h0_f43 h0_f44 h0_45 h0_46 h0_47 h0_48 h0_49 h0_50 h0_f51 h0_52 h0_f53 h0_5 h0_5k tN h0_5c) H := by rw [← hHe]; exact hP
  rw [hHe]
  obtain ⟨RES, hR⟩ : ∃ z, fx_c_X12_here h0_f8 h0_f9 h0_f10 h0_5c = z := ⟨_, rfl⟩
  have hEX : RES = fx_c_X12_here h0_f8 h0_f9 h0_f10 h0_5c := hR.symm
  refine lv_aload_n hx hb dX12_here_0 rfl (lv_at hl 0 rfl) ?_
  as_aux_lemma =>
  refine va_get (D := (dC, dI)) (ci := 12) (v := .int h0_f10) (C := RX12) (T := TX12) (N := 54) hx hb hts iw_c_X12_here_X12 hown hK hP 0 rfl rfl 10 (by decide +kernel) (hts (.fieldLink RX12 134 "BuoyVoteModel" "at" "I") (List.mem_of_getElem? (i := 1) rfl)) (fun _ h9 => h9) rfl dX12_here_1 ?_
  refine lv_aload_n hx hb dX12_here_4 rfl (lv_at hl 0 rfl) ?_
  refine va_get (D := (dC, dI)) (ci := 12) (v := .int h0_f9) (C := RX12) (T := TX12) (N := 54) hx hb hts iw_c_X12_here_X12 hown hK hP 0 rfl rfl 9 (by decide +kernel) (hts (.fieldLink RX12 137 "BuoyVoteModel" "ends" "I") (List.mem_of_getElem? (i := 2) rfl)) (fun _ h9 => h9) rfl dX12_here_5 ?_
  refine lv_icmp_ge (tgt := 32) hx hb dX12_here_8 rfl (fun c_1 => ?_) (fun c_1 => ?_)
  · replace hEX := hEX.trans (if_pos c_1)
    have b_2 : h0_f9.toInt ≤ h0_f10.toInt + 0 := by have := Int32.le_iff_toInt_le.mp c_1; omega
    refine lv_iconst (v := (-1)) hx hb dX12_here_32 kc_iconst_m1 ?_
    have hK9 := hK.sub (tys' := []) [] rfl
    exact W.iret (v := (-1)) hx hb hr (fun t ht hW => ⟨⟨(-1), (), rfl, (Or.inl ⟨rfl, (by have := b_2; have := (g_h0_f9).2; have := (g_h0_f10).1; show h0_f9.toInt ≤ h0_f10.toInt + 0; omega), (Or.inl rfl), (hR.trans hEX).symm⟩), by rw [ht]; exact hP, va_K.moved hW.alike hK9, hD⟩, hS.F ht⟩) hS.2.2 dX12_here_33
  · replace hEX := hEX.trans (if_neg c_1)
    have d_3 := Int32.not_le.mp c_1
    have b_4 : h0_f10.toInt ≤ h0_f9.toInt + (-1) := by have := Int32.lt_iff_toInt_lt.mp d_3; omega
    have g_5 : RG h0_f10 0 239 := RG_lt1 g_h0_f10 g_h0_f9 d_3 (by decide +kernel)
    have g_6 : RG h0_f9 1 240 := RG_lt2 g_h0_f10 g_h0_f9 d_3 (by decide +kernel)
    refine lv_aload_n hx hb dX12_here_11 rfl (lv_at hl 0 rfl) ?_
    as_aux_lemma =>
    refine va_get (D := (dC, dI)) (ci := 12) (v := .ref h0_5) (C := RX12) (T := TX12) (N := 54) hx hb hts iw_c_X12_here_X12 hown hK hP 0 rfl rfl 5 (by decide +kernel) (hts (.fieldLink RX12 23 "BuoyVoteModel" "text" "[B") (List.mem_of_getElem? (i := 3) rfl)) (fun _ h9 => h9) rfl dX12_here_12 ?_
    refine lv_aload_n hx hb dX12_here_15 rfl (lv_at hl 0 rfl) ?_
    refine va_get (D := (dC, dI)) (ci := 12) (v := .int h0_f8) (C := RX12) (T := TX12) (N := 54) hx hb hts iw_c_X12_here_X12 hown hK hP 0 rfl rfl 8 (by decide +kernel) (hts (.fieldLink RX12 140 "BuoyVoteModel" "begins" "I") (List.mem_of_getElem? (i := 4) rfl)) (fun _ h9 => h9) rfl dX12_here_16 ?_
    refine lv_aload_n hx hb dX12_here_19 rfl (lv_at hl 0 rfl) ?_
    refine va_get (D := (dC, dI)) (ci := 12) (v := .int h0_f10) (C := RX12) (T := TX12) (N := 54) hx hb hts iw_c_X12_here_X12 hown hK hP 0 rfl rfl 10 (by decide +kernel) (hts (.fieldLink RX12 134 "BuoyVoteModel" "at" "I") (List.mem_of_getElem? (i := 1) rfl)) (fun _ h9 => h9) rfl dX12_here_20 ?_
    refine lv_iadd hx hb dX12_here_23 ?_
    refine lv_topi (fun x_7 ex_7 => ?_)
    replace hEX := hEX.trans (exl_eq ex_7)
    have g_8 : RG x_7 0 959 := RG_add ex_7 g_h0_f8 g_5 (by decide +kernel)
    refine va_bald hx hb hK hP 1 0 rfl rfl (vp_in_iff.mpr ⟨by have := (g_8).1; omega, by have := eq_add2 ex_7 g_h0_f8 g_5 (by decide +kernel); have := htN; have := (g_5).2; omega⟩) dX12_here_24 ?_
    refine lv_topi (fun x_9 ex_9 => ?_)
    replace hEX := hEX.trans (exl_eq ex_9)
    refine lv_sipush (v := 255) hx hb dX12_here_25 kc_sipush_255 ?_
    refine lv_iand hx hb dX12_here_28 ?_
    as_aux_lemma =>
    refine lv_topi (fun x_10 ex_10 => ?_)
    replace hEX := hEX.trans (exl_eq ex_10)
    have g_11 : RG x_10 0 255 := RG_andr ex_10 (RG_k 255 255 rfl) (by decide +kernel)
    refine lv_goto (tgt := 33) hx hb dX12_here_29 rfl ?_
    have hK9 := hK.sub (tys' := []) [] rfl
    exact W.iret (v := x_10) hx hb hr (fun t ht hW => ⟨⟨x_10, (), rfl, (Or.inr ⟨g_11, g_5, g_6, (Or.inr (by rw [ex_10, ex_9, ex_7])), (hR.trans hEX).symm⟩), by rw [ht]; exact hP, va_K.moved hW.alike hK9, hD⟩, hS.F ht⟩) hS.2.2 dX12_here_33
noncomputable def wf_c_X12_isIn_1 : List Cond := .code yX12_isIn cX12_isIn 6 (some .boolean) :: ([])
set_option maxHeartbeats 4000000 in
set_option maxRecDepth 100000 in
theorem c_X12_isIn_1 (l : Launch) (dC : Nat → ClassId) (dI : Nat → Nat → Nat) (sz : Nat) (p0 : Int64) (g_p0 : LG p0 0 99) : Met l yX12_isIn wf_c_X12_isIn_1 ({ frames := 0, cells := 0, slots := 0, locals := 0 }) (va_Pc [.long p0, .long 0, .long 9] (fun U => U.heap.size = sz ∧ va_P (dC, dI) vwCl [] U.heap ∧ va_K (dC, dI) vwCl [] U ∧ va_D (fun _ => True) [])) (va_Qi (fun (r : Int32) (u : Unit) => (r = 0 ∧ LG p0 10 99 ∧ r = fx_c_X12_isIn_1 p0) ∨ (r = 1 ∧ LG p0 0 9 ∧ r = fx_c_X12_isIn_1 p0)) (fun (u : Unit) t => va_P (dC, dI) vwCl [] t.heap ∧ va_K (dC, dI) vwCl [] t ∧ va_D (va_A [] sz) []) (va_A [] sz)) 0 0 (va_A [] sz) := by
  refine Met.ofW (cc := cX12_isIn) (maxL := 6) (ret := (some .boolean)) (by decide +kernel) rfl ?_
  intro p e s m args below meth c s₁ B hml hv
  obtain ⟨rfl, hsz, hP, hK, hD0⟩ := hv
  have hx := B.exec
  have hb := B.bytes
  have hr := B.returns
  have hts := atoms_spec (ws := wf_c_X12_isIn_1) B.pre
  have hown : s.vm.findClass RX12 = some m.cls := findClass_of_methodNamed B.named
  have hlocks := B.notSynchronized
  subst hsz
  have hD := hD0.self (sz := s.heap.size)
  generalize hAe : va_A [] s.heap.size = A at hD ⊢
  have hA : ∀ q : Nat, s.heap.size ≤ q → A q := fun q h => by rw [← hAe]; exact Or.inr h
  have hP : va_P (dC, dI) vwCl [] s.heap := hP
  have hl := lv_entry ([.long p0, .long 0, .long 9]) (n := 6) (Nat.le_of_ble_eq_true rfl)
  rw [lg_entry_eq]
  generalize (lg_sl ([.long p0, .long 0, .long 9]) ++ List.replicate (6 - (lg_sl ([.long p0, .long 0, .long 9])).length) Slot.unset).toArray = ls at hl ⊢
  have hl : lv_has ls 6 [(0, .long p0), (2, .long 0), (4, .long 9)] := hl
  obtain ⟨H, hHe⟩ : ∃ H : Heap, s.heap = H := ⟨_, rfl⟩
  have hS : va_S A s.heap H [] := by rw [hHe]; exact va_S.rf
  have hP : va_P (dC, dI) vwCl [] H := by rw [← hHe]; exact hP
  rw [hHe]
  obtain ⟨RES, hR⟩ : ∃ z, fx_c_X12_isIn_1 p0 = z := ⟨_, rfl⟩
  have hEX : RES = fx_c_X12_isIn_1 p0 := hR.symm
  refine lv_lload_n hx hb dX12_isIn_0 rfl (lv_at hl 0 rfl) ?_
  as_aux_lemma =>
  refine lv_lload_n hx hb dX12_isIn_1 rfl (lv_at hl 1 rfl) ?_
  refine W.lcmp hx hb dX12_isIn_2 ?_
  refine lv_if_lt (tgt := 17) hx hb dX12_isIn_3 rfl (fun c_1 => ?_) (fun c_1 => ?_)
  · replace c_1 := lc_lt_t c_1
    replace hEX := hEX.trans (if_pos c_1)
    exact LG_dead (LG_lt1 g_p0 (LG_k 0 0 rfl) c_1 (b' := (-1)) (by decide +kernel)) (by decide +kernel)
  · replace c_1 := lc_lt_f c_1
    replace hEX := hEX.trans (if_neg c_1)
    have d_2 := Int64.not_lt.mp c_1
    refine lv_lload_n hx hb dX12_isIn_6 rfl (lv_at hl 0 rfl) ?_
    refine lv_lload hx hb dX12_isIn_7 (lv_at hl 2 rfl) ?_
    refine W.lcmp hx hb dX12_isIn_12 ?_
    refine lv_if_gt (tgt := 17) hx hb dX12_isIn_10 rfl (fun c_3 => ?_) (fun c_3 => ?_)
    · replace c_3 := lc_gt_t c_3
      replace hEX := hEX.trans (if_pos c_3)
      have g_4 : LG p0 10 99 := LG_lt2 (LG_k 9 9 rfl) g_p0 c_3 (by decide +kernel)
      refine lv_iconst (v := 0) hx hb dX12_isIn_17 kc_iconst_0 ?_
      as_aux_lemma =>
      have hK9 := hK.sub (tys' := []) [] rfl
      exact W.zret (v := 0) hx hb hr rfl (fun t ht hW => ⟨⟨0, (), rfl, (Or.inl ⟨rfl, g_4, (hR.trans hEX).symm⟩), by rw [ht]; exact hP, va_K.moved hW.alike hK9, hD⟩, hS.F ht⟩) hS.2.2 dX12_isIn_18
    · replace c_3 := lc_gt_f c_3
      replace hEX := hEX.trans (if_neg c_3)
      have d_5 := Int64.not_lt.mp c_3
      have g_6 : LG p0 0 9 := LG_le1 g_p0 (LG_k 9 9 rfl) d_5 (by decide +kernel)
      refine lv_iconst (v := 1) hx hb dX12_isIn_13 kc_iconst_1 ?_
      refine lv_goto (tgt := 18) hx hb dX12_isIn_14 rfl ?_
      have hK9 := hK.sub (tys' := []) [] rfl
      exact W.zret (v := 1) hx hb hr rfl (fun t ht hW => ⟨⟨1, (), rfl, (Or.inr ⟨rfl, g_6, (hR.trans hEX).symm⟩), by rw [ht]; exact hP, va_K.moved hW.alike hK9, hD⟩, hS.F ht⟩) hS.2.2 dX12_isIn_18
noncomputable def wd_c_X12_number (a0 : Nat) (a1 : Int32) (a2 : Nat) (a3 : Nat) (a4 : Nat) (a5 : Nat) (a6 : Nat) (a7 : Int32) (a8 : Int32) (a9 : Int32) (a10 : Int32) (a11 : Int32) (a12 : Int32) (a13 : Int32) (a14 : Int32) (a15 : Int32) (a16 : Nat) (a17 : Nat) (a18 : Int32) (a19 : Nat) (a20 : Nat) (a21 : Nat) (a22 : Nat) (a23 : Nat) (a24 : Nat) (a25 : Nat) (a26 : Nat) (a27 : Int32) (a28 : Int32) (a29 : Int32) (a30 : Int32) (a31 : Int32) (a32 : Int32) (a33 : Nat) (a34 : Nat) (a35 : Int32) (a36 : Nat) (a37 : Nat) (a38 : Nat) (a39 : Nat) (a40 : Nat) (a41 : Nat) (a42 : Int32) (a43 : Int64) (a44 : Int32) (a45 : Int32) (a46 : Nat) (a47 : Nat) (a48 : Nat) (a49 : Nat) (a50 : Nat) (a51 : Nat) (a52 : Int32) (a53 : Nat) (a54 : Int32) (a55 : Nat) (a56 : ClassId) (a57 : Nat) (a58 : Nat → Int32) : va_W := [(a0, .inr (12, [.int a1, .ref a2, .ref a3, .ref a4, .ref a5, .ref a6, .int a7, .int a8, .int a9, .int a10, .int a11, .int a12, .int a13, .int a14, .int a15, .ref a16, .ref a17, .int a18, .ref a19, .ref a20, .ref a21, .ref a22, .ref a23, .ref a24, .ref a25, .ref a26, .int a27, .int a28, .int a29, .int a30, .int a31, .int a32, .ref a33, .ref a34, .int a35, .ref a36, .ref a37, .ref a38, .ref a39, .ref a40, .ref a41, .int a42, .long a43, .int a44, .int a45, .ref a46, .ref a47, .ref a48, .ref a49, .ref a50, .ref a51, .int a52, .ref a53, .int a54])), (a55, .inl (a56, a57, .inl a58))]
noncomputable def wf_c_X12_number : List Cond := List.cons (.code yX12_number cX12_number 5 (some .int)) (@HAppend.hAppend (List Cond) (List Cond) (List Cond) _ [.methodLink RX12 153 yX12_look, .instanceMethod yX12_look, .selects RX12 yX12_look yX12_look, .initialized RX12, .code yX12_look cX12_look 1 (some .int), .fieldLink RX12 134 "BuoyVoteModel" "at" "I", .fieldLink RX12 137 "BuoyVoteModel" "ends" "I", .fieldLink RX12 23 "BuoyVoteModel" "text" "[B", .fieldLink RX12 140 "BuoyVoteModel" "begins" "I", .methodLink RX12 183 yX12_isDigit, .instanceMethod yX12_isDigit, .selects RX12 yX12_isDigit yX12_isDigit, .code yX12_isDigit cX12_isDigit 1 (some .boolean), .methodLink RX12 149 yX12_fails, .instanceMethod yX12_fails, .selects RX12 yX12_fails yX12_fails, .code yX12_fails cX12_fails 1 (some .boolean), .fieldLink RX12 143 "BuoyVoteModel" "fault" "I", .methodLink RX12 229 yX12_here, .instanceMethod yX12_here, .selects RX12 yX12_here yX12_here, .code yX12_here cX12_here 1 (some .int), .methodLink RX12 232 yX12_isIn, .static yX12_isIn, .code yX12_isIn cX12_isIn 6 (some .boolean)] wsX120)
theorem iw_c_X12_number_X12 : ∀ w ∈ wsX120, w ∈ wf_c_X12_number := fun w h => List.mem_cons_of_mem _ (List.mem_append_right _ h)
set_option maxRecDepth 20000 in
theorem gf_c_X12_number_c_X12_isDigit : GoodIn wf_c_X12_number (wsV RX12 183 RX12 yX12_isDigit wf_c_X12_isDigit) := goodIn_app (gi_l [10, 11, 12, 4] rfl rfl) (gi_cons (j := 13) rfl rfl (goodIn_app (gi_l [6, 7, 8, 9] rfl rfl) (goodIn_sub iw_c_X12_number_X12 gw_X12)))
set_option maxRecDepth 20000 in
theorem gf_c_X12_number_c_X12_isIn_1 : GoodIn wf_c_X12_number (va_wsS RX12 232 yX12_isIn wf_c_X12_isIn_1) := goodIn_app (gi_l [23, 24, 4] rfl rfl) (gi_cons (j := 25) rfl rfl gi_nil)
set_option maxRecDepth 20000 in
theorem gf_c_X12_number_c_X12_fails : GoodIn wf_c_X12_number (wsV RX12 149 RX12 yX12_fails wf_c_X12_fails) := goodIn_app (gi_l [14, 15, 16, 4] rfl rfl) (gi_cons (j := 17) rfl rfl (goodIn_app (gi_l [18, 6] rfl rfl) (goodIn_sub iw_c_X12_number_X12 gw_X12)))
set_option maxRecDepth 20000 in
theorem gf_c_X12_number_c_X12_look : GoodIn wf_c_X12_number (wsV RX12 153 RX12 yX12_look wf_c_X12_look) := goodIn_app (gi_l [1, 2, 3, 4] rfl rfl) (gi_cons (j := 5) rfl rfl (goodIn_app (gi_l [6, 7, 8, 9] rfl rfl) (goodIn_sub iw_c_X12_number_X12 gw_X12)))
set_option maxRecDepth 20000 in
theorem gf_c_X12_number_c_X12_here : GoodIn wf_c_X12_number (wsV RX12 229 RX12 yX12_here wf_c_X12_here) := goodIn_app (gi_l [19, 20, 21, 4] rfl rfl) (gi_cons (j := 22) rfl rfl (goodIn_app (gi_l [6, 7, 8, 9] rfl rfl) (goodIn_sub iw_c_X12_number_X12 gw_X12)))
set_option maxHeartbeats 4000000 in
set_option maxRecDepth 100000 in
theorem c_X12_number (l : Launch) (dC : Nat → ClassId) (dI : Nat → Nat → Nat) (sz : Nat) (h0 : Nat) (h0_f0 : Int32) (h0_1 : Nat) (h0_2 : Nat) (h0_3 : Nat) (h0_4 : Nat) (h0_5 : Nat) (h0_f6 : Int32) (h0_f7 : Int32) (h0_f8 : Int32) (h0_f9 : Int32) (h0_f10 : Int32) (h0_f12 : Int32) (h0_f13 : Int32) (h0_f14 : Int32) (h0_15 : Nat) (h0_16 : Nat) (h0_f17 : Int32) (h0_18 : Nat) (h0_19 : Nat) (h0_20 : Nat) (h0_21 : Nat) (h0_22 : Nat) (h0_23 : Nat) (h0_24 : Nat) (h0_25 : Nat) (h0_f26 : Int32) (h0_f27 : Int32) (h0_f28 : Int32) (h0_f29 : Int32) (h0_f30 : Int32) (h0_f31 : Int32) (h0_32 : Nat) (h0_33 : Nat) (h0_f34 : Int32) (h0_35 : Nat) (h0_36 : Nat) (h0_37 : Nat) (h0_38 : Nat) (h0_39 : Nat) (h0_40 : Nat) (h0_f41 : Int32) (h0_f42 : Int64) (h0_f43 : Int32) (h0_f44 : Int32) (h0_45 : Nat) (h0_46 : Nat) (h0_47 : Nat) (h0_48 : Nat) (h0_49 : Nat) (h0_50 : Nat) (h0_f51 : Int32) (h0_52 : Nat) (h0_f53 : Int32) (h0_5k : ClassId) (h0_5c : Nat → Int32) (tN : Nat) (g_h0_f6 : RG h0_f6 0 240) (g_h0_f7 : RG h0_f7 0 4) (g_h0_f8 : RG h0_f8 0 720) (g_h0_f9 : RG h0_f9 0 240) (g_h0_f10 : RG h0_f10 0 240) (g_h0_f17 : RG h0_f17 0 1) (g_h0_f26 : RG h0_f26 0 8) (g_h0_f27 : RG h0_f27 0 3) (g_h0_f28 : RG h0_f28 0 8) (g_h0_f29 : RG h0_f29 0 3) (g_h0_f30 : RG h0_f30 0 4) (g_h0_f31 : RG h0_f31 0 1) (g_h0_f34 : RG h0_f34 (-1) 3) (g_h0_f41 : RG h0_f41 0 40) (g_h0_f51 : RG h0_f51 0 10) (g_h0_f53 : RG h0_f53 0 1) (htN : h0_f8.toInt + 240 ≤ (tN : Int)) : Met l yX12_number wf_c_X12_number ({ frames := 1, cells := 0, slots := 0, locals := 25 }) (va_Pc [.ref h0, .int 0, .int 9] (fun U => U.heap.size = sz ∧ va_P (dC, dI) vwCl (wd_c_X12_number h0 h0_f0 h0_1 h0_2 h0_3 h0_4 h0_5 h0_f6 h0_f7 h0_f8 h0_f9 h0_f10 (-1) h0_f12 h0_f13 h0_f14 h0_15 h0_16 h0_f17 h0_18 h0_19 h0_20 h0_21 h0_22 h0_23 h0_24 h0_25 h0_f26 h0_f27 h0_f28 h0_f29 h0_f30 h0_f31 h0_32 h0_33 h0_f34 h0_35 h0_36 h0_37 h0_38 h0_39 h0_40 h0_f41 h0_f42 h0_f43 h0_f44 h0_45 h0_46 h0_47 h0_48 h0_49 h0_50 h0_f51 h0_52 h0_f53 h0_5 h0_5k tN h0_5c) U.heap ∧ va_K (dC, dI) vwCl [(h0_5k, .byte)] U ∧ va_D (fun _ => True) (wd_c_X12_number h0 h0_f0 h0_1 h0_2 h0_3 h0_4 h0_5 h0_f6 h0_f7 h0_f8 h0_f9 h0_f10 (-1) h0_f12 h0_f13 h0_f14 h0_15 h0_16 h0_f17 h0_18 h0_19 h0_20 h0_21 h0_22 h0_23 h0_24 h0_25 h0_f26 h0_f27 h0_f28 h0_f29 h0_f30 h0_f31 h0_32 h0_33 h0_f34 h0_35 h0_36 h0_37 h0_38 h0_39 h0_40 h0_f41 h0_f42 h0_f43 h0_f44 h0_45 h0_46 h0_47 h0_48 h0_49 h0_50 h0_f51 h0_52 h0_f53 h0_5 h0_5k tN h0_5c))) (va_Qi (fun (r : Int32) (u : (Int32) × (Int32)) => (RG r 0 9 ∧ RG u.1 1 240 ∧ u.2 = (-1) ∧ RG h0_f9 1 240 ∧ h0_f10.toInt + 1 ≤ (u.1).toInt ∧ (r, u.1, u.2) = fx_c_X12_number h0_f8 h0_f9 h0_f10 h0_5c) ∨ (r = 0 ∧ RG u.1 0 240 ∧ RG u.2 0 240 ∧ h0_f10.toInt + 0 ≤ (u.1).toInt ∧ (r, u.1, u.2) = fx_c_X12_number h0_f8 h0_f9 h0_f10 h0_5c) ∨ (RG r 10 99 ∧ RG u.1 0 239 ∧ RG u.2 0 239 ∧ RG h0_f9 1 240 ∧ (r, u.1, u.2) = fx_c_X12_number h0_f8 h0_f9 h0_f10 h0_5c)) (fun (u : (Int32) × (Int32)) t => va_P (dC, dI) vwCl (wd_c_X12_number h0 h0_f0 h0_1 h0_2 h0_3 h0_4 h0_5 h0_f6 h0_f7 h0_f8 h0_f9 (u.1) (u.2) h0_f12 h0_f13 h0_f14 h0_15 h0_16 h0_f17 h0_18 h0_19 h0_20 h0_21 h0_22 h0_23 h0_24 h0_25 h0_f26 h0_f27 h0_f28 h0_f29 h0_f30 h0_f31 h0_32 h0_33 h0_f34 h0_35 h0_36 h0_37 h0_38 h0_39 h0_40 h0_f41 h0_f42 h0_f43 h0_f44 h0_45 h0_46 h0_47 h0_48 h0_49 h0_50 h0_f51 h0_52 h0_f53 h0_5 h0_5k tN h0_5c) t.heap ∧ va_K (dC, dI) vwCl [] t ∧ va_D (va_A (wd_c_X12_number h0 h0_f0 h0_1 h0_2 h0_3 h0_4 h0_5 h0_f6 h0_f7 h0_f8 h0_f9 h0_f10 (-1) h0_f12 h0_f13 h0_f14 h0_15 h0_16 h0_f17 h0_18 h0_19 h0_20 h0_21 h0_22 h0_23 h0_24 h0_25 h0_f26 h0_f27 h0_f28 h0_f29 h0_f30 h0_f31 h0_32 h0_33 h0_f34 h0_35 h0_36 h0_37 h0_38 h0_39 h0_40 h0_f41 h0_f42 h0_f43 h0_f44 h0_45 h0_46 h0_47 h0_48 h0_49 h0_50 h0_f51 h0_52 h0_f53 h0_5 h0_5k tN h0_5c) sz) (wd_c_X12_number h0 h0_f0 h0_1 h0_2 h0_3 h0_4 h0_5 h0_f6 h0_f7 h0_f8 h0_f9 (u.1) (u.2) h0_f12 h0_f13 h0_f14 h0_15 h0_16 h0_f17 h0_18 h0_19 h0_20 h0_21 h0_22 h0_23 h0_24 h0_25 h0_f26 h0_f27 h0_f28 h0_f29 h0_f30 h0_f31 h0_32 h0_33 h0_f34 h0_35 h0_36 h0_37 h0_38 h0_39 h0_40 h0_f41 h0_f42 h0_f43 h0_f44 h0_45 h0_46 h0_47 h0_48 h0_49 h0_50 h0_f51 h0_52 h0_f53 h0_5 h0_5k tN h0_5c)) (va_A (wd_c_X12_number h0 h0_f0 h0_1 h0_2 h0_3 h0_4 h0_5 h0_f6 h0_f7 h0_f8 h0_f9 h0_f10 (-1) h0_f12 h0_f13 h0_f14 h0_15 h0_16 h0_f17 h0_18 h0_19 h0_20 h0_21 h0_22 h0_23 h0_24 h0_25 h0_f26 h0_f27 h0_f28 h0_f29 h0_f30 h0_f31 h0_32 h0_33 h0_f34 h0_35 h0_36 h0_37 h0_38 h0_39 h0_40 h0_f41 h0_f42 h0_f43 h0_f44 h0_45 h0_46 h0_47 h0_48 h0_49 h0_50 h0_f51 h0_52 h0_f53 h0_5 h0_5k tN h0_5c) sz)) 0 0 (va_A (wd_c_X12_number h0 h0_f0 h0_1 h0_2 h0_3 h0_4 h0_5 h0_f6 h0_f7 h0_f8 h0_f9 h0_f10 (-1) h0_f12 h0_f13 h0_f14 h0_15 h0_16 h0_f17 h0_18 h0_19 h0_20 h0_21 h0_22 h0_23 h0_24 h0_25 h0_f26 h0_f27 h0_f28 h0_f29 h0_f30 h0_f31 h0_32 h0_33 h0_f34 h0_35 h0_36 h0_37 h0_38 h0_39 h0_40 h0_f41 h0_f42 h0_f43 h0_f44 h0_45 h0_46 h0_47 h0_48 h0_49 h0_50 h0_f51 h0_52 h0_f53 h0_5 h0_5k tN h0_5c) sz) := by
  refine Met.ofW (cc := cX12_number) (maxL := 5) (ret := (some .int)) (by decide +kernel) rfl ?_
  intro p e s m args below meth c s₁ B hml hv
  obtain ⟨rfl, hsz, hP, hK, hD0⟩ := hv
  have hx := B.exec
  have hb := B.bytes
  have hr := B.returns
  have hts := atoms_spec (ws := wf_c_X12_number) B.pre
  have hown : s.vm.findClass RX12 = some m.cls := findClass_of_methodNamed B.named
  have hlocks := B.notSynchronized
  subst hsz
  have hD := hD0.self (sz := s.heap.size)
  generalize hAe : va_A (wd_c_X12_number h0 h0_f0 h0_1 h0_2 h0_3 h0_4 h0_5 h0_f6 h0_f7 h0_f8 h0_f9 h0_f10 (-1) h0_f12 h0_f13 h0_f14 h0_15 h0_16 h0_f17 h0_18 h0_19 h0_20 h0_21 h0_22 h0_23 h0_24 h0_25 h0_f26 h0_f27 h0_f28 h0_f29 h0_f30 h0_f31 h0_32 h0_33 h0_f34 h0_35 h0_36 h0_37 h0_38 h0_39 h0_40 h0_f41 h0_f42 h0_f43 h0_f44 h0_45 h0_46 h0_47 h0_48 h0_49 h0_50 h0_f51 h0_52 h0_f53 h0_5 h0_5k tN h0_5c) s.heap.size = A at hD ⊢
  have hA : ∀ q : Nat, s.heap.size ≤ q → A q := fun q h => by rw [← hAe]; exact Or.inr h
  have hP : va_P (dC, dI) vwCl (wd_c_X12_number h0 h0_f0 h0_1 h0_2 h0_3 h0_4 h0_5 h0_f6 h0_f7 h0_f8 h0_f9 h0_f10 (-1) h0_f12 h0_f13 h0_f14 h0_15 h0_16 h0_f17 h0_18 h0_19 h0_20 h0_21 h0_22 h0_23 h0_24 h0_25 h0_f26 h0_f27 h0_f28 h0_f29 h0_f30 h0_f31 h0_32 h0_33 h0_f34 h0_35 h0_36 h0_37 h0_38 h0_39 h0_40 h0_f41 h0_f42 h0_f43 h0_f44 h0_45 h0_46 h0_47 h0_48 h0_49 h0_50 h0_f51 h0_52 h0_f53 h0_5 h0_5k tN h0_5c) s.heap := hP
  have hl := lv_entry ([.ref h0, .int 0, .int 9]) (n := 5) (Nat.le_of_ble_eq_true rfl)
  rw [lg_entry_eq]
  generalize (lg_sl ([.ref h0, .int 0, .int 9]) ++ List.replicate (5 - (lg_sl ([.ref h0, .int 0, .int 9])).length) Slot.unset).toArray = ls at hl ⊢
  have hl : lv_has ls 5 [(0, .ref h0), (1, .int 0), (2, .int 9)] := hl
  obtain ⟨H, hHe⟩ : ∃ H : Heap, s.heap = H := ⟨_, rfl⟩
  have hS : va_S A s.heap H [] := by rw [hHe]; exact va_S.rf
  have hP : va_P (dC, dI) vwCl (wd_c_X12_number h0 h0_f0 h0_1 h0_2 h0_3 h0_4 h0_5 h0_f6 h0_f7 h0_f8 h0_f9 h0_f10 (-1) h0_f12 h0_f13 h0_f14 h0_15 h0_16 h0_f17 h0_18 h0_19 h0_20 h0_21 h0_22 h0_23 h0_24 h0_25 h0_f26 h0_f27 h0_f28 h0_f29 h0_f30 h0_f31 h0_32 h0_33 h0_f34 h0_35 h0_36 h0_37 h0_38 h0_39 h0_40 h0_f41 h0_f42 h0_f43 h0_f44 h0_45 h0_46 h0_47 h0_48 h0_49 h0_50 h0_f51 h0_52 h0_f53 h0_5 h0_5k tN h0_5c) H := by rw [← hHe]; exact hP
  rw [hHe]
  obtain ⟨RES, hR⟩ : ∃ z, fx_c_X12_number h0_f8 h0_f9 h0_f10 h0_5c = z := ⟨_, rfl⟩
  have hEX : RES = fx_c_X12_number h0_f8 h0_f9 h0_f10 h0_5c := hR.symm
  refine wj (fun G hG hU => ?_)
  as_aux_lemma =>
  have J67 : ∀ (j67_l4 : Int32) (j67_h0_f10 : Int32) (g_h0_f10 : RG h0_f10 0 240) (g_h0_f17 : RG h0_f17 0 1) (g_h0_f26 : RG h0_f26 0 8) (g_h0_f27 : RG h0_f27 0 3) (g_h0_f28 : RG h0_f28 0 8) (g_h0_f29 : RG h0_f29 0 3) (g_h0_f30 : RG h0_f30 0 4) (g_h0_f31 : RG h0_f31 0 1) (g_h0_f34 : RG h0_f34 (-1) 3) (g_h0_f41 : RG h0_f41 0 40) (g_h0_f51 : RG h0_f51 0 10) (g_h0_f53 : RG h0_f53 0 1) (g_h0_f6 : RG h0_f6 0 240) (g_h0_f7 : RG h0_f7 0 4) (g_h0_f8 : RG h0_f8 0 720) (g_h0_f9 : RG h0_f9 1 240) (g_j67_h0_f10 : RG j67_h0_f10 1 240) (g_j67_l4 : RG j67_l4 0 99) (r_h0_f10_j67_h0_f10 : h0_f10.toInt + 1 ≤ j67_h0_f10.toInt) (hEX : RES = fx_c_X12_number_p67 h0_f8 h0_f9 h0_5c j67_l4 j67_h0_f10) (H : Heap) (locs : List Loc) (ls : Array Slot) (hP : va_P (dC, dI) vwCl (wd_c_X12_number h0 h0_f0 h0_1 h0_2 h0_3 h0_4 h0_5 h0_f6 h0_f7 h0_f8 h0_f9 j67_h0_f10 (-1) h0_f12 h0_f13 h0_f14 h0_15 h0_16 h0_f17 h0_18 h0_19 h0_20 h0_21 h0_22 h0_23 h0_24 h0_25 h0_f26 h0_f27 h0_f28 h0_f29 h0_f30 h0_f31 h0_32 h0_33 h0_f34 h0_35 h0_36 h0_37 h0_38 h0_39 h0_40 h0_f41 h0_f42 h0_f43 h0_f44 h0_45 h0_46 h0_47 h0_48 h0_49 h0_50 h0_f51 h0_52 h0_f53 h0_5 h0_5k tN h0_5c) H) (hD : va_D A (wd_c_X12_number h0 h0_f0 h0_1 h0_2 h0_3 h0_4 h0_5 h0_f6 h0_f7 h0_f8 h0_f9 j67_h0_f10 (-1) h0_f12 h0_f13 h0_f14 h0_15 h0_16 h0_f17 h0_18 h0_19 h0_20 h0_21 h0_22 h0_23 h0_24 h0_25 h0_f26 h0_f27 h0_f28 h0_f29 h0_f30 h0_f31 h0_32 h0_33 h0_f34 h0_35 h0_36 h0_37 h0_38 h0_39 h0_40 h0_f41 h0_f42 h0_f43 h0_f44 h0_45 h0_46 h0_47 h0_48 h0_49 h0_50 h0_f51 h0_52 h0_f53 h0_5 h0_5k tN h0_5c)) (hS : va_S A s.heap H locs) (hl : lv_has ls 5 [(4, .int j67_l4), (0, .ref h0), (1, .int 0), (2, .int 9)]), G H locs (F0 m 67 ls []) := by
    as_aux_lemma =>
    intro j67_l4 j67_h0_f10 g_h0_f10 g_h0_f17 g_h0_f26 g_h0_f27 g_h0_f28 g_h0_f29 g_h0_f30 g_h0_f31 g_h0_f34 g_h0_f41 g_h0_f51 g_h0_f53 g_h0_f6 g_h0_f7 g_h0_f8 g_h0_f9 g_j67_h0_f10 g_j67_l4 r_h0_f10_j67_h0_f10 hEX H locs ls hP hD hS hl
    refine hG _ _ _ ?_
    refine lv_aload_n hx hb dX12_number_67 rfl (lv_at hl 1 rfl) ?_
    obtain ⟨hPc, hDc, hFc, hqc⟩ := cl_cut (wc := (wd_c_X12_isDigit h0 h0_f0 h0_1 h0_2 h0_3 h0_4 h0_5 h0_f6 h0_f7 h0_f8 h0_f9 j67_h0_f10 (-1) h0_f12 h0_f13 h0_f14 h0_15 h0_16 h0_f17 h0_18 h0_19 h0_20 h0_21 h0_22 h0_23 h0_24 h0_25 h0_f26 h0_f27 h0_f28 h0_f29 h0_f30 h0_f31 h0_32 h0_33 h0_f34 h0_35 h0_36 h0_37 h0_38 h0_39 h0_40 h0_f41 h0_f42 h0_f43 h0_f44 h0_45 h0_46 h0_47 h0_48 h0_49 h0_50 h0_f51 h0_52 h0_f53 h0_5 h0_5k tN h0_5c)) hP hD hS hA [0, 1] (by decide +kernel) rfl
    have hKc := hK.sub (tys' := [(h0_5k, .byte)]) [0] rfl
    have hrv := va_recv hKc hPc (ci := 12) (q0 := 0) rfl rfl
    refine va_calli (va_runV (As := []) (rest := []) ⟨hx, hb, hml, hown, hts⟩ (c_X12_isDigit l dC dI H.size h0 h0_f0 h0_1 h0_2 h0_3 h0_4 h0_5 h0_f6 h0_f7 h0_f8 h0_f9 j67_h0_f10 h0_f12 h0_f13 h0_f14 h0_15 h0_16 h0_f17 h0_18 h0_19 h0_20 h0_21 h0_22 h0_23 h0_24 h0_25 h0_f26 h0_f27 h0_f28 h0_f29 h0_f30 h0_f31 h0_32 h0_33 h0_f34 h0_35 h0_36 h0_37 h0_38 h0_39 h0_40 h0_f41 h0_f42 h0_f43 h0_f44 h0_45 h0_46 h0_47 h0_48 h0_49 h0_50 h0_f51 h0_52 h0_f53 h0_5k h0_5c tN g_h0_f6 g_h0_f7 g_h0_f8 (RG_w g_h0_f9 (by decide +kernel)) (RG_w g_j67_h0_f10 (by decide +kernel)) g_h0_f17 g_h0_f26 g_h0_f27 g_h0_f28 g_h0_f29 g_h0_f30 g_h0_f31 g_h0_f34 g_h0_f41 g_h0_f51 g_h0_f53 htN) (cwV 0 hts gf_c_X12_number_c_X12_isDigit rfl rfl rfl mdV_X12_isDigit ⟨Nat.le_of_ble_eq_true rfl, Nat.le_of_ble_eq_true rfl⟩) ⟨fun a U g mk q => by obtain ⟨q0, q1, qP, qK, qD⟩ := q; exact ⟨q0, q1, qP, va_K.moved (u := U) (U := U.calling g mk a) (Vm.Alike.refl U.vm) qK, qD⟩, hrv, fun U hU hW => ⟨rfl, by rw [hU], by rw [hU]; exact hPc, va_K.moved hW.alike hKc, hDc.weaken (fun _ _ _ _ => trivial)⟩⟩ rfl rfl hl.1 rfl (lv_room (Nat.le_of_ble_eq_true rfl)) dX12_number_68 ⟨Nat.le_of_ble_eq_true rfl, Nat.le_of_ble_eq_true rfl⟩) hS (fun q _ h => hFc q h) hFc (fun r_1 u t H1 locs ht hvm hw hB hz1 hk1 hS => ?_)
    obtain ⟨hP1, hK1, hD1⟩ := hB
    rw [ht] at hP1
    obtain ⟨hP, hD⟩ := cl_put (w1 := (wd_c_X12_isDigit h0 h0_f0 h0_1 h0_2 h0_3 h0_4 h0_5 h0_f6 h0_f7 h0_f8 h0_f9 j67_h0_f10 (-1) h0_f12 h0_f13 h0_f14 h0_15 h0_16 h0_f17 h0_18 h0_19 h0_20 h0_21 h0_22 h0_23 h0_24 h0_25 h0_f26 h0_f27 h0_f28 h0_f29 h0_f30 h0_f31 h0_32 h0_33 h0_f34 h0_35 h0_36 h0_37 h0_38 h0_39 h0_40 h0_f41 h0_f42 h0_f43 h0_f44 h0_45 h0_46 h0_47 h0_48 h0_49 h0_50 h0_f51 h0_52 h0_f53 h0_5 h0_5k tN h0_5c)) (nw := (wd_c_X12_number h0 h0_f0 h0_1 h0_2 h0_3 h0_4 h0_5 h0_f6 h0_f7 h0_f8 h0_f9 j67_h0_f10 (-1) h0_f12 h0_f13 h0_f14 h0_15 h0_16 h0_f17 h0_18 h0_19 h0_20 h0_21 h0_22 h0_23 h0_24 h0_25 h0_f26 h0_f27 h0_f28 h0_f29 h0_f30 h0_f31 h0_32 h0_33 h0_f34 h0_35 h0_36 h0_37 h0_38 h0_39 h0_40 h0_f41 h0_f42 h0_f43 h0_f44 h0_45 h0_46 h0_47 h0_48 h0_49 h0_50 h0_f51 h0_52 h0_f53 h0_5 h0_5k tN h0_5c)) hP hD [0, 1] [2, 3] 2 rfl hqc (by decide +kernel) rfl hk1 hFc hP1 hD1
    generalize H1 = H at hP hS ⊢
    as_aux_lemma =>
    rcases hw with ⟨h_2, h_3, h_4⟩ | ⟨h_5, h_6, h_7, h_8, h_9, h_10⟩
    · have h_4 : r_1 = _ := h_4
      replace hEX := hEX.trans (exc1_eq h_4)
      replace hEX := hEX.trans (if_pos (show r_1 = 0 from h_2))
      rw [h_2]
      refine lv_if_eq (tgt := 81) hx hb dX12_number_71 rfl (fun c_11 => ?_) (fun c_11 => absurd c_11 (by decide +kernel))
      refine lv_iload hx hb dX12_number_81 (lv_at hl 0 rfl) ?_
      refine lv_i2l (v := j67_l4.toInt64) hx hb dX12_number_83 rfl ?_
      refine lv_topl (fun x_12 ex_12 => ?_)
      replace hEX := hEX.trans (exl_eq ex_12)
      have g_13 : LG x_12 0 99 := LG_i2l ex_12 g_j67_l4
      refine lv_iload_n hx hb dX12_number_84 rfl (lv_at hl 2 rfl) ?_
      refine lv_i2l (v := 0) hx hb dX12_number_85 (by decide +kernel) ?_
      refine lv_iload_n hx hb dX12_number_86 rfl (lv_at hl 3 rfl) ?_
      as_aux_lemma =>
      refine lv_i2l (v := 9) hx hb dX12_number_87 (by decide +kernel) ?_
      obtain ⟨hPc, hDc, hFc, hqc⟩ := cl_cut (wc := []) hP hD hS hA [] (by decide +kernel) rfl
      have hKc := hK.sub (tys' := []) [] rfl
      refine va_calli (va_runS (As := [.long x_12, .long 0, .long 9]) (rest := []) ⟨hx, hb, hml, hown, hts⟩ (c_X12_isIn_1 l dC dI H.size x_12 g_13) (va_cwS 3 hts gf_c_X12_number_c_X12_isIn_1 rfl rfl rfl md_X12_isIn ⟨Nat.le_of_ble_eq_true rfl, Nat.le_of_ble_eq_true rfl⟩) ⟨fun a U g mk q => by obtain ⟨q0, q1, qP, qK, qD⟩ := q; exact ⟨q0, q1, qP, va_K.moved (u := U) (U := U.calling g mk a) (Vm.Alike.refl U.vm) qK, qD⟩, fun U hU hW => ⟨rfl, by rw [hU], by rw [hU]; exact hPc, va_K.moved hW.alike hKc, hDc.weaken (fun _ _ _ _ => trivial)⟩⟩ rfl rfl hl.1 rfl (lv_room (Nat.le_of_ble_eq_true rfl)) dX12_number_88 ⟨Nat.le_of_ble_eq_true rfl, Nat.le_of_ble_eq_true rfl⟩) hS (fun q _ h => hFc q h) hFc (fun r_14 u t H1 locs ht hvm hw hB hz1 hk1 hS => ?_)
      obtain ⟨hP1, hK1, hD1⟩ := hB
      rw [ht] at hP1
      have hP := bv_still hP hk1
      generalize H1 = H at hP hS ⊢
      as_aux_lemma =>
      rcases hw with ⟨h_15, h_16, h_17⟩ | ⟨h_18, h_19, h_20⟩
      · have h_17 : r_14 = _ := h_17
        replace hEX := hEX.trans (exc1_eq h_17)
        replace hEX := hEX.trans (if_pos (show r_14 = 0 from h_15))
        rw [h_15]
        have g_21 : RG j67_l4 10 99 := RG_of_LG g_j67_l4 h_16 ex_12 (by decide +kernel)
        refine lv_if_ne (tgt := 109) hx hb dX12_number_91 rfl (fun c_22 => absurd c_22 (by decide +kernel)) (fun c_22 => ?_)
        refine lv_aload_n hx hb dX12_number_94 rfl (lv_at hl 1 rfl) ?_
        refine lv_dup hx hb dX12_number_95 rfl ?_
        refine va_get (D := (dC, dI)) (ci := 12) (v := .int j67_h0_f10) (C := RX12) (T := TX12) (N := 54) hx hb hts iw_c_X12_number_X12 hown hK hP 0 rfl rfl 10 (by decide +kernel) (hts (.fieldLink RX12 134 "BuoyVoteModel" "at" "I") (List.mem_of_getElem? (i := 6) rfl)) (fun _ h9 => h9) rfl dX12_number_96 ?_
        refine lv_iconst (v := 1) hx hb dX12_number_99 kc_iconst_1 ?_
        refine lv_isub hx hb dX12_number_100 ?_
        refine lv_topi (fun x_23 ex_23 => ?_)
        replace hEX := hEX.trans (exl_eq ex_23)
        have g_24 : RG x_23 0 239 := RG_sub ex_23 g_j67_h0_f10 (RG_k 1 1 rfl) (by decide +kernel)
        refine va_put (D := (dC, dI)) (ci := 12) (v := .int x_23) (ty := .int) (C := RX12) (T := TX12) (N := 54) hx hb hts iw_c_X12_number_X12 tyX12 tyX12_ok nmX12 hown hK hP hD hS 0 rfl rfl 10 (by decide +kernel) (hts (.fieldLink RX12 134 "BuoyVoteModel" "at" "I") (List.mem_of_getElem? (i := 6) rfl)) (fun _ h9 => h9) rfl (by decide +kernel) rfl rfl (Nat.le_of_ble_eq_true rfl) dX12_number_101 (fun H locs hP hD hS => ?_)
        as_aux_lemma =>
        have hP : va_P (dC, dI) vwCl (wd_c_X12_number h0 h0_f0 h0_1 h0_2 h0_3 h0_4 h0_5 h0_f6 h0_f7 h0_f8 h0_f9 x_23 (-1) h0_f12 h0_f13 h0_f14 h0_15 h0_16 h0_f17 h0_18 h0_19 h0_20 h0_21 h0_22 h0_23 h0_24 h0_25 h0_f26 h0_f27 h0_f28 h0_f29 h0_f30 h0_f31 h0_32 h0_33 h0_f34 h0_35 h0_36 h0_37 h0_38 h0_39 h0_40 h0_f41 h0_f42 h0_f43 h0_f44 h0_45 h0_46 h0_47 h0_48 h0_49 h0_50 h0_f51 h0_52 h0_f53 h0_5 h0_5k tN h0_5c) H := hP
        have hD : va_D A (wd_c_X12_number h0 h0_f0 h0_1 h0_2 h0_3 h0_4 h0_5 h0_f6 h0_f7 h0_f8 h0_f9 x_23 (-1) h0_f12 h0_f13 h0_f14 h0_15 h0_16 h0_f17 h0_18 h0_19 h0_20 h0_21 h0_22 h0_23 h0_24 h0_25 h0_f26 h0_f27 h0_f28 h0_f29 h0_f30 h0_f31 h0_32 h0_33 h0_f34 h0_35 h0_36 h0_37 h0_38 h0_39 h0_40 h0_f41 h0_f42 h0_f43 h0_f44 h0_45 h0_46 h0_47 h0_48 h0_49 h0_50 h0_f51 h0_52 h0_f53 h0_5 h0_5k tN h0_5c) := hD
        refine lv_aload_n hx hb dX12_number_104 rfl (lv_at hl 1 rfl) ?_
        obtain ⟨hPc, hDc, hFc, hqc⟩ := cl_cut (wc := (wd_c_X12_fails h0 h0_f0 h0_1 h0_2 h0_3 h0_4 h0_5 h0_f6 h0_f7 h0_f8 h0_f9 x_23 (-1) h0_f12 h0_f13 h0_f14 h0_15 h0_16 h0_f17 h0_18 h0_19 h0_20 h0_21 h0_22 h0_23 h0_24 h0_25 h0_f26 h0_f27 h0_f28 h0_f29 h0_f30 h0_f31 h0_32 h0_33 h0_f34 h0_35 h0_36 h0_37 h0_38 h0_39 h0_40 h0_f41 h0_f42 h0_f43 h0_f44 h0_45 h0_46 h0_47 h0_48 h0_49 h0_50 h0_f51 h0_52 h0_f53)) hP hD hS hA [0] (by decide +kernel) rfl
        have hKc := hK.sub (tys' := []) [] rfl
        have hrv := va_recv hKc hPc (ci := 12) (q0 := 0) rfl rfl
        refine va_calli (va_runV (As := []) (rest := []) ⟨hx, hb, hml, hown, hts⟩ (c_X12_fails l dC dI H.size h0 h0_f0 h0_1 h0_2 h0_3 h0_4 h0_5 h0_f6 h0_f7 h0_f8 h0_f9 x_23 h0_f12 h0_f13 h0_f14 h0_15 h0_16 h0_f17 h0_18 h0_19 h0_20 h0_21 h0_22 h0_23 h0_24 h0_25 h0_f26 h0_f27 h0_f28 h0_f29 h0_f30 h0_f31 h0_32 h0_33 h0_f34 h0_35 h0_36 h0_37 h0_38 h0_39 h0_40 h0_f41 h0_f42 h0_f43 h0_f44 h0_45 h0_46 h0_47 h0_48 h0_49 h0_50 h0_f51 h0_52 h0_f53 g_h0_f6 g_h0_f7 g_h0_f8 (RG_w g_h0_f9 (by decide +kernel)) (RG_w g_24 (by decide +kernel)) g_h0_f17 g_h0_f26 g_h0_f27 g_h0_f28 g_h0_f29 g_h0_f30 g_h0_f31 g_h0_f34 g_h0_f41 g_h0_f51 g_h0_f53) (cwV 0 hts gf_c_X12_number_c_X12_fails rfl rfl rfl mdV_X12_fails ⟨Nat.le_of_ble_eq_true rfl, Nat.le_of_ble_eq_true rfl⟩) ⟨fun a U g mk q => by obtain ⟨q0, q1, qP, qK, qD⟩ := q; exact ⟨q0, q1, qP, va_K.moved (u := U) (U := U.calling g mk a) (Vm.Alike.refl U.vm) qK, qD⟩, hrv, fun U hU hW => ⟨rfl, by rw [hU], by rw [hU]; exact hPc, va_K.moved hW.alike hKc, hDc.weaken (fun _ _ _ _ => trivial)⟩⟩ rfl rfl hl.1 rfl (lv_room (Nat.le_of_ble_eq_true rfl)) dX12_number_105 ⟨Nat.le_of_ble_eq_true rfl, Nat.le_of_ble_eq_true rfl⟩) hS (fun q _ h => hFc q h) hFc (fun r_25 u t H1 locs ht hvm hw hB hz1 hk1 hS => ?_)
        obtain ⟨hP1, hK1, hD1⟩ := hB
        rw [ht] at hP1
        obtain ⟨hP, hD⟩ := cl_put (w1 := (wd_c_X12_fails h0 h0_f0 h0_1 h0_2 h0_3 h0_4 h0_5 h0_f6 h0_f7 h0_f8 h0_f9 x_23 x_23 h0_f12 h0_f13 h0_f14 h0_15 h0_16 h0_f17 h0_18 h0_19 h0_20 h0_21 h0_22 h0_23 h0_24 h0_25 h0_f26 h0_f27 h0_f28 h0_f29 h0_f30 h0_f31 h0_32 h0_33 h0_f34 h0_35 h0_36 h0_37 h0_38 h0_39 h0_40 h0_f41 h0_f42 h0_f43 h0_f44 h0_45 h0_46 h0_47 h0_48 h0_49 h0_50 h0_f51 h0_52 h0_f53)) (nw := (wd_c_X12_number h0 h0_f0 h0_1 h0_2 h0_3 h0_4 h0_5 h0_f6 h0_f7 h0_f8 h0_f9 x_23 x_23 h0_f12 h0_f13 h0_f14 h0_15 h0_16 h0_f17 h0_18 h0_19 h0_20 h0_21 h0_22 h0_23 h0_24 h0_25 h0_f26 h0_f27 h0_f28 h0_f29 h0_f30 h0_f31 h0_32 h0_33 h0_f34 h0_35 h0_36 h0_37 h0_38 h0_39 h0_40 h0_f41 h0_f42 h0_f43 h0_f44 h0_45 h0_46 h0_47 h0_48 h0_49 h0_50 h0_f51 h0_52 h0_f53 h0_5 h0_5k tN h0_5c)) hP hD [0] [2, 1] 2 rfl hqc (by decide +kernel) rfl hk1 hFc hP1 hD1
        generalize H1 = H at hP hS ⊢
        as_aux_lemma =>
        rcases hw with ⟨h_26, h_27⟩
        have h_27 : r_25 = _ := h_27
        replace hEX := hEX.trans (exc1_eq h_27)
        rw [h_26]
        refine lv_pop hx hb dX12_number_108 rfl ?_
        refine lv_iload hx hb dX12_number_109 (lv_at hl 0 rfl) ?_
        have hK9 := hK.sub (tys' := []) [] rfl
        exact W.iret (v := j67_l4) hx hb hr (fun t ht hW => ⟨⟨j67_l4, (x_23, x_23), rfl, (Or.inr (Or.inr ⟨g_21, g_24, g_24, g_h0_f9, (hR.trans hEX).symm⟩)), by rw [ht]; exact hP, va_K.moved hW.alike hK9, hD⟩, hS.F ht⟩) hS.2.2 dX12_number_111
      · have h_20 : r_14 = _ := h_20
        replace hEX := hEX.trans (exc1_eq h_20)
        replace hEX := hEX.trans (if_neg (fun q9 : r_14 = 0 => absurd ((show r_14 = 1 from h_18).symm.trans q9) (by decide +kernel)))
        rw [h_18]
        have g_28 : RG j67_l4 0 9 := RG_of_LG g_j67_l4 h_19 ex_12 (by decide +kernel)
        refine lv_if_ne (tgt := 109) hx hb dX12_number_91 rfl (fun c_29 => ?_) (fun c_29 => absurd c_29 (by decide +kernel))
        refine lv_iload hx hb dX12_number_109 (lv_at hl 0 rfl) ?_
        as_aux_lemma =>
        have hK9 := hK.sub (tys' := []) [] rfl
        exact W.iret (v := j67_l4) hx hb hr (fun t ht hW => ⟨⟨j67_l4, (j67_h0_f10, (-1)), rfl, (Or.inl ⟨g_28, g_j67_h0_f10, rfl, g_h0_f9, (by have := r_h0_f10_j67_h0_f10; show h0_f10.toInt + 1 ≤ j67_h0_f10.toInt; omega), (hR.trans hEX).symm⟩), by rw [ht]; exact hP, va_K.moved hW.alike hK9, hD⟩, hS.F ht⟩) hS.2.2 dX12_number_111
    · have h_10 : r_1 = _ := h_10
      replace hEX := hEX.trans (exc1_eq h_10)
      replace hEX := hEX.trans (if_neg (fun q9 : r_1 = 0 => absurd ((show r_1 = 1 from h_5).symm.trans q9) (by decide +kernel)))
      rw [h_5]
      have g_30 : RG j67_h0_f10 1 239 := RG_eq1 g_j67_h0_f10 h_6 rfl (by decide +kernel)
      have g_31 := h_9 h_5
      refine lv_if_eq (tgt := 81) hx hb dX12_number_71 rfl (fun c_32 => absurd c_32 (by decide +kernel)) (fun c_32 => ?_)
      refine lv_aload_n hx hb dX12_number_74 rfl (lv_at hl 1 rfl) ?_
      obtain ⟨hPc, hDc, hFc, hqc⟩ := cl_cut (wc := (wd_c_X12_fails h0 h0_f0 h0_1 h0_2 h0_3 h0_4 h0_5 h0_f6 h0_f7 h0_f8 h0_f9 j67_h0_f10 (-1) h0_f12 h0_f13 h0_f14 h0_15 h0_16 h0_f17 h0_18 h0_19 h0_20 h0_21 h0_22 h0_23 h0_24 h0_25 h0_f26 h0_f27 h0_f28 h0_f29 h0_f30 h0_f31 h0_32 h0_33 h0_f34 h0_35 h0_36 h0_37 h0_38 h0_39 h0_40 h0_f41 h0_f42 h0_f43 h0_f44 h0_45 h0_46 h0_47 h0_48 h0_49 h0_50 h0_f51 h0_52 h0_f53)) hP hD hS hA [0] (by decide +kernel) rfl
      have hKc := hK.sub (tys' := []) [] rfl
      have hrv := va_recv hKc hPc (ci := 12) (q0 := 0) rfl rfl
      refine va_calli (va_runV (As := []) (rest := []) ⟨hx, hb, hml, hown, hts⟩ (c_X12_fails l dC dI H.size h0 h0_f0 h0_1 h0_2 h0_3 h0_4 h0_5 h0_f6 h0_f7 h0_f8 h0_f9 j67_h0_f10 h0_f12 h0_f13 h0_f14 h0_15 h0_16 h0_f17 h0_18 h0_19 h0_20 h0_21 h0_22 h0_23 h0_24 h0_25 h0_f26 h0_f27 h0_f28 h0_f29 h0_f30 h0_f31 h0_32 h0_33 h0_f34 h0_35 h0_36 h0_37 h0_38 h0_39 h0_40 h0_f41 h0_f42 h0_f43 h0_f44 h0_45 h0_46 h0_47 h0_48 h0_49 h0_50 h0_f51 h0_52 h0_f53 g_h0_f6 g_h0_f7 g_h0_f8 (RG_w g_h0_f9 (by decide +kernel)) (RG_w g_30 (by decide +kernel)) g_h0_f17 g_h0_f26 g_h0_f27 g_h0_f28 g_h0_f29 g_h0_f30 g_h0_f31 g_h0_f34 g_h0_f41 g_h0_f51 g_h0_f53) (cwV 0 hts gf_c_X12_number_c_X12_fails rfl rfl rfl mdV_X12_fails ⟨Nat.le_of_ble_eq_true rfl, Nat.le_of_ble_eq_true rfl⟩) ⟨fun a U g mk q => by obtain ⟨q0, q1, qP, qK, qD⟩ := q; exact ⟨q0, q1, qP, va_K.moved (u := U) (U := U.calling g mk a) (Vm.Alike.refl U.vm) qK, qD⟩, hrv, fun U hU hW => ⟨rfl, by rw [hU], by rw [hU]; exact hPc, va_K.moved hW.alike hKc, hDc.weaken (fun _ _ _ _ => trivial)⟩⟩ rfl rfl hl.1 rfl (lv_room (Nat.le_of_ble_eq_true rfl)) dX12_number_75 ⟨Nat.le_of_ble_eq_true rfl, Nat.le_of_ble_eq_true rfl⟩) hS (fun q _ h => hFc q h) hFc (fun r_33 u t H1 locs ht hvm hw hB hz1 hk1 hS => ?_)
      as_aux_lemma =>
      obtain ⟨hP1, hK1, hD1⟩ := hB
      rw [ht] at hP1
      obtain ⟨hP, hD⟩ := cl_put (w1 := (wd_c_X12_fails h0 h0_f0 h0_1 h0_2 h0_3 h0_4 h0_5 h0_f6 h0_f7 h0_f8 h0_f9 j67_h0_f10 j67_h0_f10 h0_f12 h0_f13 h0_f14 h0_15 h0_16 h0_f17 h0_18 h0_19 h0_20 h0_21 h0_22 h0_23 h0_24 h0_25 h0_f26 h0_f27 h0_f28 h0_f29 h0_f30 h0_f31 h0_32 h0_33 h0_f34 h0_35 h0_36 h0_37 h0_38 h0_39 h0_40 h0_f41 h0_f42 h0_f43 h0_f44 h0_45 h0_46 h0_47 h0_48 h0_49 h0_50 h0_f51 h0_52 h0_f53)) (nw := (wd_c_X12_number h0 h0_f0 h0_1 h0_2 h0_3 h0_4 h0_5 h0_f6 h0_f7 h0_f8 h0_f9 j67_h0_f10 j67_h0_f10 h0_f12 h0_f13 h0_f14 h0_15 h0_16 h0_f17 h0_18 h0_19 h0_20 h0_21 h0_22 h0_23 h0_24 h0_25 h0_f26 h0_f27 h0_f28 h0_f29 h0_f30 h0_f31 h0_32 h0_33 h0_f34 h0_35 h0_36 h0_37 h0_38 h0_39 h0_40 h0_f41 h0_f42 h0_f43 h0_f44 h0_45 h0_46 h0_47 h0_48 h0_49 h0_50 h0_f51 h0_52 h0_f53 h0_5 h0_5k tN h0_5c)) hP hD [0] [2, 1] 2 rfl hqc (by decide +kernel) rfl hk1 hFc hP1 hD1
      generalize H1 = H at hP hS ⊢
      as_aux_lemma =>
      rcases hw with ⟨h_34, h_35⟩
      have h_35 : r_33 = _ := h_35
      replace hEX := hEX.trans (exc1_eq h_35)
      rw [h_34]
      refine lv_pop hx hb dX12_number_78 rfl ?_
      refine lv_iconst (v := 0) hx hb dX12_number_79 kc_iconst_0 ?_
      have hK9 := hK.sub (tys' := []) [] rfl
      exact W.iret (v := 0) hx hb hr (fun t ht hW => ⟨⟨0, (j67_h0_f10, j67_h0_f10), rfl, (Or.inr (Or.inl ⟨rfl, (RG_w g_30 (by decide +kernel)), (RG_w g_30 (by decide +kernel)), (by have := r_h0_f10_j67_h0_f10; show h0_f10.toInt + 0 ≤ j67_h0_f10.toInt; omega), (hR.trans hEX).symm⟩)), by rw [ht]; exact hP, va_K.moved hW.alike hK9, hD⟩, hS.F ht⟩) hS.2.2 dX12_number_80
  refine hG _ _ _ ?_
  refine lv_aload_n hx hb dX12_number_0 rfl (lv_at hl 0 rfl) ?_
  obtain ⟨hPc, hDc, hFc, hqc⟩ := cl_cut (wc := (wd_c_X12_look h0 h0_f0 h0_1 h0_2 h0_3 h0_4 h0_5 h0_f6 h0_f7 h0_f8 h0_f9 h0_f10 (-1) h0_f12 h0_f13 h0_f14 h0_15 h0_16 h0_f17 h0_18 h0_19 h0_20 h0_21 h0_22 h0_23 h0_24 h0_25 h0_f26 h0_f27 h0_f28 h0_f29 h0_f30 h0_f31 h0_32 h0_33 h0_f34 h0_35 h0_36 h0_37 h0_38 h0_39 h0_40 h0_f41 h0_f42 h0_f43 h0_f44 h0_45 h0_46 h0_47 h0_48 h0_49 h0_50 h0_f51 h0_52 h0_f53 h0_5 h0_5k tN h0_5c)) hP hD hS hA [0, 1] (by decide +kernel) rfl
  have hKc := hK.sub (tys' := [(h0_5k, .byte)]) [0] rfl
  have hrv := va_recv hKc hPc (ci := 12) (q0 := 0) rfl rfl
  refine va_calli (va_runV (As := []) (rest := []) ⟨hx, hb, hml, hown, hts⟩ (c_X12_look l dC dI H.size h0 h0_f0 h0_1 h0_2 h0_3 h0_4 h0_5 h0_f6 h0_f7 h0_f8 h0_f9 h0_f10 h0_f12 h0_f13 h0_f14 h0_15 h0_16 h0_f17 h0_18 h0_19 h0_20 h0_21 h0_22 h0_23 h0_24 h0_25 h0_f26 h0_f27 h0_f28 h0_f29 h0_f30 h0_f31 h0_32 h0_33 h0_f34 h0_35 h0_36 h0_37 h0_38 h0_39 h0_40 h0_f41 h0_f42 h0_f43 h0_f44 h0_45 h0_46 h0_47 h0_48 h0_49 h0_50 h0_f51 h0_52 h0_f53 h0_5k h0_5c tN g_h0_f6 g_h0_f7 g_h0_f8 g_h0_f9 g_h0_f10 g_h0_f17 g_h0_f26 g_h0_f27 g_h0_f28 g_h0_f29 g_h0_f30 g_h0_f31 g_h0_f34 g_h0_f41 g_h0_f51 g_h0_f53 htN) (cwV 0 hts gf_c_X12_number_c_X12_look rfl rfl rfl mdV_X12_look ⟨Nat.le_of_ble_eq_true rfl, Nat.le_of_ble_eq_true rfl⟩) ⟨fun a U g mk q => by obtain ⟨q0, q1, qP, qK, qD⟩ := q; exact ⟨q0, q1, qP, va_K.moved (u := U) (U := U.calling g mk a) (Vm.Alike.refl U.vm) qK, qD⟩, hrv, fun U hU hW => ⟨rfl, by rw [hU], by rw [hU]; exact hPc, va_K.moved hW.alike hKc, hDc.weaken (fun _ _ _ _ => trivial)⟩⟩ rfl rfl hl.1 rfl (lv_room (Nat.le_of_ble_eq_true rfl)) dX12_number_1 ⟨Nat.le_of_ble_eq_true rfl, Nat.le_of_ble_eq_true rfl⟩) hS (fun q _ h => hFc q h) hFc (fun r_36 x_37 t H1 locs ht hvm hw hB hz1 hk1 hS => ?_)
  as_aux_lemma =>
  obtain ⟨hP1, hK1, hD1⟩ := hB
  rw [ht] at hP1
  obtain ⟨hP, hD⟩ := cl_put (w1 := (wd_c_X12_look h0 h0_f0 h0_1 h0_2 h0_3 h0_4 h0_5 h0_f6 h0_f7 h0_f8 h0_f9 x_37 (-1) h0_f12 h0_f13 h0_f14 h0_15 h0_16 h0_f17 h0_18 h0_19 h0_20 h0_21 h0_22 h0_23 h0_24 h0_25 h0_f26 h0_f27 h0_f28 h0_f29 h0_f30 h0_f31 h0_32 h0_33 h0_f34 h0_35 h0_36 h0_37 h0_38 h0_39 h0_40 h0_f41 h0_f42 h0_f43 h0_f44 h0_45 h0_46 h0_47 h0_48 h0_49 h0_50 h0_f51 h0_52 h0_f53 h0_5 h0_5k tN h0_5c)) (nw := (wd_c_X12_number h0 h0_f0 h0_1 h0_2 h0_3 h0_4 h0_5 h0_f6 h0_f7 h0_f8 h0_f9 x_37 (-1) h0_f12 h0_f13 h0_f14 h0_15 h0_16 h0_f17 h0_18 h0_19 h0_20 h0_21 h0_22 h0_23 h0_24 h0_25 h0_f26 h0_f27 h0_f28 h0_f29 h0_f30 h0_f31 h0_32 h0_33 h0_f34 h0_35 h0_36 h0_37 h0_38 h0_39 h0_40 h0_f41 h0_f42 h0_f43 h0_f44 h0_45 h0_46 h0_47 h0_48 h0_49 h0_50 h0_f51 h0_52 h0_f53 h0_5 h0_5k tN h0_5c)) hP hD [0, 1] [2, 3] 2 rfl hqc (by decide +kernel) rfl hk1 hFc hP1 hD1
  generalize H1 = H at hP hS ⊢
  as_aux_lemma =>
  rcases hw with ⟨h_38, h_39, h_40, h_41, h_42, h_43⟩ | ⟨h_44, h_45, h_46, h_47, h_48, h_49, h_50⟩
  · have h_43 : (r_36, x_37) = _ := h_43
    replace hEX := hEX.trans (exc2_eq h_43)
    replace hEX := hEX.trans (if_pos (show r_36 = (-1) from h_38))
    rw [h_38]
    refine lv_istore_n (lv' := [(3, .int (-1)), (0, .ref h0), (1, .int 0), (2, .int 9)]) hx hb dX12_number_4 rfl hl (Nat.le_of_ble_eq_true rfl) rfl (fun ls hl => ?_)
    refine lv_aload_n hx hb dX12_number_5 rfl (lv_at hl 1 rfl) ?_
    obtain ⟨hPc, hDc, hFc, hqc⟩ := cl_cut (wc := (wd_c_X12_isDigit h0 h0_f0 h0_1 h0_2 h0_3 h0_4 h0_5 h0_f6 h0_f7 h0_f8 h0_f9 x_37 (-1) h0_f12 h0_f13 h0_f14 h0_15 h0_16 h0_f17 h0_18 h0_19 h0_20 h0_21 h0_22 h0_23 h0_24 h0_25 h0_f26 h0_f27 h0_f28 h0_f29 h0_f30 h0_f31 h0_32 h0_33 h0_f34 h0_35 h0_36 h0_37 h0_38 h0_39 h0_40 h0_f41 h0_f42 h0_f43 h0_f44 h0_45 h0_46 h0_47 h0_48 h0_49 h0_50 h0_f51 h0_52 h0_f53 h0_5 h0_5k tN h0_5c)) hP hD hS hA [0, 1] (by decide +kernel) rfl
    have hKc := hK.sub (tys' := [(h0_5k, .byte)]) [0] rfl
    have hrv := va_recv hKc hPc (ci := 12) (q0 := 0) rfl rfl
    refine va_calli (va_runV (As := []) (rest := []) ⟨hx, hb, hml, hown, hts⟩ (c_X12_isDigit l dC dI H.size h0 h0_f0 h0_1 h0_2 h0_3 h0_4 h0_5 h0_f6 h0_f7 h0_f8 h0_f9 x_37 h0_f12 h0_f13 h0_f14 h0_15 h0_16 h0_f17 h0_18 h0_19 h0_20 h0_21 h0_22 h0_23 h0_24 h0_25 h0_f26 h0_f27 h0_f28 h0_f29 h0_f30 h0_f31 h0_32 h0_33 h0_f34 h0_35 h0_36 h0_37 h0_38 h0_39 h0_40 h0_f41 h0_f42 h0_f43 h0_f44 h0_45 h0_46 h0_47 h0_48 h0_49 h0_50 h0_f51 h0_52 h0_f53 h0_5k h0_5c tN g_h0_f6 g_h0_f7 g_h0_f8 g_h0_f9 h_39 g_h0_f17 g_h0_f26 g_h0_f27 g_h0_f28 g_h0_f29 g_h0_f30 g_h0_f31 g_h0_f34 g_h0_f41 g_h0_f51 g_h0_f53 htN) (cwV 0 hts gf_c_X12_number_c_X12_isDigit rfl rfl rfl mdV_X12_isDigit ⟨Nat.le_of_ble_eq_true rfl, Nat.le_of_ble_eq_true rfl⟩) ⟨fun a U g mk q => by obtain ⟨q0, q1, qP, qK, qD⟩ := q; exact ⟨q0, q1, qP, va_K.moved (u := U) (U := U.calling g mk a) (Vm.Alike.refl U.vm) qK, qD⟩, hrv, fun U hU hW => ⟨rfl, by rw [hU], by rw [hU]; exact hPc, va_K.moved hW.alike hKc, hDc.weaken (fun _ _ _ _ => trivial)⟩⟩ rfl rfl hl.1 rfl (lv_room (Nat.le_of_ble_eq_true rfl)) dX12_number_6 ⟨Nat.le_of_ble_eq_true rfl, Nat.le_of_ble_eq_true rfl⟩) hS (fun q _ h => hFc q h) hFc (fun r_51 u t H1 locs ht hvm hw hB hz1 hk1 hS => ?_)
    obtain ⟨hP1, hK1, hD1⟩ := hB
    rw [ht] at hP1
    obtain ⟨hP, hD⟩ := cl_put (w1 := (wd_c_X12_isDigit h0 h0_f0 h0_1 h0_2 h0_3 h0_4 h0_5 h0_f6 h0_f7 h0_f8 h0_f9 x_37 (-1) h0_f12 h0_f13 h0_f14 h0_15 h0_16 h0_f17 h0_18 h0_19 h0_20 h0_21 h0_22 h0_23 h0_24 h0_25 h0_f26 h0_f27 h0_f28 h0_f29 h0_f30 h0_f31 h0_32 h0_33 h0_f34 h0_35 h0_36 h0_37 h0_38 h0_39 h0_40 h0_f41 h0_f42 h0_f43 h0_f44 h0_45 h0_46 h0_47 h0_48 h0_49 h0_50 h0_f51 h0_52 h0_f53 h0_5 h0_5k tN h0_5c)) (nw := (wd_c_X12_number h0 h0_f0 h0_1 h0_2 h0_3 h0_4 h0_5 h0_f6 h0_f7 h0_f8 h0_f9 x_37 (-1) h0_f12 h0_f13 h0_f14 h0_15 h0_16 h0_f17 h0_18 h0_19 h0_20 h0_21 h0_22 h0_23 h0_24 h0_25 h0_f26 h0_f27 h0_f28 h0_f29 h0_f30 h0_f31 h0_32 h0_33 h0_f34 h0_35 h0_36 h0_37 h0_38 h0_39 h0_40 h0_f41 h0_f42 h0_f43 h0_f44 h0_45 h0_46 h0_47 h0_48 h0_49 h0_50 h0_f51 h0_52 h0_f53 h0_5 h0_5k tN h0_5c)) hP hD [0, 1] [2, 3] 2 rfl hqc (by decide +kernel) rfl hk1 hFc hP1 hD1
    generalize H1 = H at hP hS ⊢
    as_aux_lemma =>
    rcases hw with ⟨h_52, h_53, h_54⟩ | ⟨h_55, h_56, h_57, h_58, h_59, h_60⟩
    · have h_54 : r_51 = _ := h_54
      replace hEX := hEX.trans (exc1_eq h_54)
      replace hEX := hEX.trans (if_pos (show r_51 = 0 from h_52))
      rw [h_52]
      refine lv_if_ne (tgt := 19) hx hb dX12_number_9 rfl (fun c_61 => absurd c_61 (by decide +kernel)) (fun c_61 => ?_)
      refine lv_aload_n hx hb dX12_number_12 rfl (lv_at hl 1 rfl) ?_
      obtain ⟨hPc, hDc, hFc, hqc⟩ := cl_cut (wc := (wd_c_X12_fails h0 h0_f0 h0_1 h0_2 h0_3 h0_4 h0_5 h0_f6 h0_f7 h0_f8 h0_f9 x_37 (-1) h0_f12 h0_f13 h0_f14 h0_15 h0_16 h0_f17 h0_18 h0_19 h0_20 h0_21 h0_22 h0_23 h0_24 h0_25 h0_f26 h0_f27 h0_f28 h0_f29 h0_f30 h0_f31 h0_32 h0_33 h0_f34 h0_35 h0_36 h0_37 h0_38 h0_39 h0_40 h0_f41 h0_f42 h0_f43 h0_f44 h0_45 h0_46 h0_47 h0_48 h0_49 h0_50 h0_f51 h0_52 h0_f53)) hP hD hS hA [0] (by decide +kernel) rfl
      have hKc := hK.sub (tys' := []) [] rfl
      have hrv := va_recv hKc hPc (ci := 12) (q0 := 0) rfl rfl
      refine va_calli (va_runV (As := []) (rest := []) ⟨hx, hb, hml, hown, hts⟩ (c_X12_fails l dC dI H.size h0 h0_f0 h0_1 h0_2 h0_3 h0_4 h0_5 h0_f6 h0_f7 h0_f8 h0_f9 x_37 h0_f12 h0_f13 h0_f14 h0_15 h0_16 h0_f17 h0_18 h0_19 h0_20 h0_21 h0_22 h0_23 h0_24 h0_25 h0_f26 h0_f27 h0_f28 h0_f29 h0_f30 h0_f31 h0_32 h0_33 h0_f34 h0_35 h0_36 h0_37 h0_38 h0_39 h0_40 h0_f41 h0_f42 h0_f43 h0_f44 h0_45 h0_46 h0_47 h0_48 h0_49 h0_50 h0_f51 h0_52 h0_f53 g_h0_f6 g_h0_f7 g_h0_f8 g_h0_f9 h_39 g_h0_f17 g_h0_f26 g_h0_f27 g_h0_f28 g_h0_f29 g_h0_f30 g_h0_f31 g_h0_f34 g_h0_f41 g_h0_f51 g_h0_f53) (cwV 0 hts gf_c_X12_number_c_X12_fails rfl rfl rfl mdV_X12_fails ⟨Nat.le_of_ble_eq_true rfl, Nat.le_of_ble_eq_true rfl⟩) ⟨fun a U g mk q => by obtain ⟨q0, q1, qP, qK, qD⟩ := q; exact ⟨q0, q1, qP, va_K.moved (u := U) (U := U.calling g mk a) (Vm.Alike.refl U.vm) qK, qD⟩, hrv, fun U hU hW => ⟨rfl, by rw [hU], by rw [hU]; exact hPc, va_K.moved hW.alike hKc, hDc.weaken (fun _ _ _ _ => trivial)⟩⟩ rfl rfl hl.1 rfl (lv_room (Nat.le_of_ble_eq_true rfl)) dX12_number_13 ⟨Nat.le_of_ble_eq_true rfl, Nat.le_of_ble_eq_true rfl⟩) hS (fun q _ h => hFc q h) hFc (fun r_62 u t H1 locs ht hvm hw hB hz1 hk1 hS => ?_)
      obtain ⟨hP1, hK1, hD1⟩ := hB
      rw [ht] at hP1
      obtain ⟨hP, hD⟩ := cl_put (w1 := (wd_c_X12_fails h0 h0_f0 h0_1 h0_2 h0_3 h0_4 h0_5 h0_f6 h0_f7 h0_f8 h0_f9 x_37 x_37 h0_f12 h0_f13 h0_f14 h0_15 h0_16 h0_f17 h0_18 h0_19 h0_20 h0_21 h0_22 h0_23 h0_24 h0_25 h0_f26 h0_f27 h0_f28 h0_f29 h0_f30 h0_f31 h0_32 h0_33 h0_f34 h0_35 h0_36 h0_37 h0_38 h0_39 h0_40 h0_f41 h0_f42 h0_f43 h0_f44 h0_45 h0_46 h0_47 h0_48 h0_49 h0_50 h0_f51 h0_52 h0_f53)) (nw := (wd_c_X12_number h0 h0_f0 h0_1 h0_2 h0_3 h0_4 h0_5 h0_f6 h0_f7 h0_f8 h0_f9 x_37 x_37 h0_f12 h0_f13 h0_f14 h0_15 h0_16 h0_f17 h0_18 h0_19 h0_20 h0_21 h0_22 h0_23 h0_24 h0_25 h0_f26 h0_f27 h0_f28 h0_f29 h0_f30 h0_f31 h0_32 h0_33 h0_f34 h0_35 h0_36 h0_37 h0_38 h0_39 h0_40 h0_f41 h0_f42 h0_f43 h0_f44 h0_45 h0_46 h0_47 h0_48 h0_49 h0_50 h0_f51 h0_52 h0_f53 h0_5 h0_5k tN h0_5c)) hP hD [0] [2, 1] 2 rfl hqc (by decide +kernel) rfl hk1 hFc hP1 hD1
      generalize H1 = H at hP hS ⊢
      as_aux_lemma =>
      rcases hw with ⟨h_63, h_64⟩
      have h_64 : r_62 = _ := h_64
      replace hEX := hEX.trans (exc1_eq h_64)
      rw [h_63]
      refine lv_pop hx hb dX12_number_16 rfl ?_
      refine lv_iconst (v := 0) hx hb dX12_number_17 kc_iconst_0 ?_
      have hK9 := hK.sub (tys' := []) [] rfl
      exact W.iret (v := 0) hx hb hr (fun t ht hW => ⟨⟨0, (x_37, x_37), rfl, (Or.inr (Or.inl ⟨rfl, h_39, h_39, (by have := h_40; show h0_f10.toInt + 0 ≤ x_37.toInt; omega), (hR.trans hEX).symm⟩)), by rw [ht]; exact hP, va_K.moved hW.alike hK9, hD⟩, hS.F ht⟩) hS.2.2 dX12_number_18
    · have h_60 : r_51 = _ := h_60
      replace hEX := hEX.trans (exc1_eq h_60)
      replace hEX := hEX.trans (if_neg (fun q9 : r_51 = 0 => absurd ((show r_51 = 1 from h_55).symm.trans q9) (by decide +kernel)))
      rw [h_55]
      exfalso
      have := h_58
      have := h_41
      omega
  · have h_50 : (r_36, x_37) = _ := h_50
    replace hEX := hEX.trans (exc2_eq h_50)
    replace hEX := hEX.trans (if_neg (RG_neq (x := r_36) (c := (-1)) (show RG r_36 0 255 from h_44) (by decide +kernel)))
    have nb_65 := h_49.2.resolve_left (fun q => by have g9 := h_44; rw [q] at g9; exact absurd g9.1 (by decide +kernel))
    refine lv_istore_n (lv' := [(3, .int r_36), (0, .ref h0), (1, .int 0), (2, .int 9)]) hx hb dX12_number_4 rfl hl (Nat.le_of_ble_eq_true rfl) rfl (fun ls hl => ?_)
    as_aux_lemma =>
    refine lv_aload_n hx hb dX12_number_5 rfl (lv_at hl 1 rfl) ?_
    obtain ⟨hPc, hDc, hFc, hqc⟩ := cl_cut (wc := (wd_c_X12_isDigit h0 h0_f0 h0_1 h0_2 h0_3 h0_4 h0_5 h0_f6 h0_f7 h0_f8 h0_f9 x_37 (-1) h0_f12 h0_f13 h0_f14 h0_15 h0_16 h0_f17 h0_18 h0_19 h0_20 h0_21 h0_22 h0_23 h0_24 h0_25 h0_f26 h0_f27 h0_f28 h0_f29 h0_f30 h0_f31 h0_32 h0_33 h0_f34 h0_35 h0_36 h0_37 h0_38 h0_39 h0_40 h0_f41 h0_f42 h0_f43 h0_f44 h0_45 h0_46 h0_47 h0_48 h0_49 h0_50 h0_f51 h0_52 h0_f53 h0_5 h0_5k tN h0_5c)) hP hD hS hA [0, 1] (by decide +kernel) rfl
    have hKc := hK.sub (tys' := [(h0_5k, .byte)]) [0] rfl
    have hrv := va_recv hKc hPc (ci := 12) (q0 := 0) rfl rfl
    refine va_calli (va_runV (As := []) (rest := []) ⟨hx, hb, hml, hown, hts⟩ (c_X12_isDigit l dC dI H.size h0 h0_f0 h0_1 h0_2 h0_3 h0_4 h0_5 h0_f6 h0_f7 h0_f8 h0_f9 x_37 h0_f12 h0_f13 h0_f14 h0_15 h0_16 h0_f17 h0_18 h0_19 h0_20 h0_21 h0_22 h0_23 h0_24 h0_25 h0_f26 h0_f27 h0_f28 h0_f29 h0_f30 h0_f31 h0_32 h0_33 h0_f34 h0_35 h0_36 h0_37 h0_38 h0_39 h0_40 h0_f41 h0_f42 h0_f43 h0_f44 h0_45 h0_46 h0_47 h0_48 h0_49 h0_50 h0_f51 h0_52 h0_f53 h0_5k h0_5c tN g_h0_f6 g_h0_f7 g_h0_f8 (RG_w h_46 (by decide +kernel)) (RG_w h_45 (by decide +kernel)) g_h0_f17 g_h0_f26 g_h0_f27 g_h0_f28 g_h0_f29 g_h0_f30 g_h0_f31 g_h0_f34 g_h0_f41 g_h0_f51 g_h0_f53 htN) (cwV 0 hts gf_c_X12_number_c_X12_isDigit rfl rfl rfl mdV_X12_isDigit ⟨Nat.le_of_ble_eq_true rfl, Nat.le_of_ble_eq_true rfl⟩) ⟨fun a U g mk q => by obtain ⟨q0, q1, qP, qK, qD⟩ := q; exact ⟨q0, q1, qP, va_K.moved (u := U) (U := U.calling g mk a) (Vm.Alike.refl U.vm) qK, qD⟩, hrv, fun U hU hW => ⟨rfl, by rw [hU], by rw [hU]; exact hPc, va_K.moved hW.alike hKc, hDc.weaken (fun _ _ _ _ => trivial)⟩⟩ rfl rfl hl.1 rfl (lv_room (Nat.le_of_ble_eq_true rfl)) dX12_number_6 ⟨Nat.le_of_ble_eq_true rfl, Nat.le_of_ble_eq_true rfl⟩) hS (fun q _ h => hFc q h) hFc (fun r_66 u t H1 locs ht hvm hw hB hz1 hk1 hS => ?_)
    obtain ⟨hP1, hK1, hD1⟩ := hB
    rw [ht] at hP1
    obtain ⟨hP, hD⟩ := cl_put (w1 := (wd_c_X12_isDigit h0 h0_f0 h0_1 h0_2 h0_3 h0_4 h0_5 h0_f6 h0_f7 h0_f8 h0_f9 x_37 (-1) h0_f12 h0_f13 h0_f14 h0_15 h0_16 h0_f17 h0_18 h0_19 h0_20 h0_21 h0_22 h0_23 h0_24 h0_25 h0_f26 h0_f27 h0_f28 h0_f29 h0_f30 h0_f31 h0_32 h0_33 h0_f34 h0_35 h0_36 h0_37 h0_38 h0_39 h0_40 h0_f41 h0_f42 h0_f43 h0_f44 h0_45 h0_46 h0_47 h0_48 h0_49 h0_50 h0_f51 h0_52 h0_f53 h0_5 h0_5k tN h0_5c)) (nw := (wd_c_X12_number h0 h0_f0 h0_1 h0_2 h0_3 h0_4 h0_5 h0_f6 h0_f7 h0_f8 h0_f9 x_37 (-1) h0_f12 h0_f13 h0_f14 h0_15 h0_16 h0_f17 h0_18 h0_19 h0_20 h0_21 h0_22 h0_23 h0_24 h0_25 h0_f26 h0_f27 h0_f28 h0_f29 h0_f30 h0_f31 h0_32 h0_33 h0_f34 h0_35 h0_36 h0_37 h0_38 h0_39 h0_40 h0_f41 h0_f42 h0_f43 h0_f44 h0_45 h0_46 h0_47 h0_48 h0_49 h0_50 h0_f51 h0_52 h0_f53 h0_5 h0_5k tN h0_5c)) hP hD [0, 1] [2, 3] 2 rfl hqc (by decide +kernel) rfl hk1 hFc hP1 hD1
    generalize H1 = H at hP hS ⊢
    as_aux_lemma =>
    rcases hw with ⟨h_67, h_68, h_69⟩ | ⟨h_70, h_71, h_72, h_73, h_74, h_75⟩
    · have h_69 : r_66 = _ := h_69
      replace hEX := hEX.trans (exc1_eq h_69)
      replace hEX := hEX.trans (if_pos (show r_66 = 0 from h_67))
      rw [h_67]
      refine lv_if_ne (tgt := 19) hx hb dX12_number_9 rfl (fun c_76 => absurd c_76 (by decide +kernel)) (fun c_76 => ?_)
      refine lv_aload_n hx hb dX12_number_12 rfl (lv_at hl 1 rfl) ?_
      obtain ⟨hPc, hDc, hFc, hqc⟩ := cl_cut (wc := (wd_c_X12_fails h0 h0_f0 h0_1 h0_2 h0_3 h0_4 h0_5 h0_f6 h0_f7 h0_f8 h0_f9 x_37 (-1) h0_f12 h0_f13 h0_f14 h0_15 h0_16 h0_f17 h0_18 h0_19 h0_20 h0_21 h0_22 h0_23 h0_24 h0_25 h0_f26 h0_f27 h0_f28 h0_f29 h0_f30 h0_f31 h0_32 h0_33 h0_f34 h0_35 h0_36 h0_37 h0_38 h0_39 h0_40 h0_f41 h0_f42 h0_f43 h0_f44 h0_45 h0_46 h0_47 h0_48 h0_49 h0_50 h0_f51 h0_52 h0_f53)) hP hD hS hA [0] (by decide +kernel) rfl
      have hKc := hK.sub (tys' := []) [] rfl
      have hrv := va_recv hKc hPc (ci := 12) (q0 := 0) rfl rfl
      refine va_calli (va_runV (As := []) (rest := []) ⟨hx, hb, hml, hown, hts⟩ (c_X12_fails l dC dI H.size h0 h0_f0 h0_1 h0_2 h0_3 h0_4 h0_5 h0_f6 h0_f7 h0_f8 h0_f9 x_37 h0_f12 h0_f13 h0_f14 h0_15 h0_16 h0_f17 h0_18 h0_19 h0_20 h0_21 h0_22 h0_23 h0_24 h0_25 h0_f26 h0_f27 h0_f28 h0_f29 h0_f30 h0_f31 h0_32 h0_33 h0_f34 h0_35 h0_36 h0_37 h0_38 h0_39 h0_40 h0_f41 h0_f42 h0_f43 h0_f44 h0_45 h0_46 h0_47 h0_48 h0_49 h0_50 h0_f51 h0_52 h0_f53 g_h0_f6 g_h0_f7 g_h0_f8 (RG_w h_46 (by decide +kernel)) (RG_w h_45 (by decide +kernel)) g_h0_f17 g_h0_f26 g_h0_f27 g_h0_f28 g_h0_f29 g_h0_f30 g_h0_f31 g_h0_f34 g_h0_f41 g_h0_f51 g_h0_f53) (cwV 0 hts gf_c_X12_number_c_X12_fails rfl rfl rfl mdV_X12_fails ⟨Nat.le_of_ble_eq_true rfl, Nat.le_of_ble_eq_true rfl⟩) ⟨fun a U g mk q => by obtain ⟨q0, q1, qP, qK, qD⟩ := q; exact ⟨q0, q1, qP, va_K.moved (u := U) (U := U.calling g mk a) (Vm.Alike.refl U.vm) qK, qD⟩, hrv, fun U hU hW => ⟨rfl, by rw [hU], by rw [hU]; exact hPc, va_K.moved hW.alike hKc, hDc.weaken (fun _ _ _ _ => trivial)⟩⟩ rfl rfl hl.1 rfl (lv_room (Nat.le_of_ble_eq_true rfl)) dX12_number_13 ⟨Nat.le_of_ble_eq_true rfl, Nat.le_of_ble_eq_true rfl⟩) hS (fun q _ h => hFc q h) hFc (fun r_77 u t H1 locs ht hvm hw hB hz1 hk1 hS => ?_)
      obtain ⟨hP1, hK1, hD1⟩ := hB
      rw [ht] at hP1
      obtain ⟨hP, hD⟩ := cl_put (w1 := (wd_c_X12_fails h0 h0_f0 h0_1 h0_2 h0_3 h0_4 h0_5 h0_f6 h0_f7 h0_f8 h0_f9 x_37 x_37 h0_f12 h0_f13 h0_f14 h0_15 h0_16 h0_f17 h0_18 h0_19 h0_20 h0_21 h0_22 h0_23 h0_24 h0_25 h0_f26 h0_f27 h0_f28 h0_f29 h0_f30 h0_f31 h0_32 h0_33 h0_f34 h0_35 h0_36 h0_37 h0_38 h0_39 h0_40 h0_f41 h0_f42 h0_f43 h0_f44 h0_45 h0_46 h0_47 h0_48 h0_49 h0_50 h0_f51 h0_52 h0_f53)) (nw := (wd_c_X12_number h0 h0_f0 h0_1 h0_2 h0_3 h0_4 h0_5 h0_f6 h0_f7 h0_f8 h0_f9 x_37 x_37 h0_f12 h0_f13 h0_f14 h0_15 h0_16 h0_f17 h0_18 h0_19 h0_20 h0_21 h0_22 h0_23 h0_24 h0_25 h0_f26 h0_f27 h0_f28 h0_f29 h0_f30 h0_f31 h0_32 h0_33 h0_f34 h0_35 h0_36 h0_37 h0_38 h0_39 h0_40 h0_f41 h0_f42 h0_f43 h0_f44 h0_45 h0_46 h0_47 h0_48 h0_49 h0_50 h0_f51 h0_52 h0_f53 h0_5 h0_5k tN h0_5c)) hP hD [0] [2, 1] 2 rfl hqc (by decide +kernel) rfl hk1 hFc hP1 hD1
      generalize H1 = H at hP hS ⊢
      as_aux_lemma =>
      rcases hw with ⟨h_78, h_79⟩
      have h_79 : r_77 = _ := h_79
      replace hEX := hEX.trans (exc1_eq h_79)
      rw [h_78]
      refine lv_pop hx hb dX12_number_16 rfl ?_
      refine lv_iconst (v := 0) hx hb dX12_number_17 kc_iconst_0 ?_
      have hK9 := hK.sub (tys' := []) [] rfl
      exact W.iret (v := 0) hx hb hr (fun t ht hW => ⟨⟨0, (x_37, x_37), rfl, (Or.inr (Or.inl ⟨rfl, (RG_w h_45 (by decide +kernel)), (RG_w h_45 (by decide +kernel)), (by have := h_47; show h0_f10.toInt + 0 ≤ x_37.toInt; omega), (hR.trans hEX).symm⟩)), by rw [ht]; exact hP, va_K.moved hW.alike hK9, hD⟩, hS.F ht⟩) hS.2.2 dX12_number_18
    · have h_75 : r_66 = _ := h_75
      replace hEX := hEX.trans (exc1_eq h_75)
      replace hEX := hEX.trans (if_neg (fun q9 : r_66 = 0 => absurd ((show r_66 = 1 from h_70).symm.trans q9) (by decide +kernel)))
      rw [h_70]
      have g_80 := h_74 h_70
      have g_81 : RG r_36 48 57 := RG_dig h_49.1 g_80 trivial h_44 (by decide +kernel)
      refine lv_if_ne (tgt := 19) hx hb dX12_number_9 rfl (fun c_82 => ?_) (fun c_82 => absurd c_82 (by decide +kernel))
      refine lv_iload_n hx hb dX12_number_19 rfl (lv_at hl 0 rfl) ?_
      as_aux_lemma =>
      refine lv_bipush (v := 48) hx hb dX12_number_20 kc_bipush_48 ?_
      refine lv_isub hx hb dX12_number_22 ?_
      refine lv_topi (fun x_83 ex_83 => ?_)
      replace hEX := hEX.trans (exl_eq ex_83)
      have g_84 : RG x_83 0 9 := RG_sub ex_83 g_81 (RG_k 48 48 rfl) (by decide +kernel)
      refine lv_istore (lv' := [(4, .int x_83), (3, .int r_36), (0, .ref h0), (1, .int 0), (2, .int 9)]) hx hb dX12_number_23 hl (Nat.le_of_ble_eq_true rfl) rfl (fun ls hl => ?_)
      refine lv_aload_n hx hb dX12_number_25 rfl (lv_at hl 2 rfl) ?_
      refine lv_dup hx hb dX12_number_26 rfl ?_
      refine va_get (D := (dC, dI)) (ci := 12) (v := .int x_37) (C := RX12) (T := TX12) (N := 54) hx hb hts iw_c_X12_number_X12 hown hK hP 0 rfl rfl 10 (by decide +kernel) (hts (.fieldLink RX12 134 "BuoyVoteModel" "at" "I") (List.mem_of_getElem? (i := 6) rfl)) (fun _ h9 => h9) rfl dX12_number_27 ?_
      refine lv_iconst (v := 1) hx hb dX12_number_30 kc_iconst_1 ?_
      refine lv_iadd hx hb dX12_number_31 ?_
      refine lv_topi (fun x_85 ex_85 => ?_)
      replace hEX := hEX.trans (exl_eq ex_85)
      have g_86 : RG x_85 1 240 := RG_add ex_85 h_45 (RG_k 1 1 rfl) (by decide +kernel)
      have q_87 : x_85.toInt = x_37.toInt + 1 := eq_add ex_85 h_45 (q := 1) rfl (by decide +kernel)
      refine va_put (D := (dC, dI)) (ci := 12) (v := .int x_85) (ty := .int) (C := RX12) (T := TX12) (N := 54) hx hb hts iw_c_X12_number_X12 tyX12 tyX12_ok nmX12 hown hK hP hD hS 0 rfl rfl 10 (by decide +kernel) (hts (.fieldLink RX12 134 "BuoyVoteModel" "at" "I") (List.mem_of_getElem? (i := 6) rfl)) (fun _ h9 => h9) rfl (by decide +kernel) rfl rfl (Nat.le_of_ble_eq_true rfl) dX12_number_32 (fun H locs hP hD hS => ?_)
      as_aux_lemma =>
      have hP : va_P (dC, dI) vwCl (wd_c_X12_number h0 h0_f0 h0_1 h0_2 h0_3 h0_4 h0_5 h0_f6 h0_f7 h0_f8 h0_f9 x_85 (-1) h0_f12 h0_f13 h0_f14 h0_15 h0_16 h0_f17 h0_18 h0_19 h0_20 h0_21 h0_22 h0_23 h0_24 h0_25 h0_f26 h0_f27 h0_f28 h0_f29 h0_f30 h0_f31 h0_32 h0_33 h0_f34 h0_35 h0_36 h0_37 h0_38 h0_39 h0_40 h0_f41 h0_f42 h0_f43 h0_f44 h0_45 h0_46 h0_47 h0_48 h0_49 h0_50 h0_f51 h0_52 h0_f53 h0_5 h0_5k tN h0_5c) H := hP
      have hD : va_D A (wd_c_X12_number h0 h0_f0 h0_1 h0_2 h0_3 h0_4 h0_5 h0_f6 h0_f7 h0_f8 h0_f9 x_85 (-1) h0_f12 h0_f13 h0_f14 h0_15 h0_16 h0_f17 h0_18 h0_19 h0_20 h0_21 h0_22 h0_23 h0_24 h0_25 h0_f26 h0_f27 h0_f28 h0_f29 h0_f30 h0_f31 h0_32 h0_33 h0_f34 h0_35 h0_36 h0_37 h0_38 h0_39 h0_40 h0_f41 h0_f42 h0_f43 h0_f44 h0_45 h0_46 h0_47 h0_48 h0_49 h0_50 h0_f51 h0_52 h0_f53 h0_5 h0_5k tN h0_5c) := hD
      refine lv_aload_n hx hb dX12_number_35 rfl (lv_at hl 2 rfl) ?_
      obtain ⟨hPc, hDc, hFc, hqc⟩ := cl_cut (wc := (wd_c_X12_isDigit h0 h0_f0 h0_1 h0_2 h0_3 h0_4 h0_5 h0_f6 h0_f7 h0_f8 h0_f9 x_85 (-1) h0_f12 h0_f13 h0_f14 h0_15 h0_16 h0_f17 h0_18 h0_19 h0_20 h0_21 h0_22 h0_23 h0_24 h0_25 h0_f26 h0_f27 h0_f28 h0_f29 h0_f30 h0_f31 h0_32 h0_33 h0_f34 h0_35 h0_36 h0_37 h0_38 h0_39 h0_40 h0_f41 h0_f42 h0_f43 h0_f44 h0_45 h0_46 h0_47 h0_48 h0_49 h0_50 h0_f51 h0_52 h0_f53 h0_5 h0_5k tN h0_5c)) hP hD hS hA [0, 1] (by decide +kernel) rfl
      have hKc := hK.sub (tys' := [(h0_5k, .byte)]) [0] rfl
      have hrv := va_recv hKc hPc (ci := 12) (q0 := 0) rfl rfl
      refine va_calli (va_runV (As := []) (rest := []) ⟨hx, hb, hml, hown, hts⟩ (c_X12_isDigit l dC dI H.size h0 h0_f0 h0_1 h0_2 h0_3 h0_4 h0_5 h0_f6 h0_f7 h0_f8 h0_f9 x_85 h0_f12 h0_f13 h0_f14 h0_15 h0_16 h0_f17 h0_18 h0_19 h0_20 h0_21 h0_22 h0_23 h0_24 h0_25 h0_f26 h0_f27 h0_f28 h0_f29 h0_f30 h0_f31 h0_32 h0_33 h0_f34 h0_35 h0_36 h0_37 h0_38 h0_39 h0_40 h0_f41 h0_f42 h0_f43 h0_f44 h0_45 h0_46 h0_47 h0_48 h0_49 h0_50 h0_f51 h0_52 h0_f53 h0_5k h0_5c tN g_h0_f6 g_h0_f7 g_h0_f8 (RG_w h_46 (by decide +kernel)) (RG_w g_86 (by decide +kernel)) g_h0_f17 g_h0_f26 g_h0_f27 g_h0_f28 g_h0_f29 g_h0_f30 g_h0_f31 g_h0_f34 g_h0_f41 g_h0_f51 g_h0_f53 htN) (cwV 0 hts gf_c_X12_number_c_X12_isDigit rfl rfl rfl mdV_X12_isDigit ⟨Nat.le_of_ble_eq_true rfl, Nat.le_of_ble_eq_true rfl⟩) ⟨fun a U g mk q => by obtain ⟨q0, q1, qP, qK, qD⟩ := q; exact ⟨q0, q1, qP, va_K.moved (u := U) (U := U.calling g mk a) (Vm.Alike.refl U.vm) qK, qD⟩, hrv, fun U hU hW => ⟨rfl, by rw [hU], by rw [hU]; exact hPc, va_K.moved hW.alike hKc, hDc.weaken (fun _ _ _ _ => trivial)⟩⟩ rfl rfl hl.1 rfl (lv_room (Nat.le_of_ble_eq_true rfl)) dX12_number_36 ⟨Nat.le_of_ble_eq_true rfl, Nat.le_of_ble_eq_true rfl⟩) hS (fun q _ h => hFc q h) hFc (fun r_88 u t H1 locs ht hvm hw hB hz1 hk1 hS => ?_)
      obtain ⟨hP1, hK1, hD1⟩ := hB
      rw [ht] at hP1
      obtain ⟨hP, hD⟩ := cl_put (w1 := (wd_c_X12_isDigit h0 h0_f0 h0_1 h0_2 h0_3 h0_4 h0_5 h0_f6 h0_f7 h0_f8 h0_f9 x_85 (-1) h0_f12 h0_f13 h0_f14 h0_15 h0_16 h0_f17 h0_18 h0_19 h0_20 h0_21 h0_22 h0_23 h0_24 h0_25 h0_f26 h0_f27 h0_f28 h0_f29 h0_f30 h0_f31 h0_32 h0_33 h0_f34 h0_35 h0_36 h0_37 h0_38 h0_39 h0_40 h0_f41 h0_f42 h0_f43 h0_f44 h0_45 h0_46 h0_47 h0_48 h0_49 h0_50 h0_f51 h0_52 h0_f53 h0_5 h0_5k tN h0_5c)) (nw := (wd_c_X12_number h0 h0_f0 h0_1 h0_2 h0_3 h0_4 h0_5 h0_f6 h0_f7 h0_f8 h0_f9 x_85 (-1) h0_f12 h0_f13 h0_f14 h0_15 h0_16 h0_f17 h0_18 h0_19 h0_20 h0_21 h0_22 h0_23 h0_24 h0_25 h0_f26 h0_f27 h0_f28 h0_f29 h0_f30 h0_f31 h0_32 h0_33 h0_f34 h0_35 h0_36 h0_37 h0_38 h0_39 h0_40 h0_f41 h0_f42 h0_f43 h0_f44 h0_45 h0_46 h0_47 h0_48 h0_49 h0_50 h0_f51 h0_52 h0_f53 h0_5 h0_5k tN h0_5c)) hP hD [0, 1] [2, 3] 2 rfl hqc (by decide +kernel) rfl hk1 hFc hP1 hD1
      generalize H1 = H at hP hS ⊢
      as_aux_lemma =>
      rcases hw with ⟨h_89, h_90, h_91⟩ | ⟨h_92, h_93, h_94, h_95, h_96, h_97⟩
      · have h_91 : r_88 = _ := h_91
        replace hEX := hEX.trans (exc1_eq h_91)
        replace hEX := hEX.trans (if_pos (show r_88 = 0 from h_89))
        rw [h_89]
        refine lv_if_eq (tgt := 67) hx hb dX12_number_39 rfl (fun c_98 => ?_) (fun c_98 => absurd c_98 (by decide +kernel))
        exact hU _ _ _ (J67 x_83 x_85 g_h0_f10 g_h0_f17 g_h0_f26 g_h0_f27 g_h0_f28 g_h0_f29 g_h0_f30 g_h0_f31 g_h0_f34 g_h0_f41 g_h0_f51 g_h0_f53 g_h0_f6 g_h0_f7 g_h0_f8 h_46 g_86 (RG_w g_84 (by decide +kernel)) (by have := h_47; have := q_87; omega) hEX _ _ _ hP hD hS (lv_sub hl [0, 2, 3, 4] rfl))
      · have h_97 : r_88 = _ := h_97
        replace hEX := hEX.trans (exc1_eq h_97)
        replace hEX := hEX.trans (if_neg (fun q9 : r_88 = 0 => absurd ((show r_88 = 1 from h_92).symm.trans q9) (by decide +kernel)))
        rw [h_92]
        have g_99 : RG x_85 1 239 := RG_eq1 g_86 h_93 rfl (by decide +kernel)
        have g_100 : RG x_37 0 238 := RG_addb ex_85 (q := 1) rfl h_45 g_99 (by decide +kernel)
        have g_101 := h_96 h_92
        refine lv_if_eq (tgt := 67) hx hb dX12_number_39 rfl (fun c_102 => absurd c_102 (by decide +kernel)) (fun c_102 => ?_)
        as_aux_lemma =>
        refine lv_bipush (v := 10) hx hb dX12_number_42 kc_bipush_10 ?_
        refine lv_iload hx hb dX12_number_44 (lv_at hl 0 rfl) ?_
        refine lv_imul hx hb dX12_number_46 ?_
        refine lv_topi (fun x_103 ex_103 => ?_)
        replace hEX := hEX.trans (exl_eq ex_103)
        have g_104 : RG x_103 0 90 := RG_mulc (RG_com ex_103) (q := 10) rfl g_84 (by decide +kernel)
        refine lv_aload_n hx hb dX12_number_47 rfl (lv_at hl 2 rfl) ?_
        obtain ⟨hPc, hDc, hFc, hqc⟩ := cl_cut (wc := (wd_c_X12_here h0 h0_f0 h0_1 h0_2 h0_3 h0_4 h0_5 h0_f6 h0_f7 h0_f8 h0_f9 x_85 (-1) h0_f12 h0_f13 h0_f14 h0_15 h0_16 h0_f17 h0_18 h0_19 h0_20 h0_21 h0_22 h0_23 h0_24 h0_25 h0_f26 h0_f27 h0_f28 h0_f29 h0_f30 h0_f31 h0_32 h0_33 h0_f34 h0_35 h0_36 h0_37 h0_38 h0_39 h0_40 h0_f41 h0_f42 h0_f43 h0_f44 h0_45 h0_46 h0_47 h0_48 h0_49 h0_50 h0_f51 h0_52 h0_f53 h0_5 h0_5k tN h0_5c)) hP hD hS hA [0, 1] (by decide +kernel) rfl
        have hKc := hK.sub (tys' := [(h0_5k, .byte)]) [0] rfl
        have hrv := va_recv hKc hPc (ci := 12) (q0 := 0) rfl rfl
        refine va_calli (va_runV (As := []) (rest := [.int x_103]) ⟨hx, hb, hml, hown, hts⟩ (c_X12_here l dC dI H.size h0 h0_f0 h0_1 h0_2 h0_3 h0_4 h0_5 h0_f6 h0_f7 h0_f8 h0_f9 x_85 h0_f12 h0_f13 h0_f14 h0_15 h0_16 h0_f17 h0_18 h0_19 h0_20 h0_21 h0_22 h0_23 h0_24 h0_25 h0_f26 h0_f27 h0_f28 h0_f29 h0_f30 h0_f31 h0_32 h0_33 h0_f34 h0_35 h0_36 h0_37 h0_38 h0_39 h0_40 h0_f41 h0_f42 h0_f43 h0_f44 h0_45 h0_46 h0_47 h0_48 h0_49 h0_50 h0_f51 h0_52 h0_f53 h0_5k h0_5c tN g_h0_f6 g_h0_f7 g_h0_f8 (RG_w h_46 (by decide +kernel)) (RG_w g_99 (by decide +kernel)) g_h0_f17 g_h0_f26 g_h0_f27 g_h0_f28 g_h0_f29 g_h0_f30 g_h0_f31 g_h0_f34 g_h0_f41 g_h0_f51 g_h0_f53 htN) (cwV 0 hts gf_c_X12_number_c_X12_here rfl rfl rfl mdV_X12_here ⟨Nat.le_of_ble_eq_true rfl, Nat.le_of_ble_eq_true rfl⟩) ⟨fun a U g mk q => by obtain ⟨q0, q1, qP, qK, qD⟩ := q; exact ⟨q0, q1, qP, va_K.moved (u := U) (U := U.calling g mk a) (Vm.Alike.refl U.vm) qK, qD⟩, hrv, fun U hU hW => ⟨rfl, by rw [hU], by rw [hU]; exact hPc, va_K.moved hW.alike hKc, hDc.weaken (fun _ _ _ _ => trivial)⟩⟩ rfl rfl hl.1 rfl (lv_room (Nat.le_of_ble_eq_true rfl)) dX12_number_48 ⟨Nat.le_of_ble_eq_true rfl, Nat.le_of_ble_eq_true rfl⟩) hS (fun q _ h => hFc q h) hFc (fun r_105 u t H1 locs ht hvm hw hB hz1 hk1 hS => ?_)
        obtain ⟨hP1, hK1, hD1⟩ := hB
        rw [ht] at hP1
        obtain ⟨hP, hD⟩ := cl_put (w1 := (wd_c_X12_here h0 h0_f0 h0_1 h0_2 h0_3 h0_4 h0_5 h0_f6 h0_f7 h0_f8 h0_f9 x_85 (-1) h0_f12 h0_f13 h0_f14 h0_15 h0_16 h0_f17 h0_18 h0_19 h0_20 h0_21 h0_22 h0_23 h0_24 h0_25 h0_f26 h0_f27 h0_f28 h0_f29 h0_f30 h0_f31 h0_32 h0_33 h0_f34 h0_35 h0_36 h0_37 h0_38 h0_39 h0_40 h0_f41 h0_f42 h0_f43 h0_f44 h0_45 h0_46 h0_47 h0_48 h0_49 h0_50 h0_f51 h0_52 h0_f53 h0_5 h0_5k tN h0_5c)) (nw := (wd_c_X12_number h0 h0_f0 h0_1 h0_2 h0_3 h0_4 h0_5 h0_f6 h0_f7 h0_f8 h0_f9 x_85 (-1) h0_f12 h0_f13 h0_f14 h0_15 h0_16 h0_f17 h0_18 h0_19 h0_20 h0_21 h0_22 h0_23 h0_24 h0_25 h0_f26 h0_f27 h0_f28 h0_f29 h0_f30 h0_f31 h0_32 h0_33 h0_f34 h0_35 h0_36 h0_37 h0_38 h0_39 h0_40 h0_f41 h0_f42 h0_f43 h0_f44 h0_45 h0_46 h0_47 h0_48 h0_49 h0_50 h0_f51 h0_52 h0_f53 h0_5 h0_5k tN h0_5c)) hP hD [0, 1] [2, 3] 2 rfl hqc (by decide +kernel) rfl hk1 hFc hP1 hD1
        generalize H1 = H at hP hS ⊢
        as_aux_lemma =>
        rcases hw with ⟨h_106, h_107, h_108, h_109⟩ | ⟨h_110, h_111, h_112, h_113, h_114⟩
        · have h_109 : r_105 = _ := h_109
          replace hEX := hEX.trans (exc1_eq h_109)
          replace hEX := hEX.trans (if_pos (show r_105 = (-1) from h_106))
          rw [h_106]
          exfalso
          have := h_107
          have := h_95
          omega
        · have h_114 : r_105 = _ := h_114
          replace hEX := hEX.trans (exc1_eq h_114)
          replace hEX := hEX.trans (if_neg (RG_neq (x := r_105) (c := (-1)) (show RG r_105 0 255 from h_110) (by decide +kernel)))
          have g_115 : RG r_105 48 57 := RG_dig h_113 g_101 trivial h_110 (by decide +kernel)
          refine lv_iadd hx hb dX12_number_51 ?_
          as_aux_lemma =>
          refine lv_topi (fun x_116 ex_116 => ?_)
          replace hEX := hEX.trans (exl_eq ex_116)
          have g_117 : RG x_116 48 147 := RG_add ex_116 g_104 g_115 (by decide +kernel)
          refine lv_bipush (v := 48) hx hb dX12_number_52 kc_bipush_48 ?_
          refine lv_isub hx hb dX12_number_54 ?_
          refine lv_topi (fun x_118 ex_118 => ?_)
          replace hEX := hEX.trans (exl_eq ex_118)
          have g_119 : RG x_118 0 99 := RG_sub ex_118 g_117 (RG_k 48 48 rfl) (by decide +kernel)
          refine lv_istore (lv' := [(4, .int x_118), (3, .int r_36), (0, .ref h0), (1, .int 0), (2, .int 9)]) hx hb dX12_number_55 hl (Nat.le_of_ble_eq_true rfl) rfl (fun ls hl => ?_)
          refine lv_aload_n hx hb dX12_number_57 rfl (lv_at hl 2 rfl) ?_
          refine lv_dup hx hb dX12_number_58 rfl ?_
          refine va_get (D := (dC, dI)) (ci := 12) (v := .int x_85) (C := RX12) (T := TX12) (N := 54) hx hb hts iw_c_X12_number_X12 hown hK hP 0 rfl rfl 10 (by decide +kernel) (hts (.fieldLink RX12 134 "BuoyVoteModel" "at" "I") (List.mem_of_getElem? (i := 6) rfl)) (fun _ h9 => h9) rfl dX12_number_59 ?_
          refine lv_iconst (v := 1) hx hb dX12_number_62 kc_iconst_1 ?_
          refine lv_iadd hx hb dX12_number_63 ?_
          as_aux_lemma =>
          refine lv_topi (fun x_120 ex_120 => ?_)
          replace hEX := hEX.trans (exl_eq ex_120)
          have g_121 : RG x_120 2 240 := RG_add ex_120 g_99 (RG_k 1 1 rfl) (by decide +kernel)
          have q_122 : x_120.toInt = x_85.toInt + 1 := eq_add ex_120 g_99 (q := 1) rfl (by decide +kernel)
          refine va_put (D := (dC, dI)) (ci := 12) (v := .int x_120) (ty := .int) (C := RX12) (T := TX12) (N := 54) hx hb hts iw_c_X12_number_X12 tyX12 tyX12_ok nmX12 hown hK hP hD hS 0 rfl rfl 10 (by decide +kernel) (hts (.fieldLink RX12 134 "BuoyVoteModel" "at" "I") (List.mem_of_getElem? (i := 6) rfl)) (fun _ h9 => h9) rfl (by decide +kernel) rfl rfl (Nat.le_of_ble_eq_true rfl) dX12_number_64 (fun H locs hP hD hS => ?_)
          have hP : va_P (dC, dI) vwCl (wd_c_X12_number h0 h0_f0 h0_1 h0_2 h0_3 h0_4 h0_5 h0_f6 h0_f7 h0_f8 h0_f9 x_120 (-1) h0_f12 h0_f13 h0_f14 h0_15 h0_16 h0_f17 h0_18 h0_19 h0_20 h0_21 h0_22 h0_23 h0_24 h0_25 h0_f26 h0_f27 h0_f28 h0_f29 h0_f30 h0_f31 h0_32 h0_33 h0_f34 h0_35 h0_36 h0_37 h0_38 h0_39 h0_40 h0_f41 h0_f42 h0_f43 h0_f44 h0_45 h0_46 h0_47 h0_48 h0_49 h0_50 h0_f51 h0_52 h0_f53 h0_5 h0_5k tN h0_5c) H := hP
          have hD : va_D A (wd_c_X12_number h0 h0_f0 h0_1 h0_2 h0_3 h0_4 h0_5 h0_f6 h0_f7 h0_f8 h0_f9 x_120 (-1) h0_f12 h0_f13 h0_f14 h0_15 h0_16 h0_f17 h0_18 h0_19 h0_20 h0_21 h0_22 h0_23 h0_24 h0_25 h0_f26 h0_f27 h0_f28 h0_f29 h0_f30 h0_f31 h0_32 h0_33 h0_f34 h0_35 h0_36 h0_37 h0_38 h0_39 h0_40 h0_f41 h0_f42 h0_f43 h0_f44 h0_45 h0_46 h0_47 h0_48 h0_49 h0_50 h0_f51 h0_52 h0_f53 h0_5 h0_5k tN h0_5c) := hD
          exact hU _ _ _ (J67 x_118 x_120 g_h0_f10 g_h0_f17 g_h0_f26 g_h0_f27 g_h0_f28 g_h0_f29 g_h0_f30 g_h0_f31 g_h0_f34 g_h0_f41 g_h0_f51 g_h0_f53 g_h0_f6 g_h0_f7 g_h0_f8 h_46 (RG_w g_121 (by decide +kernel)) g_119 (by have := h_47; have := q_87; have := q_122; omega) hEX _ _ _ hP hD hS (lv_sub hl [0, 2, 3, 4] rfl))
noncomputable def wf_c_X12_leastOf_1 : List Cond := .code yX12_leastOf cX12_leastOf 2 (some .int) :: ([])
set_option maxHeartbeats 4000000 in
set_option maxRecDepth 100000 in
theorem c_X12_leastOf_1 (l : Launch) (dC : Nat → ClassId) (dI : Nat → Nat → Nat) (sz : Nat) (p0 : Int32) (p1 : Int32) (g_p0 : RG p0 99 99) (g_p1 : RG p1 0 1) : Met l yX12_leastOf wf_c_X12_leastOf_1 ({ frames := 0, cells := 0, slots := 0, locals := 0 }) (va_Pc [.int p0, .int p1] (fun U => U.heap.size = sz ∧ va_P (dC, dI) vwCl [] U.heap ∧ va_K (dC, dI) vwCl [] U ∧ va_D (fun _ => True) [])) (va_Qi (fun (r : Int32) (u : Unit) => (r = 0 ∧ r = fx_c_X12_leastOf_1 p0 p1)) (fun (u : Unit) t => va_P (dC, dI) vwCl [] t.heap ∧ va_K (dC, dI) vwCl [] t ∧ va_D (va_A [] sz) []) (va_A [] sz)) 0 0 (va_A [] sz) := by
  refine Met.ofW (cc := cX12_leastOf) (maxL := 2) (ret := (some .int)) (by decide +kernel) rfl ?_
  intro p e s m args below meth c s₁ B hml hv
  obtain ⟨rfl, hsz, hP, hK, hD0⟩ := hv
  have hx := B.exec
  have hb := B.bytes
  have hr := B.returns
  have hts := atoms_spec (ws := wf_c_X12_leastOf_1) B.pre
  have hown : s.vm.findClass RX12 = some m.cls := findClass_of_methodNamed B.named
  have hlocks := B.notSynchronized
  subst hsz
  have hD := hD0.self (sz := s.heap.size)
  generalize hAe : va_A [] s.heap.size = A at hD ⊢
  have hA : ∀ q : Nat, s.heap.size ≤ q → A q := fun q h => by rw [← hAe]; exact Or.inr h
  have hP : va_P (dC, dI) vwCl [] s.heap := hP
  have hl := lv_entry ([.int p0, .int p1]) (n := 2) (Nat.le_of_ble_eq_true rfl)
  rw [lg_entry_eq]
  generalize (lg_sl ([.int p0, .int p1]) ++ List.replicate (2 - (lg_sl ([.int p0, .int p1])).length) Slot.unset).toArray = ls at hl ⊢
  have hl : lv_has ls 2 [(0, .int p0), (1, .int p1)] := hl
  obtain ⟨H, hHe⟩ : ∃ H : Heap, s.heap = H := ⟨_, rfl⟩
  have hS : va_S A s.heap H [] := by rw [hHe]; exact va_S.rf
  have hP : va_P (dC, dI) vwCl [] H := by rw [← hHe]; exact hP
  rw [hHe]
  obtain ⟨RES, hR⟩ : ∃ z, fx_c_X12_leastOf_1 p0 p1 = z := ⟨_, rfl⟩
  have hEX : RES = fx_c_X12_leastOf_1 p0 p1 := hR.symm
  refine wj (fun G hG hU => ?_)
  as_aux_lemma =>
  have J11 : ∀ (g_p0 : RG p0 99 99) (g_p1 : RG p1 0 1) (hEX : RES = fx_c_X12_leastOf_1_p11 p0 p1) (H : Heap) (locs : List Loc) (ls : Array Slot) (hP : va_P (dC, dI) vwCl [] H) (hD : va_D A []) (hS : va_S A s.heap H locs) (hl : lv_has ls 2 [(0, .int p0), (1, .int p1)]), G H locs (F0 m 11 ls []) := by
    as_aux_lemma =>
    intro g_p0 g_p1 hEX H locs ls hP hD hS hl
    refine hG _ _ _ ?_
    refine lv_iload_n hx hb dX12_leastOf_11 rfl (lv_at hl 0 rfl) ?_
    refine lv_bipush (v := 99) hx hb dX12_leastOf_12 kc_bipush_99 ?_
    refine lv_icmp_ne (tgt := 26) hx hb dX12_leastOf_14 rfl (fun c_1 => ?_) (fun c_1 => ?_)
    · replace hEX := hEX.trans (if_neg c_1)
      exact RG_dead (RG_ne1 g_p0 (q := 99) rfl c_1 (a' := 100) (b' := 99) (by decide +kernel)) (by decide +kernel)
    · replace hEX := hEX.trans (if_pos c_1)
      refine lv_iload_n hx hb dX12_leastOf_17 rfl (lv_at hl 1 rfl) ?_
      refine lv_iconst (v := 2) hx hb dX12_leastOf_18 kc_iconst_2 ?_
      refine lv_icmp_ne (tgt := 26) hx hb dX12_leastOf_19 rfl (fun c_2 => ?_) (fun c_2 => ?_)
      · replace hEX := hEX.trans (if_neg c_2)
        refine lv_iconst (v := 0) hx hb dX12_leastOf_26 kc_iconst_0 ?_
        have hK9 := hK.sub (tys' := []) [] rfl
        exact W.iret (v := 0) hx hb hr (fun t ht hW => ⟨⟨0, (), rfl, ⟨rfl, (hR.trans hEX).symm⟩, by rw [ht]; exact hP, va_K.moved hW.alike hK9, hD⟩, hS.F ht⟩) hS.2.2 dX12_leastOf_27
      · replace hEX := hEX.trans (if_pos c_2)
        exact RG_dead (RG_eq1 g_p1 (RG_k 2 2 rfl) c_2 (a' := 2) (b' := 1) (by decide +kernel)) (by decide +kernel)
  refine hG _ _ _ ?_
  as_aux_lemma =>
  refine lv_iload_n hx hb dX12_leastOf_0 rfl (lv_at hl 0 rfl) ?_
  refine lv_bipush (v := 115) hx hb dX12_leastOf_1 kc_bipush_115 ?_
  refine lv_icmp_ne (tgt := 11) hx hb dX12_leastOf_3 rfl (fun c_3 => ?_) (fun c_3 => ?_)
  · replace hEX := hEX.trans (if_neg c_3)
    exact hU _ _ _ (J11 g_p0 g_p1 hEX _ _ _ hP hD hS (lv_sub hl [0, 1] rfl))
  · replace hEX := hEX.trans (if_pos c_3)
    exact RG_dead (RG_eq1 g_p0 (RG_k 115 115 rfl) c_3 (a' := 115) (b' := 99) (by decide +kernel)) (by decide +kernel)
noncomputable def wf_c_X12_mostOf_1 : List Cond := .code yX12_mostOf cX12_mostOf 2 (some .int) :: ([])
set_option maxHeartbeats 4000000 in
set_option maxRecDepth 100000 in
theorem c_X12_mostOf_1 (l : Launch) (dC : Nat → ClassId) (dI : Nat → Nat → Nat) (sz : Nat) (p0 : Int32) (p1 : Int32) (g_p0 : RG p0 99 99) (g_p1 : RG p1 0 1) : Met l yX12_mostOf wf_c_X12_mostOf_1 ({ frames := 0, cells := 0, slots := 0, locals := 0 }) (va_Pc [.int p0, .int p1] (fun U => U.heap.size = sz ∧ va_P (dC, dI) vwCl [] U.heap ∧ va_K (dC, dI) vwCl [] U ∧ va_D (fun _ => True) [])) (va_Qi (fun (r : Int32) (u : Unit) => (r = 9 ∧ r = fx_c_X12_mostOf_1 p0 p1)) (fun (u : Unit) t => va_P (dC, dI) vwCl [] t.heap ∧ va_K (dC, dI) vwCl [] t ∧ va_D (va_A [] sz) []) (va_A [] sz)) 0 0 (va_A [] sz) := by
  refine Met.ofW (cc := cX12_mostOf) (maxL := 2) (ret := (some .int)) (by decide +kernel) rfl ?_
  intro p e s m args below meth c s₁ B hml hv
  obtain ⟨rfl, hsz, hP, hK, hD0⟩ := hv
  have hx := B.exec
  have hb := B.bytes
  have hr := B.returns
  have hts := atoms_spec (ws := wf_c_X12_mostOf_1) B.pre
  have hown : s.vm.findClass RX12 = some m.cls := findClass_of_methodNamed B.named
  have hlocks := B.notSynchronized
  subst hsz
  have hD := hD0.self (sz := s.heap.size)
  generalize hAe : va_A [] s.heap.size = A at hD ⊢
  have hA : ∀ q : Nat, s.heap.size ≤ q → A q := fun q h => by rw [← hAe]; exact Or.inr h
  have hP : va_P (dC, dI) vwCl [] s.heap := hP
  have hl := lv_entry ([.int p0, .int p1]) (n := 2) (Nat.le_of_ble_eq_true rfl)
  rw [lg_entry_eq]
  generalize (lg_sl ([.int p0, .int p1]) ++ List.replicate (2 - (lg_sl ([.int p0, .int p1])).length) Slot.unset).toArray = ls at hl ⊢
  have hl : lv_has ls 2 [(0, .int p0), (1, .int p1)] := hl
  obtain ⟨H, hHe⟩ : ∃ H : Heap, s.heap = H := ⟨_, rfl⟩
  have hS : va_S A s.heap H [] := by rw [hHe]; exact va_S.rf
  have hP : va_P (dC, dI) vwCl [] H := by rw [← hHe]; exact hP
  rw [hHe]
  obtain ⟨RES, hR⟩ : ∃ z, fx_c_X12_mostOf_1 p0 p1 = z := ⟨_, rfl⟩
  have hEX : RES = fx_c_X12_mostOf_1 p0 p1 := hR.symm
  refine lv_iload_n hx hb dX12_mostOf_0 rfl (lv_at hl 0 rfl) ?_
  as_aux_lemma =>
  refine lv_bipush (v := 115) hx hb dX12_mostOf_1 kc_bipush_115 ?_
  refine lv_icmp_ne (tgt := 37) hx hb dX12_mostOf_3 rfl (fun c_1 => ?_) (fun c_1 => ?_)
  · replace hEX := hEX.trans (if_neg c_1)
    refine lv_iload_n hx hb dX12_mostOf_37 rfl (lv_at hl 0 rfl) ?_
    refine lv_bipush (v := 99) hx hb dX12_mostOf_38 kc_bipush_99 ?_
    refine lv_icmp_ne (tgt := 55) hx hb dX12_mostOf_40 rfl (fun c_2 => ?_) (fun c_2 => ?_)
    · replace hEX := hEX.trans (if_neg c_2)
      exact RG_dead (RG_ne1 g_p0 (q := 99) rfl c_2 (a' := 100) (b' := 99) (by decide +kernel)) (by decide +kernel)
    · replace hEX := hEX.trans (if_pos c_2)
      refine lv_iload_n hx hb dX12_mostOf_43 rfl (lv_at hl 1 rfl) ?_
      refine lv_iconst (v := 2) hx hb dX12_mostOf_44 kc_iconst_2 ?_
      refine lv_icmp_ne (tgt := 52) hx hb dX12_mostOf_45 rfl (fun c_3 => ?_) (fun c_3 => ?_)
      · replace hEX := hEX.trans (if_neg c_3)
        refine lv_bipush (v := 9) hx hb dX12_mostOf_52 kc_bipush_9 ?_
        as_aux_lemma =>
        have hK9 := hK.sub (tys' := []) [] rfl
        exact W.iret (v := 9) hx hb hr (fun t ht hW => ⟨⟨9, (), rfl, ⟨rfl, (hR.trans hEX).symm⟩, by rw [ht]; exact hP, va_K.moved hW.alike hK9, hD⟩, hS.F ht⟩) hS.2.2 dX12_mostOf_54
      · replace hEX := hEX.trans (if_pos c_3)
        exact RG_dead (RG_eq1 g_p1 (RG_k 2 2 rfl) c_3 (a' := 2) (b' := 1) (by decide +kernel)) (by decide +kernel)
  · replace hEX := hEX.trans (if_pos c_1)
    exact RG_dead (RG_eq1 g_p0 (RG_k 115 115 rfl) c_1 (a' := 115) (b' := 99) (by decide +kernel)) (by decide +kernel)
noncomputable def wf_c_X12_leastOf_2 : List Cond := .code yX12_leastOf cX12_leastOf 2 (some .int) :: ([])
set_option maxHeartbeats 4000000 in
set_option maxRecDepth 100000 in
theorem c_X12_leastOf_2 (l : Launch) (dC : Nat → ClassId) (dI : Nat → Nat → Nat) (sz : Nat) (p0 : Int32) (p1 : Int32) (g_p0 : RG p0 99 99) (g_p1 : RG p1 0 2) : Met l yX12_leastOf wf_c_X12_leastOf_2 ({ frames := 0, cells := 0, slots := 0, locals := 0 }) (va_Pc [.int p0, .int p1] (fun U => U.heap.size = sz ∧ va_P (dC, dI) vwCl [] U.heap ∧ va_K (dC, dI) vwCl [] U ∧ va_D (fun _ => True) [])) (va_Qi (fun (r : Int32) (u : Unit) => (r = 0 ∧ RG p1 0 1 ∧ r = fx_c_X12_leastOf_2 p0 p1) ∨ (r = 1 ∧ RG p1 2 2 ∧ r = fx_c_X12_leastOf_2 p0 p1)) (fun (u : Unit) t => va_P (dC, dI) vwCl [] t.heap ∧ va_K (dC, dI) vwCl [] t ∧ va_D (va_A [] sz) []) (va_A [] sz)) 0 0 (va_A [] sz) := by
  refine Met.ofW (cc := cX12_leastOf) (maxL := 2) (ret := (some .int)) (by decide +kernel) rfl ?_
  intro p e s m args below meth c s₁ B hml hv
  obtain ⟨rfl, hsz, hP, hK, hD0⟩ := hv
  have hx := B.exec
  have hb := B.bytes
  have hr := B.returns
  have hts := atoms_spec (ws := wf_c_X12_leastOf_2) B.pre
  have hown : s.vm.findClass RX12 = some m.cls := findClass_of_methodNamed B.named
  have hlocks := B.notSynchronized
  subst hsz
  have hD := hD0.self (sz := s.heap.size)
  generalize hAe : va_A [] s.heap.size = A at hD ⊢
  have hA : ∀ q : Nat, s.heap.size ≤ q → A q := fun q h => by rw [← hAe]; exact Or.inr h
  have hP : va_P (dC, dI) vwCl [] s.heap := hP
  have hl := lv_entry ([.int p0, .int p1]) (n := 2) (Nat.le_of_ble_eq_true rfl)
  rw [lg_entry_eq]
  generalize (lg_sl ([.int p0, .int p1]) ++ List.replicate (2 - (lg_sl ([.int p0, .int p1])).length) Slot.unset).toArray = ls at hl ⊢
  have hl : lv_has ls 2 [(0, .int p0), (1, .int p1)] := hl
  obtain ⟨H, hHe⟩ : ∃ H : Heap, s.heap = H := ⟨_, rfl⟩
  have hS : va_S A s.heap H [] := by rw [hHe]; exact va_S.rf
  have hP : va_P (dC, dI) vwCl [] H := by rw [← hHe]; exact hP
  rw [hHe]
  obtain ⟨RES, hR⟩ : ∃ z, fx_c_X12_leastOf_2 p0 p1 = z := ⟨_, rfl⟩
  have hEX : RES = fx_c_X12_leastOf_2 p0 p1 := hR.symm
  refine wj (fun G hG hU => ?_)
  as_aux_lemma =>
  have J22 : ∀ (g_p0 : RG p0 99 99) (g_p1 : RG p1 2 2) (hEX : RES = fx_c_X12_leastOf_2_p22) (H : Heap) (locs : List Loc) (ls : Array Slot) (hP : va_P (dC, dI) vwCl [] H) (hD : va_D A []) (hS : va_S A s.heap H locs) (hl : lv_has ls 2 []), G H locs (F0 m 22 ls []) := by
    as_aux_lemma =>
    intro g_p0 g_p1 hEX H locs ls hP hD hS hl
    refine hG _ _ _ ?_
    refine lv_iconst (v := 1) hx hb dX12_leastOf_22 kc_iconst_1 ?_
    refine lv_goto (tgt := 27) hx hb dX12_leastOf_23 rfl ?_
    have hK9 := hK.sub (tys' := []) [] rfl
    exact W.iret (v := 1) hx hb hr (fun t ht hW => ⟨⟨1, (), rfl, (Or.inr ⟨rfl, g_p1, (hR.trans hEX).symm⟩), by rw [ht]; exact hP, va_K.moved hW.alike hK9, hD⟩, hS.F ht⟩) hS.2.2 dX12_leastOf_27
  have J11 : ∀ (g_p0 : RG p0 99 99) (g_p1 : RG p1 0 2) (hEX : RES = fx_c_X12_leastOf_2_p11 p0 p1) (H : Heap) (locs : List Loc) (ls : Array Slot) (hP : va_P (dC, dI) vwCl [] H) (hD : va_D A []) (hS : va_S A s.heap H locs) (hl : lv_has ls 2 [(0, .int p0), (1, .int p1)]), G H locs (F0 m 11 ls []) := by
    as_aux_lemma =>
    intro g_p0 g_p1 hEX H locs ls hP hD hS hl
    refine hG _ _ _ ?_
    refine lv_iload_n hx hb dX12_leastOf_11 rfl (lv_at hl 0 rfl) ?_
    refine lv_bipush (v := 99) hx hb dX12_leastOf_12 kc_bipush_99 ?_
    refine lv_icmp_ne (tgt := 26) hx hb dX12_leastOf_14 rfl (fun c_1 => ?_) (fun c_1 => ?_)
    · replace hEX := hEX.trans (if_neg c_1)
      exact RG_dead (RG_ne1 g_p0 (q := 99) rfl c_1 (a' := 100) (b' := 99) (by decide +kernel)) (by decide +kernel)
    · replace hEX := hEX.trans (if_pos c_1)
      refine lv_iload_n hx hb dX12_leastOf_17 rfl (lv_at hl 1 rfl) ?_
      refine lv_iconst (v := 2) hx hb dX12_leastOf_18 kc_iconst_2 ?_
      refine lv_icmp_ne (tgt := 26) hx hb dX12_leastOf_19 rfl (fun c_2 => ?_) (fun c_2 => ?_)
      · replace hEX := hEX.trans (if_neg c_2)
        have g_3 : RG p1 0 1 := RG_ne1 g_p1 (q := 2) rfl c_2 (by decide +kernel)
        refine lv_iconst (v := 0) hx hb dX12_leastOf_26 kc_iconst_0 ?_
        as_aux_lemma =>
        have hK9 := hK.sub (tys' := []) [] rfl
        exact W.iret (v := 0) hx hb hr (fun t ht hW => ⟨⟨0, (), rfl, (Or.inl ⟨rfl, g_3, (hR.trans hEX).symm⟩), by rw [ht]; exact hP, va_K.moved hW.alike hK9, hD⟩, hS.F ht⟩) hS.2.2 dX12_leastOf_27
      · replace hEX := hEX.trans (if_pos c_2)
        have g_4 : RG p1 2 2 := RG_eq1 g_p1 (RG_k 2 2 rfl) c_2 (by decide +kernel)
        exact hU _ _ _ (J22 g_p0 g_4 hEX _ _ _ hP hD hS (lv_sub hl [] rfl))
  refine hG _ _ _ ?_
  refine lv_iload_n hx hb dX12_leastOf_0 rfl (lv_at hl 0 rfl) ?_
  refine lv_bipush (v := 115) hx hb dX12_leastOf_1 kc_bipush_115 ?_
  refine lv_icmp_ne (tgt := 11) hx hb dX12_leastOf_3 rfl (fun c_5 => ?_) (fun c_5 => ?_)
  · replace hEX := hEX.trans (if_neg c_5)
    exact hU _ _ _ (J11 g_p0 g_p1 hEX _ _ _ hP hD hS (lv_sub hl [0, 1] rfl))
  · replace hEX := hEX.trans (if_pos c_5)
    exact RG_dead (RG_eq1 g_p0 (RG_k 115 115 rfl) c_5 (a' := 115) (b' := 99) (by decide +kernel)) (by decide +kernel)
noncomputable def wf_c_X12_mostOf_2 : List Cond := .code yX12_mostOf cX12_mostOf 2 (some .int) :: ([])
set_option maxHeartbeats 4000000 in
set_option maxRecDepth 100000 in
theorem c_X12_mostOf_2 (l : Launch) (dC : Nat → ClassId) (dI : Nat → Nat → Nat) (sz : Nat) (p0 : Int32) (p1 : Int32) (g_p0 : RG p0 99 99) (g_p1 : RG p1 0 2) : Met l yX12_mostOf wf_c_X12_mostOf_2 ({ frames := 0, cells := 0, slots := 0, locals := 0 }) (va_Pc [.int p0, .int p1] (fun U => U.heap.size = sz ∧ va_P (dC, dI) vwCl [] U.heap ∧ va_K (dC, dI) vwCl [] U ∧ va_D (fun _ => True) [])) (va_Qi (fun (r : Int32) (u : Unit) => (r = 9 ∧ RG p1 0 1 ∧ r = fx_c_X12_mostOf_2 p0 p1) ∨ (r = 4 ∧ RG p1 2 2 ∧ r = fx_c_X12_mostOf_2 p0 p1)) (fun (u : Unit) t => va_P (dC, dI) vwCl [] t.heap ∧ va_K (dC, dI) vwCl [] t ∧ va_D (va_A [] sz) []) (va_A [] sz)) 0 0 (va_A [] sz) := by
  refine Met.ofW (cc := cX12_mostOf) (maxL := 2) (ret := (some .int)) (by decide +kernel) rfl ?_
  intro p e s m args below meth c s₁ B hml hv
  obtain ⟨rfl, hsz, hP, hK, hD0⟩ := hv
  have hx := B.exec
  have hb := B.bytes
  have hr := B.returns
  have hts := atoms_spec (ws := wf_c_X12_mostOf_2) B.pre
  have hown : s.vm.findClass RX12 = some m.cls := findClass_of_methodNamed B.named
  have hlocks := B.notSynchronized
  subst hsz
  have hD := hD0.self (sz := s.heap.size)
  generalize hAe : va_A [] s.heap.size = A at hD ⊢
  have hA : ∀ q : Nat, s.heap.size ≤ q → A q := fun q h => by rw [← hAe]; exact Or.inr h
  have hP : va_P (dC, dI) vwCl [] s.heap := hP
  have hl := lv_entry ([.int p0, .int p1]) (n := 2) (Nat.le_of_ble_eq_true rfl)
  rw [lg_entry_eq]
  generalize (lg_sl ([.int p0, .int p1]) ++ List.replicate (2 - (lg_sl ([.int p0, .int p1])).length) Slot.unset).toArray = ls at hl ⊢
  have hl : lv_has ls 2 [(0, .int p0), (1, .int p1)] := hl
  obtain ⟨H, hHe⟩ : ∃ H : Heap, s.heap = H := ⟨_, rfl⟩
  have hS : va_S A s.heap H [] := by rw [hHe]; exact va_S.rf
  have hP : va_P (dC, dI) vwCl [] H := by rw [← hHe]; exact hP
  rw [hHe]
  obtain ⟨RES, hR⟩ : ∃ z, fx_c_X12_mostOf_2 p0 p1 = z := ⟨_, rfl⟩
  have hEX : RES = fx_c_X12_mostOf_2 p0 p1 := hR.symm
  refine lv_iload_n hx hb dX12_mostOf_0 rfl (lv_at hl 0 rfl) ?_
  as_aux_lemma =>
  refine lv_bipush (v := 115) hx hb dX12_mostOf_1 kc_bipush_115 ?_
  refine lv_icmp_ne (tgt := 37) hx hb dX12_mostOf_3 rfl (fun c_1 => ?_) (fun c_1 => ?_)
  · replace hEX := hEX.trans (if_neg c_1)
    refine lv_iload_n hx hb dX12_mostOf_37 rfl (lv_at hl 0 rfl) ?_
    refine lv_bipush (v := 99) hx hb dX12_mostOf_38 kc_bipush_99 ?_
    refine lv_icmp_ne (tgt := 55) hx hb dX12_mostOf_40 rfl (fun c_2 => ?_) (fun c_2 => ?_)
    · replace hEX := hEX.trans (if_neg c_2)
      exact RG_dead (RG_ne1 g_p0 (q := 99) rfl c_2 (a' := 100) (b' := 99) (by decide +kernel)) (by decide +kernel)
    · replace hEX := hEX.trans (if_pos c_2)
      refine lv_iload_n hx hb dX12_mostOf_43 rfl (lv_at hl 1 rfl) ?_
      refine lv_iconst (v := 2) hx hb dX12_mostOf_44 kc_iconst_2 ?_
      refine lv_icmp_ne (tgt := 52) hx hb dX12_mostOf_45 rfl (fun c_3 => ?_) (fun c_3 => ?_)
      · replace hEX := hEX.trans (if_neg c_3)
        have g_4 : RG p1 0 1 := RG_ne1 g_p1 (q := 2) rfl c_3 (by decide +kernel)
        refine lv_bipush (v := 9) hx hb dX12_mostOf_52 kc_bipush_9 ?_
        as_aux_lemma =>
        have hK9 := hK.sub (tys' := []) [] rfl
        exact W.iret (v := 9) hx hb hr (fun t ht hW => ⟨⟨9, (), rfl, (Or.inl ⟨rfl, g_4, (hR.trans hEX).symm⟩), by rw [ht]; exact hP, va_K.moved hW.alike hK9, hD⟩, hS.F ht⟩) hS.2.2 dX12_mostOf_54
      · replace hEX := hEX.trans (if_pos c_3)
        have g_5 : RG p1 2 2 := RG_eq1 g_p1 (RG_k 2 2 rfl) c_3 (by decide +kernel)
        refine lv_iconst (v := 4) hx hb dX12_mostOf_48 kc_iconst_4 ?_
        refine lv_goto (tgt := 54) hx hb dX12_mostOf_49 rfl ?_
        have hK9 := hK.sub (tys' := []) [] rfl
        exact W.iret (v := 4) hx hb hr (fun t ht hW => ⟨⟨4, (), rfl, (Or.inr ⟨rfl, g_5, (hR.trans hEX).symm⟩), by rw [ht]; exact hP, va_K.moved hW.alike hK9, hD⟩, hS.F ht⟩) hS.2.2 dX12_mostOf_54
  · replace hEX := hEX.trans (if_pos c_1)
    exact RG_dead (RG_eq1 g_p0 (RG_k 115 115 rfl) c_1 (a' := 115) (b' := 99) (by decide +kernel)) (by decide +kernel)
noncomputable def wf_c_X12_isIn_2 : List Cond := .code yX12_isIn cX12_isIn 6 (some .boolean) :: ([])
set_option maxHeartbeats 4000000 in
set_option maxRecDepth 100000 in
theorem c_X12_isIn_2 (l : Launch) (dC : Nat → ClassId) (dI : Nat → Nat → Nat) (sz : Nat) (p0 : Int64) (g_p0 : LG p0 0 99) : Met l yX12_isIn wf_c_X12_isIn_2 ({ frames := 0, cells := 0, slots := 0, locals := 0 }) (va_Pc [.long p0, .long 1, .long 4] (fun U => U.heap.size = sz ∧ va_P (dC, dI) vwCl [] U.heap ∧ va_K (dC, dI) vwCl [] U ∧ va_D (fun _ => True) [])) (va_Qi (fun (r : Int32) (u : Unit) => (r = 0 ∧ r = fx_c_X12_isIn_2 p0) ∨ (r = 1 ∧ LG p0 1 4 ∧ r = fx_c_X12_isIn_2 p0)) (fun (u : Unit) t => va_P (dC, dI) vwCl [] t.heap ∧ va_K (dC, dI) vwCl [] t ∧ va_D (va_A [] sz) []) (va_A [] sz)) 0 0 (va_A [] sz) := by
  refine Met.ofW (cc := cX12_isIn) (maxL := 6) (ret := (some .boolean)) (by decide +kernel) rfl ?_
  intro p e s m args below meth c s₁ B hml hv
  obtain ⟨rfl, hsz, hP, hK, hD0⟩ := hv
  have hx := B.exec
  have hb := B.bytes
  have hr := B.returns
  have hts := atoms_spec (ws := wf_c_X12_isIn_2) B.pre
  have hown : s.vm.findClass RX12 = some m.cls := findClass_of_methodNamed B.named
  have hlocks := B.notSynchronized
  subst hsz
  have hD := hD0.self (sz := s.heap.size)
  generalize hAe : va_A [] s.heap.size = A at hD ⊢
  have hA : ∀ q : Nat, s.heap.size ≤ q → A q := fun q h => by rw [← hAe]; exact Or.inr h
  have hP : va_P (dC, dI) vwCl [] s.heap := hP
  have hl := lv_entry ([.long p0, .long 1, .long 4]) (n := 6) (Nat.le_of_ble_eq_true rfl)
  rw [lg_entry_eq]
  generalize (lg_sl ([.long p0, .long 1, .long 4]) ++ List.replicate (6 - (lg_sl ([.long p0, .long 1, .long 4])).length) Slot.unset).toArray = ls at hl ⊢
  have hl : lv_has ls 6 [(0, .long p0), (2, .long 1), (4, .long 4)] := hl
  obtain ⟨H, hHe⟩ : ∃ H : Heap, s.heap = H := ⟨_, rfl⟩
  have hS : va_S A s.heap H [] := by rw [hHe]; exact va_S.rf
  have hP : va_P (dC, dI) vwCl [] H := by rw [← hHe]; exact hP
  rw [hHe]
  obtain ⟨RES, hR⟩ : ∃ z, fx_c_X12_isIn_2 p0 = z := ⟨_, rfl⟩
  have hEX : RES = fx_c_X12_isIn_2 p0 := hR.symm
  refine lv_lload_n hx hb dX12_isIn_0 rfl (lv_at hl 0 rfl) ?_
  as_aux_lemma =>
  refine lv_lload_n hx hb dX12_isIn_1 rfl (lv_at hl 1 rfl) ?_
  refine W.lcmp hx hb dX12_isIn_2 ?_
  refine lv_if_lt (tgt := 17) hx hb dX12_isIn_3 rfl (fun c_1 => ?_) (fun c_1 => ?_)
  · replace c_1 := lc_lt_t c_1
    replace hEX := hEX.trans (if_pos c_1)
    have g_2 : LG p0 0 0 := LG_lt1 g_p0 (LG_k 1 1 rfl) c_1 (by decide +kernel)
    refine lv_iconst (v := 0) hx hb dX12_isIn_17 kc_iconst_0 ?_
    have hK9 := hK.sub (tys' := []) [] rfl
    exact W.zret (v := 0) hx hb hr rfl (fun t ht hW => ⟨⟨0, (), rfl, (Or.inl ⟨rfl, (hR.trans hEX).symm⟩), by rw [ht]; exact hP, va_K.moved hW.alike hK9, hD⟩, hS.F ht⟩) hS.2.2 dX12_isIn_18
  · replace c_1 := lc_lt_f c_1
    replace hEX := hEX.trans (if_neg c_1)
    have d_3 := Int64.not_lt.mp c_1
    have g_4 : LG p0 1 99 := LG_le2 (LG_k 1 1 rfl) g_p0 d_3 (by decide +kernel)
    refine lv_lload_n hx hb dX12_isIn_6 rfl (lv_at hl 0 rfl) ?_
    as_aux_lemma =>
    refine lv_lload hx hb dX12_isIn_7 (lv_at hl 2 rfl) ?_
    refine W.lcmp hx hb dX12_isIn_12 ?_
    refine lv_if_gt (tgt := 17) hx hb dX12_isIn_10 rfl (fun c_5 => ?_) (fun c_5 => ?_)
    · replace c_5 := lc_gt_t c_5
      replace hEX := hEX.trans (if_pos c_5)
      have g_6 : LG p0 5 99 := LG_lt2 (LG_k 4 4 rfl) g_4 c_5 (by decide +kernel)
      refine lv_iconst (v := 0) hx hb dX12_isIn_17 kc_iconst_0 ?_
      have hK9 := hK.sub (tys' := []) [] rfl
      exact W.zret (v := 0) hx hb hr rfl (fun t ht hW => ⟨⟨0, (), rfl, (Or.inl ⟨rfl, (hR.trans hEX).symm⟩), by rw [ht]; exact hP, va_K.moved hW.alike hK9, hD⟩, hS.F ht⟩) hS.2.2 dX12_isIn_18
    · replace c_5 := lc_gt_f c_5
      replace hEX := hEX.trans (if_neg c_5)
      have d_7 := Int64.not_lt.mp c_5
      have g_8 : LG p0 1 4 := LG_le1 g_4 (LG_k 4 4 rfl) d_7 (by decide +kernel)
      refine lv_iconst (v := 1) hx hb dX12_isIn_13 kc_iconst_1 ?_
      as_aux_lemma =>
      refine lv_goto (tgt := 18) hx hb dX12_isIn_14 rfl ?_
      have hK9 := hK.sub (tys' := []) [] rfl
      exact W.zret (v := 1) hx hb hr rfl (fun t ht hW => ⟨⟨1, (), rfl, (Or.inr ⟨rfl, g_8, (hR.trans hEX).symm⟩), by rw [ht]; exact hP, va_K.moved hW.alike hK9, hD⟩, hS.F ht⟩) hS.2.2 dX12_isIn_18
noncomputable def wd_c_X12_number_1 (a0 : Nat) (a1 : Int32) (a2 : Nat) (a3 : Nat) (a4 : Nat) (a5 : Nat) (a6 : Nat) (a7 : Int32) (a8 : Int32) (a9 : Int32) (a10 : Int32) (a11 : Int32) (a12 : Int32) (a13 : Int32) (a14 : Int32) (a15 : Int32) (a16 : Nat) (a17 : Nat) (a18 : Int32) (a19 : Nat) (a20 : Nat) (a21 : Nat) (a22 : Nat) (a23 : Nat) (a24 : Nat) (a25 : Nat) (a26 : Nat) (a27 : Int32) (a28 : Int32) (a29 : Int32) (a30 : Int32) (a31 : Int32) (a32 : Int32) (a33 : Nat) (a34 : Nat) (a35 : Int32) (a36 : Nat) (a37 : Nat) (a38 : Nat) (a39 : Nat) (a40 : Nat) (a41 : Nat) (a42 : Int32) (a43 : Int64) (a44 : Int32) (a45 : Int32) (a46 : Nat) (a47 : Nat) (a48 : Nat) (a49 : Nat) (a50 : Nat) (a51 : Nat) (a52 : Int32) (a53 : Nat) (a54 : Int32) (a55 : Nat) (a56 : ClassId) (a57 : Nat) (a58 : Nat → Int32) : va_W := [(a0, .inr (12, [.int a1, .ref a2, .ref a3, .ref a4, .ref a5, .ref a6, .int a7, .int a8, .int a9, .int a10, .int a11, .int a12, .int a13, .int a14, .int a15, .ref a16, .ref a17, .int a18, .ref a19, .ref a20, .ref a21, .ref a22, .ref a23, .ref a24, .ref a25, .ref a26, .int a27, .int a28, .int a29, .int a30, .int a31, .int a32, .ref a33, .ref a34, .int a35, .ref a36, .ref a37, .ref a38, .ref a39, .ref a40, .ref a41, .int a42, .long a43, .int a44, .int a45, .ref a46, .ref a47, .ref a48, .ref a49, .ref a50, .ref a51, .int a52, .ref a53, .int a54])), (a55, .inl (a56, a57, .inl a58))]
noncomputable def wf_c_X12_number_1 : List Cond := List.cons (.code yX12_number cX12_number 5 (some .int)) (@HAppend.hAppend (List Cond) (List Cond) (List Cond) _ [.methodLink RX12 153 yX12_look, .instanceMethod yX12_look, .selects RX12 yX12_look yX12_look, .initialized RX12, .code yX12_look cX12_look 1 (some .int), .fieldLink RX12 134 "BuoyVoteModel" "at" "I", .fieldLink RX12 137 "BuoyVoteModel" "ends" "I", .fieldLink RX12 23 "BuoyVoteModel" "text" "[B", .fieldLink RX12 140 "BuoyVoteModel" "begins" "I", .methodLink RX12 183 yX12_isDigit, .instanceMethod yX12_isDigit, .selects RX12 yX12_isDigit yX12_isDigit, .code yX12_isDigit cX12_isDigit 1 (some .boolean), .methodLink RX12 149 yX12_fails, .instanceMethod yX12_fails, .selects RX12 yX12_fails yX12_fails, .code yX12_fails cX12_fails 1 (some .boolean), .fieldLink RX12 143 "BuoyVoteModel" "fault" "I", .methodLink RX12 229 yX12_here, .instanceMethod yX12_here, .selects RX12 yX12_here yX12_here, .code yX12_here cX12_here 1 (some .int), .methodLink RX12 232 yX12_isIn, .static yX12_isIn, .code yX12_isIn cX12_isIn 6 (some .boolean)] wsX120)
theorem iw_c_X12_number_1_X12 : ∀ w ∈ wsX120, w ∈ wf_c_X12_number_1 := fun w h => List.mem_cons_of_mem _ (List.mem_append_right _ h)
set_option maxRecDepth 20000 in
theorem gf_c_X12_number_1_c_X12_isDigit : GoodIn wf_c_X12_number_1 (wsV RX12 183 RX12 yX12_isDigit wf_c_X12_isDigit) := goodIn_app (gi_l [10, 11, 12, 4] rfl rfl) (gi_cons (j := 13) rfl rfl (goodIn_app (gi_l [6, 7, 8, 9] rfl rfl) (goodIn_sub iw_c_X12_number_1_X12 gw_X12)))
set_option maxRecDepth 20000 in
theorem gf_c_X12_number_1_c_X12_isIn_2 : GoodIn wf_c_X12_number_1 (va_wsS RX12 232 yX12_isIn wf_c_X12_isIn_2) := goodIn_app (gi_l [23, 24, 4] rfl rfl) (gi_cons (j := 25) rfl rfl gi_nil)
set_option maxRecDepth 20000 in
theorem gf_c_X12_number_1_c_X12_fails : GoodIn wf_c_X12_number_1 (wsV RX12 149 RX12 yX12_fails wf_c_X12_fails) := goodIn_app (gi_l [14, 15, 16, 4] rfl rfl) (gi_cons (j := 17) rfl rfl (goodIn_app (gi_l [18, 6] rfl rfl) (goodIn_sub iw_c_X12_number_1_X12 gw_X12)))
set_option maxRecDepth 20000 in
theorem gf_c_X12_number_1_c_X12_look : GoodIn wf_c_X12_number_1 (wsV RX12 153 RX12 yX12_look wf_c_X12_look) := goodIn_app (gi_l [1, 2, 3, 4] rfl rfl) (gi_cons (j := 5) rfl rfl (goodIn_app (gi_l [6, 7, 8, 9] rfl rfl) (goodIn_sub iw_c_X12_number_1_X12 gw_X12)))
set_option maxRecDepth 20000 in
theorem gf_c_X12_number_1_c_X12_here : GoodIn wf_c_X12_number_1 (wsV RX12 229 RX12 yX12_here wf_c_X12_here) := goodIn_app (gi_l [19, 20, 21, 4] rfl rfl) (gi_cons (j := 22) rfl rfl (goodIn_app (gi_l [6, 7, 8, 9] rfl rfl) (goodIn_sub iw_c_X12_number_1_X12 gw_X12)))
set_option maxHeartbeats 4000000 in
set_option maxRecDepth 100000 in
theorem c_X12_number_1 (l : Launch) (dC : Nat → ClassId) (dI : Nat → Nat → Nat) (sz : Nat) (h0 : Nat) (h0_f0 : Int32) (h0_1 : Nat) (h0_2 : Nat) (h0_3 : Nat) (h0_4 : Nat) (h0_5 : Nat) (h0_f6 : Int32) (h0_f7 : Int32) (h0_f8 : Int32) (h0_f9 : Int32) (h0_f10 : Int32) (h0_f12 : Int32) (h0_f13 : Int32) (h0_f14 : Int32) (h0_15 : Nat) (h0_16 : Nat) (h0_f17 : Int32) (h0_18 : Nat) (h0_19 : Nat) (h0_20 : Nat) (h0_21 : Nat) (h0_22 : Nat) (h0_23 : Nat) (h0_24 : Nat) (h0_25 : Nat) (h0_f26 : Int32) (h0_f27 : Int32) (h0_f28 : Int32) (h0_f29 : Int32) (h0_f30 : Int32) (h0_f31 : Int32) (h0_32 : Nat) (h0_33 : Nat) (h0_f34 : Int32) (h0_35 : Nat) (h0_36 : Nat) (h0_37 : Nat) (h0_38 : Nat) (h0_39 : Nat) (h0_40 : Nat) (h0_f41 : Int32) (h0_f42 : Int64) (h0_f43 : Int32) (h0_f44 : Int32) (h0_45 : Nat) (h0_46 : Nat) (h0_47 : Nat) (h0_48 : Nat) (h0_49 : Nat) (h0_50 : Nat) (h0_f51 : Int32) (h0_52 : Nat) (h0_f53 : Int32) (h0_5k : ClassId) (h0_5c : Nat → Int32) (tN : Nat) (g_h0_f6 : RG h0_f6 0 240) (g_h0_f7 : RG h0_f7 0 4) (g_h0_f8 : RG h0_f8 0 720) (g_h0_f9 : RG h0_f9 0 240) (g_h0_f10 : RG h0_f10 0 240) (g_h0_f17 : RG h0_f17 0 1) (g_h0_f26 : RG h0_f26 0 8) (g_h0_f27 : RG h0_f27 0 3) (g_h0_f28 : RG h0_f28 0 8) (g_h0_f29 : RG h0_f29 0 3) (g_h0_f30 : RG h0_f30 0 4) (g_h0_f31 : RG h0_f31 0 1) (g_h0_f34 : RG h0_f34 (-1) 3) (g_h0_f41 : RG h0_f41 0 40) (g_h0_f51 : RG h0_f51 0 10) (g_h0_f53 : RG h0_f53 0 1) (htN : h0_f8.toInt + 240 ≤ (tN : Int)) : Met l yX12_number wf_c_X12_number_1 ({ frames := 1, cells := 0, slots := 0, locals := 25 }) (va_Pc [.ref h0, .int 1, .int 4] (fun U => U.heap.size = sz ∧ va_P (dC, dI) vwCl (wd_c_X12_number_1 h0 h0_f0 h0_1 h0_2 h0_3 h0_4 h0_5 h0_f6 h0_f7 h0_f8 h0_f9 h0_f10 (-1) h0_f12 h0_f13 h0_f14 h0_15 h0_16 h0_f17 h0_18 h0_19 h0_20 h0_21 h0_22 h0_23 h0_24 h0_25 h0_f26 h0_f27 h0_f28 h0_f29 h0_f30 h0_f31 h0_32 h0_33 h0_f34 h0_35 h0_36 h0_37 h0_38 h0_39 h0_40 h0_f41 h0_f42 h0_f43 h0_f44 h0_45 h0_46 h0_47 h0_48 h0_49 h0_50 h0_f51 h0_52 h0_f53 h0_5 h0_5k tN h0_5c) U.heap ∧ va_K (dC, dI) vwCl [(h0_5k, .byte)] U ∧ va_D (fun _ => True) (wd_c_X12_number_1 h0 h0_f0 h0_1 h0_2 h0_3 h0_4 h0_5 h0_f6 h0_f7 h0_f8 h0_f9 h0_f10 (-1) h0_f12 h0_f13 h0_f14 h0_15 h0_16 h0_f17 h0_18 h0_19 h0_20 h0_21 h0_22 h0_23 h0_24 h0_25 h0_f26 h0_f27 h0_f28 h0_f29 h0_f30 h0_f31 h0_32 h0_33 h0_f34 h0_35 h0_36 h0_37 h0_38 h0_39 h0_40 h0_f41 h0_f42 h0_f43 h0_f44 h0_45 h0_46 h0_47 h0_48 h0_49 h0_50 h0_f51 h0_52 h0_f53 h0_5 h0_5k tN h0_5c))) (va_Qi (fun (r : Int32) (u : (Int32) × (Int32)) => (RG r 1 4 ∧ RG u.1 1 240 ∧ u.2 = (-1) ∧ RG h0_f9 1 240 ∧ h0_f10.toInt + 1 ≤ (u.1).toInt ∧ (r, u.1, u.2) = fx_c_X12_number_1 h0_f8 h0_f9 h0_f10 h0_5c) ∨ (RG r 0 99 ∧ RG u.1 0 240 ∧ RG u.2 0 240 ∧ (r, u.1, u.2) = fx_c_X12_number_1 h0_f8 h0_f9 h0_f10 h0_5c)) (fun (u : (Int32) × (Int32)) t => va_P (dC, dI) vwCl (wd_c_X12_number_1 h0 h0_f0 h0_1 h0_2 h0_3 h0_4 h0_5 h0_f6 h0_f7 h0_f8 h0_f9 (u.1) (u.2) h0_f12 h0_f13 h0_f14 h0_15 h0_16 h0_f17 h0_18 h0_19 h0_20 h0_21 h0_22 h0_23 h0_24 h0_25 h0_f26 h0_f27 h0_f28 h0_f29 h0_f30 h0_f31 h0_32 h0_33 h0_f34 h0_35 h0_36 h0_37 h0_38 h0_39 h0_40 h0_f41 h0_f42 h0_f43 h0_f44 h0_45 h0_46 h0_47 h0_48 h0_49 h0_50 h0_f51 h0_52 h0_f53 h0_5 h0_5k tN h0_5c) t.heap ∧ va_K (dC, dI) vwCl [] t ∧ va_D (va_A (wd_c_X12_number_1 h0 h0_f0 h0_1 h0_2 h0_3 h0_4 h0_5 h0_f6 h0_f7 h0_f8 h0_f9 h0_f10 (-1) h0_f12 h0_f13 h0_f14 h0_15 h0_16 h0_f17 h0_18 h0_19 h0_20 h0_21 h0_22 h0_23 h0_24 h0_25 h0_f26 h0_f27 h0_f28 h0_f29 h0_f30 h0_f31 h0_32 h0_33 h0_f34 h0_35 h0_36 h0_37 h0_38 h0_39 h0_40 h0_f41 h0_f42 h0_f43 h0_f44 h0_45 h0_46 h0_47 h0_48 h0_49 h0_50 h0_f51 h0_52 h0_f53 h0_5 h0_5k tN h0_5c) sz) (wd_c_X12_number_1 h0 h0_f0 h0_1 h0_2 h0_3 h0_4 h0_5 h0_f6 h0_f7 h0_f8 h0_f9 (u.1) (u.2) h0_f12 h0_f13 h0_f14 h0_15 h0_16 h0_f17 h0_18 h0_19 h0_20 h0_21 h0_22 h0_23 h0_24 h0_25 h0_f26 h0_f27 h0_f28 h0_f29 h0_f30 h0_f31 h0_32 h0_33 h0_f34 h0_35 h0_36 h0_37 h0_38 h0_39 h0_40 h0_f41 h0_f42 h0_f43 h0_f44 h0_45 h0_46 h0_47 h0_48 h0_49 h0_50 h0_f51 h0_52 h0_f53 h0_5 h0_5k tN h0_5c)) (va_A (wd_c_X12_number_1 h0 h0_f0 h0_1 h0_2 h0_3 h0_4 h0_5 h0_f6 h0_f7 h0_f8 h0_f9 h0_f10 (-1) h0_f12 h0_f13 h0_f14 h0_15 h0_16 h0_f17 h0_18 h0_19 h0_20 h0_21 h0_22 h0_23 h0_24 h0_25 h0_f26 h0_f27 h0_f28 h0_f29 h0_f30 h0_f31 h0_32 h0_33 h0_f34 h0_35 h0_36 h0_37 h0_38 h0_39 h0_40 h0_f41 h0_f42 h0_f43 h0_f44 h0_45 h0_46 h0_47 h0_48 h0_49 h0_50 h0_f51 h0_52 h0_f53 h0_5 h0_5k tN h0_5c) sz)) 0 0 (va_A (wd_c_X12_number_1 h0 h0_f0 h0_1 h0_2 h0_3 h0_4 h0_5 h0_f6 h0_f7 h0_f8 h0_f9 h0_f10 (-1) h0_f12 h0_f13 h0_f14 h0_15 h0_16 h0_f17 h0_18 h0_19 h0_20 h0_21 h0_22 h0_23 h0_24 h0_25 h0_f26 h0_f27 h0_f28 h0_f29 h0_f30 h0_f31 h0_32 h0_33 h0_f34 h0_35 h0_36 h0_37 h0_38 h0_39 h0_40 h0_f41 h0_f42 h0_f43 h0_f44 h0_45 h0_46 h0_47 h0_48 h0_49 h0_50 h0_f51 h0_52 h0_f53 h0_5 h0_5k tN h0_5c) sz) := by
  refine Met.ofW (cc := cX12_number) (maxL := 5) (ret := (some .int)) (by decide +kernel) rfl ?_
  intro p e s m args below meth c s₁ B hml hv
  obtain ⟨rfl, hsz, hP, hK, hD0⟩ := hv
  have hx := B.exec
  have hb := B.bytes
  have hr := B.returns
  have hts := atoms_spec (ws := wf_c_X12_number_1) B.pre
  have hown : s.vm.findClass RX12 = some m.cls := findClass_of_methodNamed B.named
  have hlocks := B.notSynchronized
  subst hsz
  have hD := hD0.self (sz := s.heap.size)
  generalize hAe : va_A (wd_c_X12_number_1 h0 h0_f0 h0_1 h0_2 h0_3 h0_4 h0_5 h0_f6 h0_f7 h0_f8 h0_f9 h0_f10 (-1) h0_f12 h0_f13 h0_f14 h0_15 h0_16 h0_f17 h0_18 h0_19 h0_20 h0_21 h0_22 h0_23 h0_24 h0_25 h0_f26 h0_f27 h0_f28 h0_f29 h0_f30 h0_f31 h0_32 h0_33 h0_f34 h0_35 h0_36 h0_37 h0_38 h0_39 h0_40 h0_f41 h0_f42 h0_f43 h0_f44 h0_45 h0_46 h0_47 h0_48 h0_49 h0_50 h0_f51 h0_52 h0_f53 h0_5 h0_5k tN h0_5c) s.heap.size = A at hD ⊢
  have hA : ∀ q : Nat, s.heap.size ≤ q → A q := fun q h => by rw [← hAe]; exact Or.inr h
  have hP : va_P (dC, dI) vwCl (wd_c_X12_number_1 h0 h0_f0 h0_1 h0_2 h0_3 h0_4 h0_5 h0_f6 h0_f7 h0_f8 h0_f9 h0_f10 (-1) h0_f12 h0_f13 h0_f14 h0_15 h0_16 h0_f17 h0_18 h0_19 h0_20 h0_21 h0_22 h0_23 h0_24 h0_25 h0_f26 h0_f27 h0_f28 h0_f29 h0_f30 h0_f31 h0_32 h0_33 h0_f34 h0_35 h0_36 h0_37 h0_38 h0_39 h0_40 h0_f41 h0_f42 h0_f43 h0_f44 h0_45 h0_46 h0_47 h0_48 h0_49 h0_50 h0_f51 h0_52 h0_f53 h0_5 h0_5k tN h0_5c) s.heap := hP
  have hl := lv_entry ([.ref h0, .int 1, .int 4]) (n := 5) (Nat.le_of_ble_eq_true rfl)
  rw [lg_entry_eq]
  generalize (lg_sl ([.ref h0, .int 1, .int 4]) ++ List.replicate (5 - (lg_sl ([.ref h0, .int 1, .int 4])).length) Slot.unset).toArray = ls at hl ⊢
  have hl : lv_has ls 5 [(0, .ref h0), (1, .int 1), (2, .int 4)] := hl
  obtain ⟨H, hHe⟩ : ∃ H : Heap, s.heap = H := ⟨_, rfl⟩
  have hS : va_S A s.heap H [] := by rw [hHe]; exact va_S.rf
  have hP : va_P (dC, dI) vwCl (wd_c_X12_number_1 h0 h0_f0 h0_1 h0_2 h0_3 h0_4 h0_5 h0_f6 h0_f7 h0_f8 h0_f9 h0_f10 (-1) h0_f12 h0_f13 h0_f14 h0_15 h0_16 h0_f17 h0_18 h0_19 h0_20 h0_21 h0_22 h0_23 h0_24 h0_25 h0_f26 h0_f27 h0_f28 h0_f29 h0_f30 h0_f31 h0_32 h0_33 h0_f34 h0_35 h0_36 h0_37 h0_38 h0_39 h0_40 h0_f41 h0_f42 h0_f43 h0_f44 h0_45 h0_46 h0_47 h0_48 h0_49 h0_50 h0_f51 h0_52 h0_f53 h0_5 h0_5k tN h0_5c) H := by rw [← hHe]; exact hP
  rw [hHe]
  obtain ⟨RES, hR⟩ : ∃ z, fx_c_X12_number_1 h0_f8 h0_f9 h0_f10 h0_5c = z := ⟨_, rfl⟩
  have hEX : RES = fx_c_X12_number_1 h0_f8 h0_f9 h0_f10 h0_5c := hR.symm
  refine wj (fun G hG hU => ?_)
  as_aux_lemma =>
  have J67 : ∀ (j67_l4 : Int32) (j67_h0_f10 : Int32) (g_h0_f10 : RG h0_f10 0 240) (g_h0_f17 : RG h0_f17 0 1) (g_h0_f26 : RG h0_f26 0 8) (g_h0_f27 : RG h0_f27 0 3) (g_h0_f28 : RG h0_f28 0 8) (g_h0_f29 : RG h0_f29 0 3) (g_h0_f30 : RG h0_f30 0 4) (g_h0_f31 : RG h0_f31 0 1) (g_h0_f34 : RG h0_f34 (-1) 3) (g_h0_f41 : RG h0_f41 0 40) (g_h0_f51 : RG h0_f51 0 10) (g_h0_f53 : RG h0_f53 0 1) (g_h0_f6 : RG h0_f6 0 240) (g_h0_f7 : RG h0_f7 0 4) (g_h0_f8 : RG h0_f8 0 720) (g_h0_f9 : RG h0_f9 1 240) (g_j67_h0_f10 : RG j67_h0_f10 1 240) (g_j67_l4 : RG j67_l4 0 99) (r_h0_f10_j67_h0_f10 : h0_f10.toInt + 1 ≤ j67_h0_f10.toInt) (hEX : RES = fx_c_X12_number_1_p67 h0_f8 h0_f9 h0_5c j67_l4 j67_h0_f10) (H : Heap) (locs : List Loc) (ls : Array Slot) (hP : va_P (dC, dI) vwCl (wd_c_X12_number_1 h0 h0_f0 h0_1 h0_2 h0_3 h0_4 h0_5 h0_f6 h0_f7 h0_f8 h0_f9 j67_h0_f10 (-1) h0_f12 h0_f13 h0_f14 h0_15 h0_16 h0_f17 h0_18 h0_19 h0_20 h0_21 h0_22 h0_23 h0_24 h0_25 h0_f26 h0_f27 h0_f28 h0_f29 h0_f30 h0_f31 h0_32 h0_33 h0_f34 h0_35 h0_36 h0_37 h0_38 h0_39 h0_40 h0_f41 h0_f42 h0_f43 h0_f44 h0_45 h0_46 h0_47 h0_48 h0_49 h0_50 h0_f51 h0_52 h0_f53 h0_5 h0_5k tN h0_5c) H) (hD : va_D A (wd_c_X12_number_1 h0 h0_f0 h0_1 h0_2 h0_3 h0_4 h0_5 h0_f6 h0_f7 h0_f8 h0_f9 j67_h0_f10 (-1) h0_f12 h0_f13 h0_f14 h0_15 h0_16 h0_f17 h0_18 h0_19 h0_20 h0_21 h0_22 h0_23 h0_24 h0_25 h0_f26 h0_f27 h0_f28 h0_f29 h0_f30 h0_f31 h0_32 h0_33 h0_f34 h0_35 h0_36 h0_37 h0_38 h0_39 h0_40 h0_f41 h0_f42 h0_f43 h0_f44 h0_45 h0_46 h0_47 h0_48 h0_49 h0_50 h0_f51 h0_52 h0_f53 h0_5 h0_5k tN h0_5c)) (hS : va_S A s.heap H locs) (hl : lv_has ls 5 [(4, .int j67_l4), (0, .ref h0), (1, .int 1), (2, .int 4)]), G H locs (F0 m 67 ls []) := by
    as_aux_lemma =>
    intro j67_l4 j67_h0_f10 g_h0_f10 g_h0_f17 g_h0_f26 g_h0_f27 g_h0_f28 g_h0_f29 g_h0_f30 g_h0_f31 g_h0_f34 g_h0_f41 g_h0_f51 g_h0_f53 g_h0_f6 g_h0_f7 g_h0_f8 g_h0_f9 g_j67_h0_f10 g_j67_l4 r_h0_f10_j67_h0_f10 hEX H locs ls hP hD hS hl
    refine hG _ _ _ ?_
    refine lv_aload_n hx hb dX12_number_67 rfl (lv_at hl 1 rfl) ?_
    obtain ⟨hPc, hDc, hFc, hqc⟩ := cl_cut (wc := (wd_c_X12_isDigit h0 h0_f0 h0_1 h0_2 h0_3 h0_4 h0_5 h0_f6 h0_f7 h0_f8 h0_f9 j67_h0_f10 (-1) h0_f12 h0_f13 h0_f14 h0_15 h0_16 h0_f17 h0_18 h0_19 h0_20 h0_21 h0_22 h0_23 h0_24 h0_25 h0_f26 h0_f27 h0_f28 h0_f29 h0_f30 h0_f31 h0_32 h0_33 h0_f34 h0_35 h0_36 h0_37 h0_38 h0_39 h0_40 h0_f41 h0_f42 h0_f43 h0_f44 h0_45 h0_46 h0_47 h0_48 h0_49 h0_50 h0_f51 h0_52 h0_f53 h0_5 h0_5k tN h0_5c)) hP hD hS hA [0, 1] (by decide +kernel) rfl
    have hKc := hK.sub (tys' := [(h0_5k, .byte)]) [0] rfl
    have hrv := va_recv hKc hPc (ci := 12) (q0 := 0) rfl rfl
    refine va_calli (va_runV (As := []) (rest := []) ⟨hx, hb, hml, hown, hts⟩ (c_X12_isDigit l dC dI H.size h0 h0_f0 h0_1 h0_2 h0_3 h0_4 h0_5 h0_f6 h0_f7 h0_f8 h0_f9 j67_h0_f10 h0_f12 h0_f13 h0_f14 h0_15 h0_16 h0_f17 h0_18 h0_19 h0_20 h0_21 h0_22 h0_23 h0_24 h0_25 h0_f26 h0_f27 h0_f28 h0_f29 h0_f30 h0_f31 h0_32 h0_33 h0_f34 h0_35 h0_36 h0_37 h0_38 h0_39 h0_40 h0_f41 h0_f42 h0_f43 h0_f44 h0_45 h0_46 h0_47 h0_48 h0_49 h0_50 h0_f51 h0_52 h0_f53 h0_5k h0_5c tN g_h0_f6 g_h0_f7 g_h0_f8 (RG_w g_h0_f9 (by decide +kernel)) (RG_w g_j67_h0_f10 (by decide +kernel)) g_h0_f17 g_h0_f26 g_h0_f27 g_h0_f28 g_h0_f29 g_h0_f30 g_h0_f31 g_h0_f34 g_h0_f41 g_h0_f51 g_h0_f53 htN) (cwV 0 hts gf_c_X12_number_1_c_X12_isDigit rfl rfl rfl mdV_X12_isDigit ⟨Nat.le_of_ble_eq_true rfl, Nat.le_of_ble_eq_true rfl⟩) ⟨fun a U g mk q => by obtain ⟨q0, q1, qP, qK, qD⟩ := q; exact ⟨q0, q1, qP, va_K.moved (u := U) (U := U.calling g mk a) (Vm.Alike.refl U.vm) qK, qD⟩, hrv, fun U hU hW => ⟨rfl, by rw [hU], by rw [hU]; exact hPc, va_K.moved hW.alike hKc, hDc.weaken (fun _ _ _ _ => trivial)⟩⟩ rfl rfl hl.1 rfl (lv_room (Nat.le_of_ble_eq_true rfl)) dX12_number_68 ⟨Nat.le_of_ble_eq_true rfl, Nat.le_of_ble_eq_true rfl⟩) hS (fun q _ h => hFc q h) hFc (fun r_1 u t H1 locs ht hvm hw hB hz1 hk1 hS => ?_)
    obtain ⟨hP1, hK1, hD1⟩ := hB
    rw [ht] at hP1
    obtain ⟨hP, hD⟩ := cl_put (w1 := (wd_c_X12_isDigit h0 h0_f0 h0_1 h0_2 h0_3 h0_4 h0_5 h0_f6 h0_f7 h0_f8 h0_f9 j67_h0_f10 (-1) h0_f12 h0_f13 h0_f14 h0_15 h0_16 h0_f17 h0_18 h0_19 h0_20 h0_21 h0_22 h0_23 h0_24 h0_25 h0_f26 h0_f27 h0_f28 h0_f29 h0_f30 h0_f31 h0_32 h0_33 h0_f34 h0_35 h0_36 h0_37 h0_38 h0_39 h0_40 h0_f41 h0_f42 h0_f43 h0_f44 h0_45 h0_46 h0_47 h0_48 h0_49 h0_50 h0_f51 h0_52 h0_f53 h0_5 h0_5k tN h0_5c)) (nw := (wd_c_X12_number_1 h0 h0_f0 h0_1 h0_2 h0_3 h0_4 h0_5 h0_f6 h0_f7 h0_f8 h0_f9 j67_h0_f10 (-1) h0_f12 h0_f13 h0_f14 h0_15 h0_16 h0_f17 h0_18 h0_19 h0_20 h0_21 h0_22 h0_23 h0_24 h0_25 h0_f26 h0_f27 h0_f28 h0_f29 h0_f30 h0_f31 h0_32 h0_33 h0_f34 h0_35 h0_36 h0_37 h0_38 h0_39 h0_40 h0_f41 h0_f42 h0_f43 h0_f44 h0_45 h0_46 h0_47 h0_48 h0_49 h0_50 h0_f51 h0_52 h0_f53 h0_5 h0_5k tN h0_5c)) hP hD [0, 1] [2, 3] 2 rfl hqc (by decide +kernel) rfl hk1 hFc hP1 hD1
    generalize H1 = H at hP hS ⊢
    as_aux_lemma =>
    rcases hw with ⟨h_2, h_3, h_4⟩ | ⟨h_5, h_6, h_7, h_8, h_9, h_10⟩
    · have h_4 : r_1 = _ := h_4
      replace hEX := hEX.trans (exc1_eq h_4)
      replace hEX := hEX.trans (if_pos (show r_1 = 0 from h_2))
      rw [h_2]
      refine lv_if_eq (tgt := 81) hx hb dX12_number_71 rfl (fun c_11 => ?_) (fun c_11 => absurd c_11 (by decide +kernel))
      refine lv_iload hx hb dX12_number_81 (lv_at hl 0 rfl) ?_
      refine lv_i2l (v := j67_l4.toInt64) hx hb dX12_number_83 rfl ?_
      refine lv_topl (fun x_12 ex_12 => ?_)
      replace hEX := hEX.trans (exl_eq ex_12)
      have g_13 : LG x_12 0 99 := LG_i2l ex_12 g_j67_l4
      refine lv_iload_n hx hb dX12_number_84 rfl (lv_at hl 2 rfl) ?_
      refine lv_i2l (v := 1) hx hb dX12_number_85 (by decide +kernel) ?_
      refine lv_iload_n hx hb dX12_number_86 rfl (lv_at hl 3 rfl) ?_
      as_aux_lemma =>
      refine lv_i2l (v := 4) hx hb dX12_number_87 (by decide +kernel) ?_
      obtain ⟨hPc, hDc, hFc, hqc⟩ := cl_cut (wc := []) hP hD hS hA [] (by decide +kernel) rfl
      have hKc := hK.sub (tys' := []) [] rfl
      refine va_calli (va_runS (As := [.long x_12, .long 1, .long 4]) (rest := []) ⟨hx, hb, hml, hown, hts⟩ (c_X12_isIn_2 l dC dI H.size x_12 g_13) (va_cwS 3 hts gf_c_X12_number_1_c_X12_isIn_2 rfl rfl rfl md_X12_isIn ⟨Nat.le_of_ble_eq_true rfl, Nat.le_of_ble_eq_true rfl⟩) ⟨fun a U g mk q => by obtain ⟨q0, q1, qP, qK, qD⟩ := q; exact ⟨q0, q1, qP, va_K.moved (u := U) (U := U.calling g mk a) (Vm.Alike.refl U.vm) qK, qD⟩, fun U hU hW => ⟨rfl, by rw [hU], by rw [hU]; exact hPc, va_K.moved hW.alike hKc, hDc.weaken (fun _ _ _ _ => trivial)⟩⟩ rfl rfl hl.1 rfl (lv_room (Nat.le_of_ble_eq_true rfl)) dX12_number_88 ⟨Nat.le_of_ble_eq_true rfl, Nat.le_of_ble_eq_true rfl⟩) hS (fun q _ h => hFc q h) hFc (fun r_14 u t H1 locs ht hvm hw hB hz1 hk1 hS => ?_)
      obtain ⟨hP1, hK1, hD1⟩ := hB
      rw [ht] at hP1
      have hP := bv_still hP hk1
      generalize H1 = H at hP hS ⊢
      as_aux_lemma =>
      rcases hw with ⟨h_15, h_16⟩ | ⟨h_17, h_18, h_19⟩
      · have h_16 : r_14 = _ := h_16
        replace hEX := hEX.trans (exc1_eq h_16)
        replace hEX := hEX.trans (if_pos (show r_14 = 0 from h_15))
        rw [h_15]
        refine lv_if_ne (tgt := 109) hx hb dX12_number_91 rfl (fun c_20 => absurd c_20 (by decide +kernel)) (fun c_20 => ?_)
        refine lv_aload_n hx hb dX12_number_94 rfl (lv_at hl 1 rfl) ?_
        refine lv_dup hx hb dX12_number_95 rfl ?_
        refine va_get (D := (dC, dI)) (ci := 12) (v := .int j67_h0_f10) (C := RX12) (T := TX12) (N := 54) hx hb hts iw_c_X12_number_1_X12 hown hK hP 0 rfl rfl 10 (by decide +kernel) (hts (.fieldLink RX12 134 "BuoyVoteModel" "at" "I") (List.mem_of_getElem? (i := 6) rfl)) (fun _ h9 => h9) rfl dX12_number_96 ?_
        refine lv_iconst (v := 1) hx hb dX12_number_99 kc_iconst_1 ?_
        refine lv_isub hx hb dX12_number_100 ?_
        refine lv_topi (fun x_21 ex_21 => ?_)
        replace hEX := hEX.trans (exl_eq ex_21)
        have g_22 : RG x_21 0 239 := RG_sub ex_21 g_j67_h0_f10 (RG_k 1 1 rfl) (by decide +kernel)
        refine va_put (D := (dC, dI)) (ci := 12) (v := .int x_21) (ty := .int) (C := RX12) (T := TX12) (N := 54) hx hb hts iw_c_X12_number_1_X12 tyX12 tyX12_ok nmX12 hown hK hP hD hS 0 rfl rfl 10 (by decide +kernel) (hts (.fieldLink RX12 134 "BuoyVoteModel" "at" "I") (List.mem_of_getElem? (i := 6) rfl)) (fun _ h9 => h9) rfl (by decide +kernel) rfl rfl (Nat.le_of_ble_eq_true rfl) dX12_number_101 (fun H locs hP hD hS => ?_)
        as_aux_lemma =>
        have hP : va_P (dC, dI) vwCl (wd_c_X12_number_1 h0 h0_f0 h0_1 h0_2 h0_3 h0_4 h0_5 h0_f6 h0_f7 h0_f8 h0_f9 x_21 (-1) h0_f12 h0_f13 h0_f14 h0_15 h0_16 h0_f17 h0_18 h0_19 h0_20 h0_21 h0_22 h0_23 h0_24 h0_25 h0_f26 h0_f27 h0_f28 h0_f29 h0_f30 h0_f31 h0_32 h0_33 h0_f34 h0_35 h0_36 h0_37 h0_38 h0_39 h0_40 h0_f41 h0_f42 h0_f43 h0_f44 h0_45 h0_46 h0_47 h0_48 h0_49 h0_50 h0_f51 h0_52 h0_f53 h0_5 h0_5k tN h0_5c) H := hP
        have hD : va_D A (wd_c_X12_number_1 h0 h0_f0 h0_1 h0_2 h0_3 h0_4 h0_5 h0_f6 h0_f7 h0_f8 h0_f9 x_21 (-1) h0_f12 h0_f13 h0_f14 h0_15 h0_16 h0_f17 h0_18 h0_19 h0_20 h0_21 h0_22 h0_23 h0_24 h0_25 h0_f26 h0_f27 h0_f28 h0_f29 h0_f30 h0_f31 h0_32 h0_33 h0_f34 h0_35 h0_36 h0_37 h0_38 h0_39 h0_40 h0_f41 h0_f42 h0_f43 h0_f44 h0_45 h0_46 h0_47 h0_48 h0_49 h0_50 h0_f51 h0_52 h0_f53 h0_5 h0_5k tN h0_5c) := hD
        refine lv_aload_n hx hb dX12_number_104 rfl (lv_at hl 1 rfl) ?_
        obtain ⟨hPc, hDc, hFc, hqc⟩ := cl_cut (wc := (wd_c_X12_fails h0 h0_f0 h0_1 h0_2 h0_3 h0_4 h0_5 h0_f6 h0_f7 h0_f8 h0_f9 x_21 (-1) h0_f12 h0_f13 h0_f14 h0_15 h0_16 h0_f17 h0_18 h0_19 h0_20 h0_21 h0_22 h0_23 h0_24 h0_25 h0_f26 h0_f27 h0_f28 h0_f29 h0_f30 h0_f31 h0_32 h0_33 h0_f34 h0_35 h0_36 h0_37 h0_38 h0_39 h0_40 h0_f41 h0_f42 h0_f43 h0_f44 h0_45 h0_46 h0_47 h0_48 h0_49 h0_50 h0_f51 h0_52 h0_f53)) hP hD hS hA [0] (by decide +kernel) rfl
        have hKc := hK.sub (tys' := []) [] rfl
        have hrv := va_recv hKc hPc (ci := 12) (q0 := 0) rfl rfl
        refine va_calli (va_runV (As := []) (rest := []) ⟨hx, hb, hml, hown, hts⟩ (c_X12_fails l dC dI H.size h0 h0_f0 h0_1 h0_2 h0_3 h0_4 h0_5 h0_f6 h0_f7 h0_f8 h0_f9 x_21 h0_f12 h0_f13 h0_f14 h0_15 h0_16 h0_f17 h0_18 h0_19 h0_20 h0_21 h0_22 h0_23 h0_24 h0_25 h0_f26 h0_f27 h0_f28 h0_f29 h0_f30 h0_f31 h0_32 h0_33 h0_f34 h0_35 h0_36 h0_37 h0_38 h0_39 h0_40 h0_f41 h0_f42 h0_f43 h0_f44 h0_45 h0_46 h0_47 h0_48 h0_49 h0_50 h0_f51 h0_52 h0_f53 g_h0_f6 g_h0_f7 g_h0_f8 (RG_w g_h0_f9 (by decide +kernel)) (RG_w g_22 (by decide +kernel)) g_h0_f17 g_h0_f26 g_h0_f27 g_h0_f28 g_h0_f29 g_h0_f30 g_h0_f31 g_h0_f34 g_h0_f41 g_h0_f51 g_h0_f53) (cwV 0 hts gf_c_X12_number_1_c_X12_fails rfl rfl rfl mdV_X12_fails ⟨Nat.le_of_ble_eq_true rfl, Nat.le_of_ble_eq_true rfl⟩) ⟨fun a U g mk q => by obtain ⟨q0, q1, qP, qK, qD⟩ := q; exact ⟨q0, q1, qP, va_K.moved (u := U) (U := U.calling g mk a) (Vm.Alike.refl U.vm) qK, qD⟩, hrv, fun U hU hW => ⟨rfl, by rw [hU], by rw [hU]; exact hPc, va_K.moved hW.alike hKc, hDc.weaken (fun _ _ _ _ => trivial)⟩⟩ rfl rfl hl.1 rfl (lv_room (Nat.le_of_ble_eq_true rfl)) dX12_number_105 ⟨Nat.le_of_ble_eq_true rfl, Nat.le_of_ble_eq_true rfl⟩) hS (fun q _ h => hFc q h) hFc (fun r_23 u t H1 locs ht hvm hw hB hz1 hk1 hS => ?_)
        obtain ⟨hP1, hK1, hD1⟩ := hB
        rw [ht] at hP1
        obtain ⟨hP, hD⟩ := cl_put (w1 := (wd_c_X12_fails h0 h0_f0 h0_1 h0_2 h0_3 h0_4 h0_5 h0_f6 h0_f7 h0_f8 h0_f9 x_21 x_21 h0_f12 h0_f13 h0_f14 h0_15 h0_16 h0_f17 h0_18 h0_19 h0_20 h0_21 h0_22 h0_23 h0_24 h0_25 h0_f26 h0_f27 h0_f28 h0_f29 h0_f30 h0_f31 h0_32 h0_33 h0_f34 h0_35 h0_36 h0_37 h0_38 h0_39 h0_40 h0_f41 h0_f42 h0_f43 h0_f44 h0_45 h0_46 h0_47 h0_48 h0_49 h0_50 h0_f51 h0_52 h0_f53)) (nw := (wd_c_X12_number_1 h0 h0_f0 h0_1 h0_2 h0_3 h0_4 h0_5 h0_f6 h0_f7 h0_f8 h0_f9 x_21 x_21 h0_f12 h0_f13 h0_f14 h0_15 h0_16 h0_f17 h0_18 h0_19 h0_20 h0_21 h0_22 h0_23 h0_24 h0_25 h0_f26 h0_f27 h0_f28 h0_f29 h0_f30 h0_f31 h0_32 h0_33 h0_f34 h0_35 h0_36 h0_37 h0_38 h0_39 h0_40 h0_f41 h0_f42 h0_f43 h0_f44 h0_45 h0_46 h0_47 h0_48 h0_49 h0_50 h0_f51 h0_52 h0_f53 h0_5 h0_5k tN h0_5c)) hP hD [0] [2, 1] 2 rfl hqc (by decide +kernel) rfl hk1 hFc hP1 hD1
        generalize H1 = H at hP hS ⊢
        as_aux_lemma =>
        rcases hw with ⟨h_24, h_25⟩
        have h_25 : r_23 = _ := h_25
        replace hEX := hEX.trans (exc1_eq h_25)
        rw [h_24]
        refine lv_pop hx hb dX12_number_108 rfl ?_
        refine lv_iload hx hb dX12_number_109 (lv_at hl 0 rfl) ?_
        have hK9 := hK.sub (tys' := []) [] rfl
        exact W.iret (v := j67_l4) hx hb hr (fun t ht hW => ⟨⟨j67_l4, (x_21, x_21), rfl, (Or.inr ⟨g_j67_l4, (RG_w g_22 (by decide +kernel)), (RG_w g_22 (by decide +kernel)), (hR.trans hEX).symm⟩), by rw [ht]; exact hP, va_K.moved hW.alike hK9, hD⟩, hS.F ht⟩) hS.2.2 dX12_number_111
      · have h_19 : r_14 = _ := h_19
        replace hEX := hEX.trans (exc1_eq h_19)
        replace hEX := hEX.trans (if_neg (fun q9 : r_14 = 0 => absurd ((show r_14 = 1 from h_17).symm.trans q9) (by decide +kernel)))
        rw [h_17]
        have g_26 : RG j67_l4 1 4 := RG_of_LG g_j67_l4 h_18 ex_12 (by decide +kernel)
        refine lv_if_ne (tgt := 109) hx hb dX12_number_91 rfl (fun c_27 => ?_) (fun c_27 => absurd c_27 (by decide +kernel))
        refine lv_iload hx hb dX12_number_109 (lv_at hl 0 rfl) ?_
        as_aux_lemma =>
        have hK9 := hK.sub (tys' := []) [] rfl
        exact W.iret (v := j67_l4) hx hb hr (fun t ht hW => ⟨⟨j67_l4, (j67_h0_f10, (-1)), rfl, (Or.inl ⟨g_26, g_j67_h0_f10, rfl, g_h0_f9, (by have := r_h0_f10_j67_h0_f10; show h0_f10.toInt + 1 ≤ j67_h0_f10.toInt; omega), (hR.trans hEX).symm⟩), by rw [ht]; exact hP, va_K.moved hW.alike hK9, hD⟩, hS.F ht⟩) hS.2.2 dX12_number_111
    · have h_10 : r_1 = _ := h_10
      replace hEX := hEX.trans (exc1_eq h_10)
      replace hEX := hEX.trans (if_neg (fun q9 : r_1 = 0 => absurd ((show r_1 = 1 from h_5).symm.trans q9) (by decide +kernel)))
      rw [h_5]
      have g_28 : RG j67_h0_f10 1 239 := RG_eq1 g_j67_h0_f10 h_6 rfl (by decide +kernel)
      have g_29 := h_9 h_5
      refine lv_if_eq (tgt := 81) hx hb dX12_number_71 rfl (fun c_30 => absurd c_30 (by decide +kernel)) (fun c_30 => ?_)
      refine lv_aload_n hx hb dX12_number_74 rfl (lv_at hl 1 rfl) ?_
      obtain ⟨hPc, hDc, hFc, hqc⟩ := cl_cut (wc := (wd_c_X12_fails h0 h0_f0 h0_1 h0_2 h0_3 h0_4 h0_5 h0_f6 h0_f7 h0_f8 h0_f9 j67_h0_f10 (-1) h0_f12 h0_f13 h0_f14 h0_15 h0_16 h0_f17 h0_18 h0_19 h0_20 h0_21 h0_22 h0_23 h0_24 h0_25 h0_f26 h0_f27 h0_f28 h0_f29 h0_f30 h0_f31 h0_32 h0_33 h0_f34 h0_35 h0_36 h0_37 h0_38 h0_39 h0_40 h0_f41 h0_f42 h0_f43 h0_f44 h0_45 h0_46 h0_47 h0_48 h0_49 h0_50 h0_f51 h0_52 h0_f53)) hP hD hS hA [0] (by decide +kernel) rfl
      have hKc := hK.sub (tys' := []) [] rfl
      have hrv := va_recv hKc hPc (ci := 12) (q0 := 0) rfl rfl
      refine va_calli (va_runV (As := []) (rest := []) ⟨hx, hb, hml, hown, hts⟩ (c_X12_fails l dC dI H.size h0 h0_f0 h0_1 h0_2 h0_3 h0_4 h0_5 h0_f6 h0_f7 h0_f8 h0_f9 j67_h0_f10 h0_f12 h0_f13 h0_f14 h0_15 h0_16 h0_f17 h0_18 h0_19 h0_20 h0_21 h0_22 h0_23 h0_24 h0_25 h0_f26 h0_f27 h0_f28 h0_f29 h0_f30 h0_f31 h0_32 h0_33 h0_f34 h0_35 h0_36 h0_37 h0_38 h0_39 h0_40 h0_f41 h0_f42 h0_f43 h0_f44 h0_45 h0_46 h0_47 h0_48 h0_49 h0_50 h0_f51 h0_52 h0_f53 g_h0_f6 g_h0_f7 g_h0_f8 (RG_w g_h0_f9 (by decide +kernel)) (RG_w g_28 (by decide +kernel)) g_h0_f17 g_h0_f26 g_h0_f27 g_h0_f28 g_h0_f29 g_h0_f30 g_h0_f31 g_h0_f34 g_h0_f41 g_h0_f51 g_h0_f53) (cwV 0 hts gf_c_X12_number_1_c_X12_fails rfl rfl rfl mdV_X12_fails ⟨Nat.le_of_ble_eq_true rfl, Nat.le_of_ble_eq_true rfl⟩) ⟨fun a U g mk q => by obtain ⟨q0, q1, qP, qK, qD⟩ := q; exact ⟨q0, q1, qP, va_K.moved (u := U) (U := U.calling g mk a) (Vm.Alike.refl U.vm) qK, qD⟩, hrv, fun U hU hW => ⟨rfl, by rw [hU], by rw [hU]; exact hPc, va_K.moved hW.alike hKc, hDc.weaken (fun _ _ _ _ => trivial)⟩⟩ rfl rfl hl.1 rfl (lv_room (Nat.le_of_ble_eq_true rfl)) dX12_number_75 ⟨Nat.le_of_ble_eq_true rfl, Nat.le_of_ble_eq_true rfl⟩) hS (fun q _ h => hFc q h) hFc (fun r_31 u t H1 locs ht hvm hw hB hz1 hk1 hS => ?_)
      as_aux_lemma =>
      obtain ⟨hP1, hK1, hD1⟩ := hB
      rw [ht] at hP1
      obtain ⟨hP, hD⟩ := cl_put (w1 := (wd_c_X12_fails h0 h0_f0 h0_1 h0_2 h0_3 h0_4 h0_5 h0_f6 h0_f7 h0_f8 h0_f9 j67_h0_f10 j67_h0_f10 h0_f12 h0_f13 h0_f14 h0_15 h0_16 h0_f17 h0_18 h0_19 h0_20 h0_21 h0_22 h0_23 h0_24 h0_25 h0_f26 h0_f27 h0_f28 h0_f29 h0_f30 h0_f31 h0_32 h0_33 h0_f34 h0_35 h0_36 h0_37 h0_38 h0_39 h0_40 h0_f41 h0_f42 h0_f43 h0_f44 h0_45 h0_46 h0_47 h0_48 h0_49 h0_50 h0_f51 h0_52 h0_f53)) (nw := (wd_c_X12_number_1 h0 h0_f0 h0_1 h0_2 h0_3 h0_4 h0_5 h0_f6 h0_f7 h0_f8 h0_f9 j67_h0_f10 j67_h0_f10 h0_f12 h0_f13 h0_f14 h0_15 h0_16 h0_f17 h0_18 h0_19 h0_20 h0_21 h0_22 h0_23 h0_24 h0_25 h0_f26 h0_f27 h0_f28 h0_f29 h0_f30 h0_f31 h0_32 h0_33 h0_f34 h0_35 h0_36 h0_37 h0_38 h0_39 h0_40 h0_f41 h0_f42 h0_f43 h0_f44 h0_45 h0_46 h0_47 h0_48 h0_49 h0_50 h0_f51 h0_52 h0_f53 h0_5 h0_5k tN h0_5c)) hP hD [0] [2, 1] 2 rfl hqc (by decide +kernel) rfl hk1 hFc hP1 hD1
      generalize H1 = H at hP hS ⊢
      as_aux_lemma =>
      rcases hw with ⟨h_32, h_33⟩
      have h_33 : r_31 = _ := h_33
      replace hEX := hEX.trans (exc1_eq h_33)
      rw [h_32]
      refine lv_pop hx hb dX12_number_78 rfl ?_
      refine lv_iconst (v := 0) hx hb dX12_number_79 kc_iconst_0 ?_
      have hK9 := hK.sub (tys' := []) [] rfl
      exact W.iret (v := 0) hx hb hr (fun t ht hW => ⟨⟨0, (j67_h0_f10, j67_h0_f10), rfl, (Or.inr ⟨(RG_w (RG_k 0 0 rfl) (by decide +kernel)), (RG_w g_28 (by decide +kernel)), (RG_w g_28 (by decide +kernel)), (hR.trans hEX).symm⟩), by rw [ht]; exact hP, va_K.moved hW.alike hK9, hD⟩, hS.F ht⟩) hS.2.2 dX12_number_80
  refine hG _ _ _ ?_
  refine lv_aload_n hx hb dX12_number_0 rfl (lv_at hl 0 rfl) ?_
  obtain ⟨hPc, hDc, hFc, hqc⟩ := cl_cut (wc := (wd_c_X12_look h0 h0_f0 h0_1 h0_2 h0_3 h0_4 h0_5 h0_f6 h0_f7 h0_f8 h0_f9 h0_f10 (-1) h0_f12 h0_f13 h0_f14 h0_15 h0_16 h0_f17 h0_18 h0_19 h0_20 h0_21 h0_22 h0_23 h0_24 h0_25 h0_f26 h0_f27 h0_f28 h0_f29 h0_f30 h0_f31 h0_32 h0_33 h0_f34 h0_35 h0_36 h0_37 h0_38 h0_39 h0_40 h0_f41 h0_f42 h0_f43 h0_f44 h0_45 h0_46 h0_47 h0_48 h0_49 h0_50 h0_f51 h0_52 h0_f53 h0_5 h0_5k tN h0_5c)) hP hD hS hA [0, 1] (by decide +kernel) rfl
  have hKc := hK.sub (tys' := [(h0_5k, .byte)]) [0] rfl
  have hrv := va_recv hKc hPc (ci := 12) (q0 := 0) rfl rfl
  refine va_calli (va_runV (As := []) (rest := []) ⟨hx, hb, hml, hown, hts⟩ (c_X12_look l dC dI H.size h0 h0_f0 h0_1 h0_2 h0_3 h0_4 h0_5 h0_f6 h0_f7 h0_f8 h0_f9 h0_f10 h0_f12 h0_f13 h0_f14 h0_15 h0_16 h0_f17 h0_18 h0_19 h0_20 h0_21 h0_22 h0_23 h0_24 h0_25 h0_f26 h0_f27 h0_f28 h0_f29 h0_f30 h0_f31 h0_32 h0_33 h0_f34 h0_35 h0_36 h0_37 h0_38 h0_39 h0_40 h0_f41 h0_f42 h0_f43 h0_f44 h0_45 h0_46 h0_47 h0_48 h0_49 h0_50 h0_f51 h0_52 h0_f53 h0_5k h0_5c tN g_h0_f6 g_h0_f7 g_h0_f8 g_h0_f9 g_h0_f10 g_h0_f17 g_h0_f26 g_h0_f27 g_h0_f28 g_h0_f29 g_h0_f30 g_h0_f31 g_h0_f34 g_h0_f41 g_h0_f51 g_h0_f53 htN) (cwV 0 hts gf_c_X12_number_1_c_X12_look rfl rfl rfl mdV_X12_look ⟨Nat.le_of_ble_eq_true rfl, Nat.le_of_ble_eq_true rfl⟩) ⟨fun a U g mk q => by obtain ⟨q0, q1, qP, qK, qD⟩ := q; exact ⟨q0, q1, qP, va_K.moved (u := U) (U := U.calling g mk a) (Vm.Alike.refl U.vm) qK, qD⟩, hrv, fun U hU hW => ⟨rfl, by rw [hU], by rw [hU]; exact hPc, va_K.moved hW.alike hKc, hDc.weaken (fun _ _ _ _ => trivial)⟩⟩ rfl rfl hl.1 rfl (lv_room (Nat.le_of_ble_eq_true rfl)) dX12_number_1 ⟨Nat.le_of_ble_eq_true rfl, Nat.le_of_ble_eq_true rfl⟩) hS (fun q _ h => hFc q h) hFc (fun r_34 x_35 t H1 locs ht hvm hw hB hz1 hk1 hS => ?_)
  as_aux_lemma =>
  obtain ⟨hP1, hK1, hD1⟩ := hB
  rw [ht] at hP1
  obtain ⟨hP, hD⟩ := cl_put (w1 := (wd_c_X12_look h0 h0_f0 h0_1 h0_2 h0_3 h0_4 h0_5 h0_f6 h0_f7 h0_f8 h0_f9 x_35 (-1) h0_f12 h0_f13 h0_f14 h0_15 h0_16 h0_f17 h0_18 h0_19 h0_20 h0_21 h0_22 h0_23 h0_24 h0_25 h0_f26 h0_f27 h0_f28 h0_f29 h0_f30 h0_f31 h0_32 h0_33 h0_f34 h0_35 h0_36 h0_37 h0_38 h0_39 h0_40 h0_f41 h0_f42 h0_f43 h0_f44 h0_45 h0_46 h0_47 h0_48 h0_49 h0_50 h0_f51 h0_52 h0_f53 h0_5 h0_5k tN h0_5c)) (nw := (wd_c_X12_number_1 h0 h0_f0 h0_1 h0_2 h0_3 h0_4 h0_5 h0_f6 h0_f7 h0_f8 h0_f9 x_35 (-1) h0_f12 h0_f13 h0_f14 h0_15 h0_16 h0_f17 h0_18 h0_19 h0_20 h0_21 h0_22 h0_23 h0_24 h0_25 h0_f26 h0_f27 h0_f28 h0_f29 h0_f30 h0_f31 h0_32 h0_33 h0_f34 h0_35 h0_36 h0_37 h0_38 h0_39 h0_40 h0_f41 h0_f42 h0_f43 h0_f44 h0_45 h0_46 h0_47 h0_48 h0_49 h0_50 h0_f51 h0_52 h0_f53 h0_5 h0_5k tN h0_5c)) hP hD [0, 1] [2, 3] 2 rfl hqc (by decide +kernel) rfl hk1 hFc hP1 hD1
  generalize H1 = H at hP hS ⊢
  as_aux_lemma =>
  rcases hw with ⟨h_36, h_37, h_38, h_39, h_40, h_41⟩ | ⟨h_42, h_43, h_44, h_45, h_46, h_47, h_48⟩
  · have h_41 : (r_34, x_35) = _ := h_41
    replace hEX := hEX.trans (exc2_eq h_41)
    replace hEX := hEX.trans (if_pos (show r_34 = (-1) from h_36))
    rw [h_36]
    refine lv_istore_n (lv' := [(3, .int (-1)), (0, .ref h0), (1, .int 1), (2, .int 4)]) hx hb dX12_number_4 rfl hl (Nat.le_of_ble_eq_true rfl) rfl (fun ls hl => ?_)
    refine lv_aload_n hx hb dX12_number_5 rfl (lv_at hl 1 rfl) ?_
    obtain ⟨hPc, hDc, hFc, hqc⟩ := cl_cut (wc := (wd_c_X12_isDigit h0 h0_f0 h0_1 h0_2 h0_3 h0_4 h0_5 h0_f6 h0_f7 h0_f8 h0_f9 x_35 (-1) h0_f12 h0_f13 h0_f14 h0_15 h0_16 h0_f17 h0_18 h0_19 h0_20 h0_21 h0_22 h0_23 h0_24 h0_25 h0_f26 h0_f27 h0_f28 h0_f29 h0_f30 h0_f31 h0_32 h0_33 h0_f34 h0_35 h0_36 h0_37 h0_38 h0_39 h0_40 h0_f41 h0_f42 h0_f43 h0_f44 h0_45 h0_46 h0_47 h0_48 h0_49 h0_50 h0_f51 h0_52 h0_f53 h0_5 h0_5k tN h0_5c)) hP hD hS hA [0, 1] (by decide +kernel) rfl
    have hKc := hK.sub (tys' := [(h0_5k, .byte)]) [0] rfl
    have hrv := va_recv hKc hPc (ci := 12) (q0 := 0) rfl rfl
    refine va_calli (va_runV (As := []) (rest := []) ⟨hx, hb, hml, hown, hts⟩ (c_X12_isDigit l dC dI H.size h0 h0_f0 h0_1 h0_2 h0_3 h0_4 h0_5 h0_f6 h0_f7 h0_f8 h0_f9 x_35 h0_f12 h0_f13 h0_f14 h0_15 h0_16 h0_f17 h0_18 h0_19 h0_20 h0_21 h0_22 h0_23 h0_24 h0_25 h0_f26 h0_f27 h0_f28 h0_f29 h0_f30 h0_f31 h0_32 h0_33 h0_f34 h0_35 h0_36 h0_37 h0_38 h0_39 h0_40 h0_f41 h0_f42 h0_f43 h0_f44 h0_45 h0_46 h0_47 h0_48 h0_49 h0_50 h0_f51 h0_52 h0_f53 h0_5k h0_5c tN g_h0_f6 g_h0_f7 g_h0_f8 g_h0_f9 h_37 g_h0_f17 g_h0_f26 g_h0_f27 g_h0_f28 g_h0_f29 g_h0_f30 g_h0_f31 g_h0_f34 g_h0_f41 g_h0_f51 g_h0_f53 htN) (cwV 0 hts gf_c_X12_number_1_c_X12_isDigit rfl rfl rfl mdV_X12_isDigit ⟨Nat.le_of_ble_eq_true rfl, Nat.le_of_ble_eq_true rfl⟩) ⟨fun a U g mk q => by obtain ⟨q0, q1, qP, qK, qD⟩ := q; exact ⟨q0, q1, qP, va_K.moved (u := U) (U := U.calling g mk a) (Vm.Alike.refl U.vm) qK, qD⟩, hrv, fun U hU hW => ⟨rfl, by rw [hU], by rw [hU]; exact hPc, va_K.moved hW.alike hKc, hDc.weaken (fun _ _ _ _ => trivial)⟩⟩ rfl rfl hl.1 rfl (lv_room (Nat.le_of_ble_eq_true rfl)) dX12_number_6 ⟨Nat.le_of_ble_eq_true rfl, Nat.le_of_ble_eq_true rfl⟩) hS (fun q _ h => hFc q h) hFc (fun r_49 u t H1 locs ht hvm hw hB hz1 hk1 hS => ?_)
    obtain ⟨hP1, hK1, hD1⟩ := hB
    rw [ht] at hP1
    obtain ⟨hP, hD⟩ := cl_put (w1 := (wd_c_X12_isDigit h0 h0_f0 h0_1 h0_2 h0_3 h0_4 h0_5 h0_f6 h0_f7 h0_f8 h0_f9 x_35 (-1) h0_f12 h0_f13 h0_f14 h0_15 h0_16 h0_f17 h0_18 h0_19 h0_20 h0_21 h0_22 h0_23 h0_24 h0_25 h0_f26 h0_f27 h0_f28 h0_f29 h0_f30 h0_f31 h0_32 h0_33 h0_f34 h0_35 h0_36 h0_37 h0_38 h0_39 h0_40 h0_f41 h0_f42 h0_f43 h0_f44 h0_45 h0_46 h0_47 h0_48 h0_49 h0_50 h0_f51 h0_52 h0_f53 h0_5 h0_5k tN h0_5c)) (nw := (wd_c_X12_number_1 h0 h0_f0 h0_1 h0_2 h0_3 h0_4 h0_5 h0_f6 h0_f7 h0_f8 h0_f9 x_35 (-1) h0_f12 h0_f13 h0_f14 h0_15 h0_16 h0_f17 h0_18 h0_19 h0_20 h0_21 h0_22 h0_23 h0_24 h0_25 h0_f26 h0_f27 h0_f28 h0_f29 h0_f30 h0_f31 h0_32 h0_33 h0_f34 h0_35 h0_36 h0_37 h0_38 h0_39 h0_40 h0_f41 h0_f42 h0_f43 h0_f44 h0_45 h0_46 h0_47 h0_48 h0_49 h0_50 h0_f51 h0_52 h0_f53 h0_5 h0_5k tN h0_5c)) hP hD [0, 1] [2, 3] 2 rfl hqc (by decide +kernel) rfl hk1 hFc hP1 hD1
    generalize H1 = H at hP hS ⊢
    as_aux_lemma =>
    rcases hw with ⟨h_50, h_51, h_52⟩ | ⟨h_53, h_54, h_55, h_56, h_57, h_58⟩
    · have h_52 : r_49 = _ := h_52
      replace hEX := hEX.trans (exc1_eq h_52)
      replace hEX := hEX.trans (if_pos (show r_49 = 0 from h_50))
      rw [h_50]
      refine lv_if_ne (tgt := 19) hx hb dX12_number_9 rfl (fun c_59 => absurd c_59 (by decide +kernel)) (fun c_59 => ?_)
      refine lv_aload_n hx hb dX12_number_12 rfl (lv_at hl 1 rfl) ?_
      obtain ⟨hPc, hDc, hFc, hqc⟩ := cl_cut (wc := (wd_c_X12_fails h0 h0_f0 h0_1 h0_2 h0_3 h0_4 h0_5 h0_f6 h0_f7 h0_f8 h0_f9 x_35 (-1) h0_f12 h0_f13 h0_f14 h0_15 h0_16 h0_f17 h0_18 h0_19 h0_20 h0_21 h0_22 h0_23 h0_24 h0_25 h0_f26 h0_f27 h0_f28 h0_f29 h0_f30 h0_f31 h0_32 h0_33 h0_f34 h0_35 h0_36 h0_37 h0_38 h0_39 h0_40 h0_f41 h0_f42 h0_f43 h0_f44 h0_45 h0_46 h0_47 h0_48 h0_49 h0_50 h0_f51 h0_52 h0_f53)) hP hD hS hA [0] (by decide +kernel) rfl
      have hKc := hK.sub (tys' := []) [] rfl
      have hrv := va_recv hKc hPc (ci := 12) (q0 := 0) rfl rfl
      refine va_calli (va_runV (As := []) (rest := []) ⟨hx, hb, hml, hown, hts⟩ (c_X12_fails l dC dI H.size h0 h0_f0 h0_1 h0_2 h0_3 h0_4 h0_5 h0_f6 h0_f7 h0_f8 h0_f9 x_35 h0_f12 h0_f13 h0_f14 h0_15 h0_16 h0_f17 h0_18 h0_19 h0_20 h0_21 h0_22 h0_23 h0_24 h0_25 h0_f26 h0_f27 h0_f28 h0_f29 h0_f30 h0_f31 h0_32 h0_33 h0_f34 h0_35 h0_36 h0_37 h0_38 h0_39 h0_40 h0_f41 h0_f42 h0_f43 h0_f44 h0_45 h0_46 h0_47 h0_48 h0_49 h0_50 h0_f51 h0_52 h0_f53 g_h0_f6 g_h0_f7 g_h0_f8 g_h0_f9 h_37 g_h0_f17 g_h0_f26 g_h0_f27 g_h0_f28 g_h0_f29 g_h0_f30 g_h0_f31 g_h0_f34 g_h0_f41 g_h0_f51 g_h0_f53) (cwV 0 hts gf_c_X12_number_1_c_X12_fails rfl rfl rfl mdV_X12_fails ⟨Nat.le_of_ble_eq_true rfl, Nat.le_of_ble_eq_true rfl⟩) ⟨fun a U g mk q => by obtain ⟨q0, q1, qP, qK, qD⟩ := q; exact ⟨q0, q1, qP, va_K.moved (u := U) (U := U.calling g mk a) (Vm.Alike.refl U.vm) qK, qD⟩, hrv, fun U hU hW => ⟨rfl, by rw [hU], by rw [hU]; exact hPc, va_K.moved hW.alike hKc, hDc.weaken (fun _ _ _ _ => trivial)⟩⟩ rfl rfl hl.1 rfl (lv_room (Nat.le_of_ble_eq_true rfl)) dX12_number_13 ⟨Nat.le_of_ble_eq_true rfl, Nat.le_of_ble_eq_true rfl⟩) hS (fun q _ h => hFc q h) hFc (fun r_60 u t H1 locs ht hvm hw hB hz1 hk1 hS => ?_)
      obtain ⟨hP1, hK1, hD1⟩ := hB
      rw [ht] at hP1
      obtain ⟨hP, hD⟩ := cl_put (w1 := (wd_c_X12_fails h0 h0_f0 h0_1 h0_2 h0_3 h0_4 h0_5 h0_f6 h0_f7 h0_f8 h0_f9 x_35 x_35 h0_f12 h0_f13 h0_f14 h0_15 h0_16 h0_f17 h0_18 h0_19 h0_20 h0_21 h0_22 h0_23 h0_24 h0_25 h0_f26 h0_f27 h0_f28 h0_f29 h0_f30 h0_f31 h0_32 h0_33 h0_f34 h0_35 h0_36 h0_37 h0_38 h0_39 h0_40 h0_f41 h0_f42 h0_f43 h0_f44 h0_45 h0_46 h0_47 h0_48 h0_49 h0_50 h0_f51 h0_52 h0_f53)) (nw := (wd_c_X12_number_1 h0 h0_f0 h0_1 h0_2 h0_3 h0_4 h0_5 h0_f6 h0_f7 h0_f8 h0_f9 x_35 x_35 h0_f12 h0_f13 h0_f14 h0_15 h0_16 h0_f17 h0_18 h0_19 h0_20 h0_21 h0_22 h0_23 h0_24 h0_25 h0_f26 h0_f27 h0_f28 h0_f29 h0_f30 h0_f31 h0_32 h0_33 h0_f34 h0_35 h0_36 h0_37 h0_38 h0_39 h0_40 h0_f41 h0_f42 h0_f43 h0_f44 h0_45 h0_46 h0_47 h0_48 h0_49 h0_50 h0_f51 h0_52 h0_f53 h0_5 h0_5k tN h0_5c)) hP hD [0] [2, 1] 2 rfl hqc (by decide +kernel) rfl hk1 hFc hP1 hD1
      generalize H1 = H at hP hS ⊢
      as_aux_lemma =>
      rcases hw with ⟨h_61, h_62⟩
      have h_62 : r_60 = _ := h_62
      replace hEX := hEX.trans (exc1_eq h_62)
      rw [h_61]
      refine lv_pop hx hb dX12_number_16 rfl ?_
      refine lv_iconst (v := 0) hx hb dX12_number_17 kc_iconst_0 ?_
      have hK9 := hK.sub (tys' := []) [] rfl
      exact W.iret (v := 0) hx hb hr (fun t ht hW => ⟨⟨0, (x_35, x_35), rfl, (Or.inr ⟨(RG_w (RG_k 0 0 rfl) (by decide +kernel)), h_37, h_37, (hR.trans hEX).symm⟩), by rw [ht]; exact hP, va_K.moved hW.alike hK9, hD⟩, hS.F ht⟩) hS.2.2 dX12_number_18
    · have h_58 : r_49 = _ := h_58
      replace hEX := hEX.trans (exc1_eq h_58)
      replace hEX := hEX.trans (if_neg (fun q9 : r_49 = 0 => absurd ((show r_49 = 1 from h_53).symm.trans q9) (by decide +kernel)))
      rw [h_53]
      exfalso
      have := h_56
      have := h_39
      omega
  · have h_48 : (r_34, x_35) = _ := h_48
    replace hEX := hEX.trans (exc2_eq h_48)
    replace hEX := hEX.trans (if_neg (RG_neq (x := r_34) (c := (-1)) (show RG r_34 0 255 from h_42) (by decide +kernel)))
    have nb_63 := h_47.2.resolve_left (fun q => by have g9 := h_42; rw [q] at g9; exact absurd g9.1 (by decide +kernel))
    refine lv_istore_n (lv' := [(3, .int r_34), (0, .ref h0), (1, .int 1), (2, .int 4)]) hx hb dX12_number_4 rfl hl (Nat.le_of_ble_eq_true rfl) rfl (fun ls hl => ?_)
    as_aux_lemma =>
    refine lv_aload_n hx hb dX12_number_5 rfl (lv_at hl 1 rfl) ?_
    obtain ⟨hPc, hDc, hFc, hqc⟩ := cl_cut (wc := (wd_c_X12_isDigit h0 h0_f0 h0_1 h0_2 h0_3 h0_4 h0_5 h0_f6 h0_f7 h0_f8 h0_f9 x_35 (-1) h0_f12 h0_f13 h0_f14 h0_15 h0_16 h0_f17 h0_18 h0_19 h0_20 h0_21 h0_22 h0_23 h0_24 h0_25 h0_f26 h0_f27 h0_f28 h0_f29 h0_f30 h0_f31 h0_32 h0_33 h0_f34 h0_35 h0_36 h0_37 h0_38 h0_39 h0_40 h0_f41 h0_f42 h0_f43 h0_f44 h0_45 h0_46 h0_47 h0_48 h0_49 h0_50 h0_f51 h0_52 h0_f53 h0_5 h0_5k tN h0_5c)) hP hD hS hA [0, 1] (by decide +kernel) rfl
    have hKc := hK.sub (tys' := [(h0_5k, .byte)]) [0] rfl
    have hrv := va_recv hKc hPc (ci := 12) (q0 := 0) rfl rfl
    refine va_calli (va_runV (As := []) (rest := []) ⟨hx, hb, hml, hown, hts⟩ (c_X12_isDigit l dC dI H.size h0 h0_f0 h0_1 h0_2 h0_3 h0_4 h0_5 h0_f6 h0_f7 h0_f8 h0_f9 x_35 h0_f12 h0_f13 h0_f14 h0_15 h0_16 h0_f17 h0_18 h0_19 h0_20 h0_21 h0_22 h0_23 h0_24 h0_25 h0_f26 h0_f27 h0_f28 h0_f29 h0_f30 h0_f31 h0_32 h0_33 h0_f34 h0_35 h0_36 h0_37 h0_38 h0_39 h0_40 h0_f41 h0_f42 h0_f43 h0_f44 h0_45 h0_46 h0_47 h0_48 h0_49 h0_50 h0_f51 h0_52 h0_f53 h0_5k h0_5c tN g_h0_f6 g_h0_f7 g_h0_f8 (RG_w h_44 (by decide +kernel)) (RG_w h_43 (by decide +kernel)) g_h0_f17 g_h0_f26 g_h0_f27 g_h0_f28 g_h0_f29 g_h0_f30 g_h0_f31 g_h0_f34 g_h0_f41 g_h0_f51 g_h0_f53 htN) (cwV 0 hts gf_c_X12_number_1_c_X12_isDigit rfl rfl rfl mdV_X12_isDigit ⟨Nat.le_of_ble_eq_true rfl, Nat.le_of_ble_eq_true rfl⟩) ⟨fun a U g mk q => by obtain ⟨q0, q1, qP, qK, qD⟩ := q; exact ⟨q0, q1, qP, va_K.moved (u := U) (U := U.calling g mk a) (Vm.Alike.refl U.vm) qK, qD⟩, hrv, fun U hU hW => ⟨rfl, by rw [hU], by rw [hU]; exact hPc, va_K.moved hW.alike hKc, hDc.weaken (fun _ _ _ _ => trivial)⟩⟩ rfl rfl hl.1 rfl (lv_room (Nat.le_of_ble_eq_true rfl)) dX12_number_6 ⟨Nat.le_of_ble_eq_true rfl, Nat.le_of_ble_eq_true rfl⟩) hS (fun q _ h => hFc q h) hFc (fun r_64 u t H1 locs ht hvm hw hB hz1 hk1 hS => ?_)
    obtain ⟨hP1, hK1, hD1⟩ := hB
    rw [ht] at hP1
    obtain ⟨hP, hD⟩ := cl_put (w1 := (wd_c_X12_isDigit h0 h0_f0 h0_1 h0_2 h0_3 h0_4 h0_5 h0_f6 h0_f7 h0_f8 h0_f9 x_35 (-1) h0_f12 h0_f13 h0_f14 h0_15 h0_16 h0_f17 h0_18 h0_19 h0_20 h0_21 h0_22 h0_23 h0_24 h0_25 h0_f26 h0_f27 h0_f28 h0_f29 h0_f30 h0_f31 h0_32 h0_33 h0_f34 h0_35 h0_36 h0_37 h0_38 h0_39 h0_40 h0_f41 h0_f42 h0_f43 h0_f44 h0_45 h0_46 h0_47 h0_48 h0_49 h0_50 h0_f51 h0_52 h0_f53 h0_5 h0_5k tN h0_5c)) (nw := (wd_c_X12_number_1 h0 h0_f0 h0_1 h0_2 h0_3 h0_4 h0_5 h0_f6 h0_f7 h0_f8 h0_f9 x_35 (-1) h0_f12 h0_f13 h0_f14 h0_15 h0_16 h0_f17 h0_18 h0_19 h0_20 h0_21 h0_22 h0_23 h0_24 h0_25 h0_f26 h0_f27 h0_f28 h0_f29 h0_f30 h0_f31 h0_32 h0_33 h0_f34 h0_35 h0_36 h0_37 h0_38 h0_39 h0_40 h0_f41 h0_f42 h0_f43 h0_f44 h0_45 h0_46 h0_47 h0_48 h0_49 h0_50 h0_f51 h0_52 h0_f53 h0_5 h0_5k tN h0_5c)) hP hD [0, 1] [2, 3] 2 rfl hqc (by decide +kernel) rfl hk1 hFc hP1 hD1
    generalize H1 = H at hP hS ⊢
    as_aux_lemma =>
    rcases hw with ⟨h_65, h_66, h_67⟩ | ⟨h_68, h_69, h_70, h_71, h_72, h_73⟩
    · have h_67 : r_64 = _ := h_67
      replace hEX := hEX.trans (exc1_eq h_67)
      replace hEX := hEX.trans (if_pos (show r_64 = 0 from h_65))
      rw [h_65]
      refine lv_if_ne (tgt := 19) hx hb dX12_number_9 rfl (fun c_74 => absurd c_74 (by decide +kernel)) (fun c_74 => ?_)
      refine lv_aload_n hx hb dX12_number_12 rfl (lv_at hl 1 rfl) ?_
      obtain ⟨hPc, hDc, hFc, hqc⟩ := cl_cut (wc := (wd_c_X12_fails h0 h0_f0 h0_1 h0_2 h0_3 h0_4 h0_5 h0_f6 h0_f7 h0_f8 h0_f9 x_35 (-1) h0_f12 h0_f13 h0_f14 h0_15 h0_16 h0_f17 h0_18 h0_19 h0_20 h0_21 h0_22 h0_23 h0_24 h0_25 h0_f26 h0_f27 h0_f28 h0_f29 h0_f30 h0_f31 h0_32 h0_33 h0_f34 h0_35 h0_36 h0_37 h0_38 h0_39 h0_40 h0_f41 h0_f42 h0_f43 h0_f44 h0_45 h0_46 h0_47 h0_48 h0_49 h0_50 h0_f51 h0_52 h0_f53)) hP hD hS hA [0] (by decide +kernel) rfl
      have hKc := hK.sub (tys' := []) [] rfl
      have hrv := va_recv hKc hPc (ci := 12) (q0 := 0) rfl rfl
      refine va_calli (va_runV (As := []) (rest := []) ⟨hx, hb, hml, hown, hts⟩ (c_X12_fails l dC dI H.size h0 h0_f0 h0_1 h0_2 h0_3 h0_4 h0_5 h0_f6 h0_f7 h0_f8 h0_f9 x_35 h0_f12 h0_f13 h0_f14 h0_15 h0_16 h0_f17 h0_18 h0_19 h0_20 h0_21 h0_22 h0_23 h0_24 h0_25 h0_f26 h0_f27 h0_f28 h0_f29 h0_f30 h0_f31 h0_32 h0_33 h0_f34 h0_35 h0_36 h0_37 h0_38 h0_39 h0_40 h0_f41 h0_f42 h0_f43 h0_f44 h0_45 h0_46 h0_47 h0_48 h0_49 h0_50 h0_f51 h0_52 h0_f53 g_h0_f6 g_h0_f7 g_h0_f8 (RG_w h_44 (by decide +kernel)) (RG_w h_43 (by decide +kernel)) g_h0_f17 g_h0_f26 g_h0_f27 g_h0_f28 g_h0_f29 g_h0_f30 g_h0_f31 g_h0_f34 g_h0_f41 g_h0_f51 g_h0_f53) (cwV 0 hts gf_c_X12_number_1_c_X12_fails rfl rfl rfl mdV_X12_fails ⟨Nat.le_of_ble_eq_true rfl, Nat.le_of_ble_eq_true rfl⟩) ⟨fun a U g mk q => by obtain ⟨q0, q1, qP, qK, qD⟩ := q; exact ⟨q0, q1, qP, va_K.moved (u := U) (U := U.calling g mk a) (Vm.Alike.refl U.vm) qK, qD⟩, hrv, fun U hU hW => ⟨rfl, by rw [hU], by rw [hU]; exact hPc, va_K.moved hW.alike hKc, hDc.weaken (fun _ _ _ _ => trivial)⟩⟩ rfl rfl hl.1 rfl (lv_room (Nat.le_of_ble_eq_true rfl)) dX12_number_13 ⟨Nat.le_of_ble_eq_true rfl, Nat.le_of_ble_eq_true rfl⟩) hS (fun q _ h => hFc q h) hFc (fun r_75 u t H1 locs ht hvm hw hB hz1 hk1 hS => ?_)
      obtain ⟨hP1, hK1, hD1⟩ := hB
      rw [ht] at hP1
      obtain ⟨hP, hD⟩ := cl_put (w1 := (wd_c_X12_fails h0 h0_f0 h0_1 h0_2 h0_3 h0_4 h0_5 h0_f6 h0_f7 h0_f8 h0_f9 x_35 x_35 h0_f12 h0_f13 h0_f14 h0_15 h0_16 h0_f17 h0_18 h0_19 h0_20 h0_21 h0_22 h0_23 h0_24 h0_25 h0_f26 h0_f27 h0_f28 h0_f29 h0_f30 h0_f31 h0_32 h0_33 h0_f34 h0_35 h0_36 h0_37 h0_38 h0_39 h0_40 h0_f41 h0_f42 h0_f43 h0_f44 h0_45 h0_46 h0_47 h0_48 h0_49 h0_50 h0_f51 h0_52 h0_f53)) (nw := (wd_c_X12_number_1 h0 h0_f0 h0_1 h0_2 h0_3 h0_4 h0_5 h0_f6 h0_f7 h0_f8 h0_f9 x_35 x_35 h0_f12 h0_f13 h0_f14 h0_15 h0_16 h0_f17 h0_18 h0_19 h0_20 h0_21 h0_22 h0_23 h0_24 h0_25 h0_f26 h0_f27 h0_f28 h0_f29 h0_f30 h0_f31 h0_32 h0_33 h0_f34 h0_35 h0_36 h0_37 h0_38 h0_39 h0_40 h0_f41 h0_f42 h0_f43 h0_f44 h0_45 h0_46 h0_47 h0_48 h0_49 h0_50 h0_f51 h0_52 h0_f53 h0_5 h0_5k tN h0_5c)) hP hD [0] [2, 1] 2 rfl hqc (by decide +kernel) rfl hk1 hFc hP1 hD1
      generalize H1 = H at hP hS ⊢
      as_aux_lemma =>
      rcases hw with ⟨h_76, h_77⟩
      have h_77 : r_75 = _ := h_77
      replace hEX := hEX.trans (exc1_eq h_77)
      rw [h_76]
      refine lv_pop hx hb dX12_number_16 rfl ?_
      refine lv_iconst (v := 0) hx hb dX12_number_17 kc_iconst_0 ?_
      have hK9 := hK.sub (tys' := []) [] rfl
      exact W.iret (v := 0) hx hb hr (fun t ht hW => ⟨⟨0, (x_35, x_35), rfl, (Or.inr ⟨(RG_w (RG_k 0 0 rfl) (by decide +kernel)), (RG_w h_43 (by decide +kernel)), (RG_w h_43 (by decide +kernel)), (hR.trans hEX).symm⟩), by rw [ht]; exact hP, va_K.moved hW.alike hK9, hD⟩, hS.F ht⟩) hS.2.2 dX12_number_18
    · have h_73 : r_64 = _ := h_73
      replace hEX := hEX.trans (exc1_eq h_73)
      replace hEX := hEX.trans (if_neg (fun q9 : r_64 = 0 => absurd ((show r_64 = 1 from h_68).symm.trans q9) (by decide +kernel)))
      rw [h_68]
      have g_78 := h_72 h_68
      have g_79 : RG r_34 48 57 := RG_dig h_47.1 g_78 trivial h_42 (by decide +kernel)
      refine lv_if_ne (tgt := 19) hx hb dX12_number_9 rfl (fun c_80 => ?_) (fun c_80 => absurd c_80 (by decide +kernel))
      refine lv_iload_n hx hb dX12_number_19 rfl (lv_at hl 0 rfl) ?_
      as_aux_lemma =>
      refine lv_bipush (v := 48) hx hb dX12_number_20 kc_bipush_48 ?_
      refine lv_isub hx hb dX12_number_22 ?_
      refine lv_topi (fun x_81 ex_81 => ?_)
      replace hEX := hEX.trans (exl_eq ex_81)
      have g_82 : RG x_81 0 9 := RG_sub ex_81 g_79 (RG_k 48 48 rfl) (by decide +kernel)
      refine lv_istore (lv' := [(4, .int x_81), (3, .int r_34), (0, .ref h0), (1, .int 1), (2, .int 4)]) hx hb dX12_number_23 hl (Nat.le_of_ble_eq_true rfl) rfl (fun ls hl => ?_)
      refine lv_aload_n hx hb dX12_number_25 rfl (lv_at hl 2 rfl) ?_
      refine lv_dup hx hb dX12_number_26 rfl ?_
      refine va_get (D := (dC, dI)) (ci := 12) (v := .int x_35) (C := RX12) (T := TX12) (N := 54) hx hb hts iw_c_X12_number_1_X12 hown hK hP 0 rfl rfl 10 (by decide +kernel) (hts (.fieldLink RX12 134 "BuoyVoteModel" "at" "I") (List.mem_of_getElem? (i := 6) rfl)) (fun _ h9 => h9) rfl dX12_number_27 ?_
      refine lv_iconst (v := 1) hx hb dX12_number_30 kc_iconst_1 ?_
      refine lv_iadd hx hb dX12_number_31 ?_
      refine lv_topi (fun x_83 ex_83 => ?_)
      replace hEX := hEX.trans (exl_eq ex_83)
      have g_84 : RG x_83 1 240 := RG_add ex_83 h_43 (RG_k 1 1 rfl) (by decide +kernel)
      have q_85 : x_83.toInt = x_35.toInt + 1 := eq_add ex_83 h_43 (q := 1) rfl (by decide +kernel)
      refine va_put (D := (dC, dI)) (ci := 12) (v := .int x_83) (ty := .int) (C := RX12) (T := TX12) (N := 54) hx hb hts iw_c_X12_number_1_X12 tyX12 tyX12_ok nmX12 hown hK hP hD hS 0 rfl rfl 10 (by decide +kernel) (hts (.fieldLink RX12 134 "BuoyVoteModel" "at" "I") (List.mem_of_getElem? (i := 6) rfl)) (fun _ h9 => h9) rfl (by decide +kernel) rfl rfl (Nat.le_of_ble_eq_true rfl) dX12_number_32 (fun H locs hP hD hS => ?_)
      as_aux_lemma =>
      have hP : va_P (dC, dI) vwCl (wd_c_X12_number_1 h0 h0_f0 h0_1 h0_2 h0_3 h0_4 h0_5 h0_f6 h0_f7 h0_f8 h0_f9 x_83 (-1) h0_f12 h0_f13 h0_f14 h0_15 h0_16 h0_f17 h0_18 h0_19 h0_20 h0_21 h0_22 h0_23 h0_24 h0_25 h0_f26 h0_f27 h0_f28 h0_f29 h0_f30 h0_f31 h0_32 h0_33 h0_f34 h0_35 h0_36 h0_37 h0_38 h0_39 h0_40 h0_f41 h0_f42 h0_f43 h0_f44 h0_45 h0_46 h0_47 h0_48 h0_49 h0_50 h0_f51 h0_52 h0_f53 h0_5 h0_5k tN h0_5c) H := hP
      have hD : va_D A (wd_c_X12_number_1 h0 h0_f0 h0_1 h0_2 h0_3 h0_4 h0_5 h0_f6 h0_f7 h0_f8 h0_f9 x_83 (-1) h0_f12 h0_f13 h0_f14 h0_15 h0_16 h0_f17 h0_18 h0_19 h0_20 h0_21 h0_22 h0_23 h0_24 h0_25 h0_f26 h0_f27 h0_f28 h0_f29 h0_f30 h0_f31 h0_32 h0_33 h0_f34 h0_35 h0_36 h0_37 h0_38 h0_39 h0_40 h0_f41 h0_f42 h0_f43 h0_f44 h0_45 h0_46 h0_47 h0_48 h0_49 h0_50 h0_f51 h0_52 h0_f53 h0_5 h0_5k tN h0_5c) := hD
      refine lv_aload_n hx hb dX12_number_35 rfl (lv_at hl 2 rfl) ?_
      obtain ⟨hPc, hDc, hFc, hqc⟩ := cl_cut (wc := (wd_c_X12_isDigit h0 h0_f0 h0_1 h0_2 h0_3 h0_4 h0_5 h0_f6 h0_f7 h0_f8 h0_f9 x_83 (-1) h0_f12 h0_f13 h0_f14 h0_15 h0_16 h0_f17 h0_18 h0_19 h0_20 h0_21 h0_22 h0_23 h0_24 h0_25 h0_f26 h0_f27 h0_f28 h0_f29 h0_f30 h0_f31 h0_32 h0_33 h0_f34 h0_35 h0_36 h0_37 h0_38 h0_39 h0_40 h0_f41 h0_f42 h0_f43 h0_f44 h0_45 h0_46 h0_47 h0_48 h0_49 h0_50 h0_f51 h0_52 h0_f53 h0_5 h0_5k tN h0_5c)) hP hD hS hA [0, 1] (by decide +kernel) rfl
      have hKc := hK.sub (tys' := [(h0_5k, .byte)]) [0] rfl
      have hrv := va_recv hKc hPc (ci := 12) (q0 := 0) rfl rfl
      refine va_calli (va_runV (As := []) (rest := []) ⟨hx, hb, hml, hown, hts⟩ (c_X12_isDigit l dC dI H.size h0 h0_f0 h0_1 h0_2 h0_3 h0_4 h0_5 h0_f6 h0_f7 h0_f8 h0_f9 x_83 h0_f12 h0_f13 h0_f14 h0_15 h0_16 h0_f17 h0_18 h0_19 h0_20 h0_21 h0_22 h0_23 h0_24 h0_25 h0_f26 h0_f27 h0_f28 h0_f29 h0_f30 h0_f31 h0_32 h0_33 h0_f34 h0_35 h0_36 h0_37 h0_38 h0_39 h0_40 h0_f41 h0_f42 h0_f43 h0_f44 h0_45 h0_46 h0_47 h0_48 h0_49 h0_50 h0_f51 h0_52 h0_f53 h0_5k h0_5c tN g_h0_f6 g_h0_f7 g_h0_f8 (RG_w h_44 (by decide +kernel)) (RG_w g_84 (by decide +kernel)) g_h0_f17 g_h0_f26 g_h0_f27 g_h0_f28 g_h0_f29 g_h0_f30 g_h0_f31 g_h0_f34 g_h0_f41 g_h0_f51 g_h0_f53 htN) (cwV 0 hts gf_c_X12_number_1_c_X12_isDigit rfl rfl rfl mdV_X12_isDigit ⟨Nat.le_of_ble_eq_true rfl, Nat.le_of_ble_eq_true rfl⟩) ⟨fun a U g mk q => by obtain ⟨q0, q1, qP, qK, qD⟩ := q; exact ⟨q0, q1, qP, va_K.moved (u := U) (U := U.calling g mk a) (Vm.Alike.refl U.vm) qK, qD⟩, hrv, fun U hU hW => ⟨rfl, by rw [hU], by rw [hU]; exact hPc, va_K.moved hW.alike hKc, hDc.weaken (fun _ _ _ _ => trivial)⟩⟩ rfl rfl hl.1 rfl (lv_room (Nat.le_of_ble_eq_true rfl)) dX12_number_36 ⟨Nat.le_of_ble_eq_true rfl, Nat.le_of_ble_eq_true rfl⟩) hS (fun q _ h => hFc q h) hFc (fun r_86 u t H1 locs ht hvm hw hB hz1 hk1 hS => ?_)
      obtain ⟨hP1, hK1, hD1⟩ := hB
      rw [ht] at hP1
      obtain ⟨hP, hD⟩ := cl_put (w1 := (wd_c_X12_isDigit h0 h0_f0 h0_1 h0_2 h0_3 h0_4 h0_5 h0_f6 h0_f7 h0_f8 h0_f9 x_83 (-1) h0_f12 h0_f13 h0_f14 h0_15 h0_16 h0_f17 h0_18 h0_19 h0_20 h0_21 h0_22 h0_23 h0_24 h0_25 h0_f26 h0_f27 h0_f28 h0_f29 h0_f30 h0_f31 h0_32 h0_33 h0_f34 h0_35 h0_36 h0_37 h0_38 h0_39 h0_40 h0_f41 h0_f42 h0_f43 h0_f44 h0_45 h0_46 h0_47 h0_48 h0_49 h0_50 h0_f51 h0_52 h0_f53 h0_5 h0_5k tN h0_5c)) (nw := (wd_c_X12_number_1 h0 h0_f0 h0_1 h0_2 h0_3 h0_4 h0_5 h0_f6 h0_f7 h0_f8 h0_f9 x_83 (-1) h0_f12 h0_f13 h0_f14 h0_15 h0_16 h0_f17 h0_18 h0_19 h0_20 h0_21 h0_22 h0_23 h0_24 h0_25 h0_f26 h0_f27 h0_f28 h0_f29 h0_f30 h0_f31 h0_32 h0_33 h0_f34 h0_35 h0_36 h0_37 h0_38 h0_39 h0_40 h0_f41 h0_f42 h0_f43 h0_f44 h0_45 h0_46 h0_47 h0_48 h0_49 h0_50 h0_f51 h0_52 h0_f53 h0_5 h0_5k tN h0_5c)) hP hD [0, 1] [2, 3] 2 rfl hqc (by decide +kernel) rfl hk1 hFc hP1 hD1
      generalize H1 = H at hP hS ⊢
      as_aux_lemma =>
      rcases hw with ⟨h_87, h_88, h_89⟩ | ⟨h_90, h_91, h_92, h_93, h_94, h_95⟩
      · have h_89 : r_86 = _ := h_89
        replace hEX := hEX.trans (exc1_eq h_89)
        replace hEX := hEX.trans (if_pos (show r_86 = 0 from h_87))
        rw [h_87]
        refine lv_if_eq (tgt := 67) hx hb dX12_number_39 rfl (fun c_96 => ?_) (fun c_96 => absurd c_96 (by decide +kernel))
        exact hU _ _ _ (J67 x_81 x_83 g_h0_f10 g_h0_f17 g_h0_f26 g_h0_f27 g_h0_f28 g_h0_f29 g_h0_f30 g_h0_f31 g_h0_f34 g_h0_f41 g_h0_f51 g_h0_f53 g_h0_f6 g_h0_f7 g_h0_f8 h_44 g_84 (RG_w g_82 (by decide +kernel)) (by have := h_45; have := q_85; omega) hEX _ _ _ hP hD hS (lv_sub hl [0, 2, 3, 4] rfl))
      · have h_95 : r_86 = _ := h_95
        replace hEX := hEX.trans (exc1_eq h_95)
        replace hEX := hEX.trans (if_neg (fun q9 : r_86 = 0 => absurd ((show r_86 = 1 from h_90).symm.trans q9) (by decide +kernel)))
        rw [h_90]
        have g_97 : RG x_83 1 239 := RG_eq1 g_84 h_91 rfl (by decide +kernel)
        have g_98 : RG x_35 0 238 := RG_addb ex_83 (q := 1) rfl h_43 g_97 (by decide +kernel)
        have g_99 := h_94 h_90
        refine lv_if_eq (tgt := 67) hx hb dX12_number_39 rfl (fun c_100 => absurd c_100 (by decide +kernel)) (fun c_100 => ?_)
        as_aux_lemma =>
        refine lv_bipush (v := 10) hx hb dX12_number_42 kc_bipush_10 ?_
        refine lv_iload hx hb dX12_number_44 (lv_at hl 0 rfl) ?_
        refine lv_imul hx hb dX12_number_46 ?_
        refine lv_topi (fun x_101 ex_101 => ?_)
        replace hEX := hEX.trans (exl_eq ex_101)
        have g_102 : RG x_101 0 90 := RG_mulc (RG_com ex_101) (q := 10) rfl g_82 (by decide +kernel)
        refine lv_aload_n hx hb dX12_number_47 rfl (lv_at hl 2 rfl) ?_
        obtain ⟨hPc, hDc, hFc, hqc⟩ := cl_cut (wc := (wd_c_X12_here h0 h0_f0 h0_1 h0_2 h0_3 h0_4 h0_5 h0_f6 h0_f7 h0_f8 h0_f9 x_83 (-1) h0_f12 h0_f13 h0_f14 h0_15 h0_16 h0_f17 h0_18 h0_19 h0_20 h0_21 h0_22 h0_23 h0_24 h0_25 h0_f26 h0_f27 h0_f28 h0_f29 h0_f30 h0_f31 h0_32 h0_33 h0_f34 h0_35 h0_36 h0_37 h0_38 h0_39 h0_40 h0_f41 h0_f42 h0_f43 h0_f44 h0_45 h0_46 h0_47 h0_48 h0_49 h0_50 h0_f51 h0_52 h0_f53 h0_5 h0_5k tN h0_5c)) hP hD hS hA [0, 1] (by decide +kernel) rfl
        have hKc := hK.sub (tys' := [(h0_5k, .byte)]) [0] rfl
        have hrv := va_recv hKc hPc (ci := 12) (q0 := 0) rfl rfl
        refine va_calli (va_runV (As := []) (rest := [.int x_101]) ⟨hx, hb, hml, hown, hts⟩ (c_X12_here l dC dI H.size h0 h0_f0 h0_1 h0_2 h0_3 h0_4 h0_5 h0_f6 h0_f7 h0_f8 h0_f9 x_83 h0_f12 h0_f13 h0_f14 h0_15 h0_16 h0_f17 h0_18 h0_19 h0_20 h0_21 h0_22 h0_23 h0_24 h0_25 h0_f26 h0_f27 h0_f28 h0_f29 h0_f30 h0_f31 h0_32 h0_33 h0_f34 h0_35 h0_36 h0_37 h0_38 h0_39 h0_40 h0_f41 h0_f42 h0_f43 h0_f44 h0_45 h0_46 h0_47 h0_48 h0_49 h0_50 h0_f51 h0_52 h0_f53 h0_5k h0_5c tN g_h0_f6 g_h0_f7 g_h0_f8 (RG_w h_44 (by decide +kernel)) (RG_w g_97 (by decide +kernel)) g_h0_f17 g_h0_f26 g_h0_f27 g_h0_f28 g_h0_f29 g_h0_f30 g_h0_f31 g_h0_f34 g_h0_f41 g_h0_f51 g_h0_f53 htN) (cwV 0 hts gf_c_X12_number_1_c_X12_here rfl rfl rfl mdV_X12_here ⟨Nat.le_of_ble_eq_true rfl, Nat.le_of_ble_eq_true rfl⟩) ⟨fun a U g mk q => by obtain ⟨q0, q1, qP, qK, qD⟩ := q; exact ⟨q0, q1, qP, va_K.moved (u := U) (U := U.calling g mk a) (Vm.Alike.refl U.vm) qK, qD⟩, hrv, fun U hU hW => ⟨rfl, by rw [hU], by rw [hU]; exact hPc, va_K.moved hW.alike hKc, hDc.weaken (fun _ _ _ _ => trivial)⟩⟩ rfl rfl hl.1 rfl (lv_room (Nat.le_of_ble_eq_true rfl)) dX12_number_48 ⟨Nat.le_of_ble_eq_true rfl, Nat.le_of_ble_eq_true rfl⟩) hS (fun q _ h => hFc q h) hFc (fun r_103 u t H1 locs ht hvm hw hB hz1 hk1 hS => ?_)
        obtain ⟨hP1, hK1, hD1⟩ := hB
        rw [ht] at hP1
        obtain ⟨hP, hD⟩ := cl_put (w1 := (wd_c_X12_here h0 h0_f0 h0_1 h0_2 h0_3 h0_4 h0_5 h0_f6 h0_f7 h0_f8 h0_f9 x_83 (-1) h0_f12 h0_f13 h0_f14 h0_15 h0_16 h0_f17 h0_18 h0_19 h0_20 h0_21 h0_22 h0_23 h0_24 h0_25 h0_f26 h0_f27 h0_f28 h0_f29 h0_f30 h0_f31 h0_32 h0_33 h0_f34 h0_35 h0_36 h0_37 h0_38 h0_39 h0_40 h0_f41 h0_f42 h0_f43 h0_f44 h0_45 h0_46 h0_47 h0_48 h0_49 h0_50 h0_f51 h0_52 h0_f53 h0_5 h0_5k tN h0_5c)) (nw := (wd_c_X12_number_1 h0 h0_f0 h0_1 h0_2 h0_3 h0_4 h0_5 h0_f6 h0_f7 h0_f8 h0_f9 x_83 (-1) h0_f12 h0_f13 h0_f14 h0_15 h0_16 h0_f17 h0_18 h0_19 h0_20 h0_21 h0_22 h0_23 h0_24 h0_25 h0_f26 h0_f27 h0_f28 h0_f29 h0_f30 h0_f31 h0_32 h0_33 h0_f34 h0_35 h0_36 h0_37 h0_38 h0_39 h0_40 h0_f41 h0_f42 h0_f43 h0_f44 h0_45 h0_46 h0_47 h0_48 h0_49 h0_50 h0_f51 h0_52 h0_f53 h0_5 h0_5k tN h0_5c)) hP hD [0, 1] [2, 3] 2 rfl hqc (by decide +kernel) rfl hk1 hFc hP1 hD1
        generalize H1 = H at hP hS ⊢
        as_aux_lemma =>
        rcases hw with ⟨h_104, h_105, h_106, h_107⟩ | ⟨h_108, h_109, h_110, h_111, h_112⟩
        · have h_107 : r_103 = _ := h_107
          replace hEX := hEX.trans (exc1_eq h_107)
          replace hEX := hEX.trans (if_pos (show r_103 = (-1) from h_104))
          rw [h_104]
          exfalso
          have := h_105
          have := h_93
          omega
        · have h_112 : r_103 = _ := h_112
          replace hEX := hEX.trans (exc1_eq h_112)
          replace hEX := hEX.trans (if_neg (RG_neq (x := r_103) (c := (-1)) (show RG r_103 0 255 from h_108) (by decide +kernel)))
          have g_113 : RG r_103 48 57 := RG_dig h_111 g_99 trivial h_108 (by decide +kernel)
          refine lv_iadd hx hb dX12_number_51 ?_
          as_aux_lemma =>
          refine lv_topi (fun x_114 ex_114 => ?_)
          replace hEX := hEX.trans (exl_eq ex_114)
          have g_115 : RG x_114 48 147 := RG_add ex_114 g_102 g_113 (by decide +kernel)
          refine lv_bipush (v := 48) hx hb dX12_number_52 kc_bipush_48 ?_
          refine lv_isub hx hb dX12_number_54 ?_
          refine lv_topi (fun x_116 ex_116 => ?_)
          replace hEX := hEX.trans (exl_eq ex_116)
          have g_117 : RG x_116 0 99 := RG_sub ex_116 g_115 (RG_k 48 48 rfl) (by decide +kernel)
          refine lv_istore (lv' := [(4, .int x_116), (3, .int r_34), (0, .ref h0), (1, .int 1), (2, .int 4)]) hx hb dX12_number_55 hl (Nat.le_of_ble_eq_true rfl) rfl (fun ls hl => ?_)
          refine lv_aload_n hx hb dX12_number_57 rfl (lv_at hl 2 rfl) ?_
          refine lv_dup hx hb dX12_number_58 rfl ?_
          refine va_get (D := (dC, dI)) (ci := 12) (v := .int x_83) (C := RX12) (T := TX12) (N := 54) hx hb hts iw_c_X12_number_1_X12 hown hK hP 0 rfl rfl 10 (by decide +kernel) (hts (.fieldLink RX12 134 "BuoyVoteModel" "at" "I") (List.mem_of_getElem? (i := 6) rfl)) (fun _ h9 => h9) rfl dX12_number_59 ?_
          refine lv_iconst (v := 1) hx hb dX12_number_62 kc_iconst_1 ?_
          refine lv_iadd hx hb dX12_number_63 ?_
          as_aux_lemma =>
          refine lv_topi (fun x_118 ex_118 => ?_)
          replace hEX := hEX.trans (exl_eq ex_118)
          have g_119 : RG x_118 2 240 := RG_add ex_118 g_97 (RG_k 1 1 rfl) (by decide +kernel)
          have q_120 : x_118.toInt = x_83.toInt + 1 := eq_add ex_118 g_97 (q := 1) rfl (by decide +kernel)
          refine va_put (D := (dC, dI)) (ci := 12) (v := .int x_118) (ty := .int) (C := RX12) (T := TX12) (N := 54) hx hb hts iw_c_X12_number_1_X12 tyX12 tyX12_ok nmX12 hown hK hP hD hS 0 rfl rfl 10 (by decide +kernel) (hts (.fieldLink RX12 134 "BuoyVoteModel" "at" "I") (List.mem_of_getElem? (i := 6) rfl)) (fun _ h9 => h9) rfl (by decide +kernel) rfl rfl (Nat.le_of_ble_eq_true rfl) dX12_number_64 (fun H locs hP hD hS => ?_)
          have hP : va_P (dC, dI) vwCl (wd_c_X12_number_1 h0 h0_f0 h0_1 h0_2 h0_3 h0_4 h0_5 h0_f6 h0_f7 h0_f8 h0_f9 x_118 (-1) h0_f12 h0_f13 h0_f14 h0_15 h0_16 h0_f17 h0_18 h0_19 h0_20 h0_21 h0_22 h0_23 h0_24 h0_25 h0_f26 h0_f27 h0_f28 h0_f29 h0_f30 h0_f31 h0_32 h0_33 h0_f34 h0_35 h0_36 h0_37 h0_38 h0_39 h0_40 h0_f41 h0_f42 h0_f43 h0_f44 h0_45 h0_46 h0_47 h0_48 h0_49 h0_50 h0_f51 h0_52 h0_f53 h0_5 h0_5k tN h0_5c) H := hP
          have hD : va_D A (wd_c_X12_number_1 h0 h0_f0 h0_1 h0_2 h0_3 h0_4 h0_5 h0_f6 h0_f7 h0_f8 h0_f9 x_118 (-1) h0_f12 h0_f13 h0_f14 h0_15 h0_16 h0_f17 h0_18 h0_19 h0_20 h0_21 h0_22 h0_23 h0_24 h0_25 h0_f26 h0_f27 h0_f28 h0_f29 h0_f30 h0_f31 h0_32 h0_33 h0_f34 h0_35 h0_36 h0_37 h0_38 h0_39 h0_40 h0_f41 h0_f42 h0_f43 h0_f44 h0_45 h0_46 h0_47 h0_48 h0_49 h0_50 h0_f51 h0_52 h0_f53 h0_5 h0_5k tN h0_5c) := hD
          exact hU _ _ _ (J67 x_116 x_118 g_h0_f10 g_h0_f17 g_h0_f26 g_h0_f27 g_h0_f28 g_h0_f29 g_h0_f30 g_h0_f31 g_h0_f34 g_h0_f41 g_h0_f51 g_h0_f53 g_h0_f6 g_h0_f7 g_h0_f8 h_44 (RG_w g_119 (by decide +kernel)) g_117 (by have := h_45; have := q_85; have := q_120; omega) hEX _ _ _ hP hD hS (lv_sub hl [0, 2, 3, 4] rfl))
noncomputable def wf_c_X12_leastOf_3 : List Cond := .code yX12_leastOf cX12_leastOf 2 (some .int) :: ([])
set_option maxHeartbeats 4000000 in
set_option maxRecDepth 100000 in
theorem c_X12_leastOf_3 (l : Launch) (dC : Nat → ClassId) (dI : Nat → Nat → Nat) (sz : Nat) (p0 : Int32) (p1 : Int32) (g_p0 : RG p0 99 99) (g_p1 : RG p1 0 3) : Met l yX12_leastOf wf_c_X12_leastOf_3 ({ frames := 0, cells := 0, slots := 0, locals := 0 }) (va_Pc [.int p0, .int p1] (fun U => U.heap.size = sz ∧ va_P (dC, dI) vwCl [] U.heap ∧ va_K (dC, dI) vwCl [] U ∧ va_D (fun _ => True) [])) (va_Qi (fun (r : Int32) (u : Unit) => (r = 0 ∧ r = fx_c_X12_leastOf_3 p0 p1) ∨ (r = 1 ∧ RG p1 2 2 ∧ r = fx_c_X12_leastOf_3 p0 p1)) (fun (u : Unit) t => va_P (dC, dI) vwCl [] t.heap ∧ va_K (dC, dI) vwCl [] t ∧ va_D (va_A [] sz) []) (va_A [] sz)) 0 0 (va_A [] sz) := by
  refine Met.ofW (cc := cX12_leastOf) (maxL := 2) (ret := (some .int)) (by decide +kernel) rfl ?_
  intro p e s m args below meth c s₁ B hml hv
  obtain ⟨rfl, hsz, hP, hK, hD0⟩ := hv
  have hx := B.exec
  have hb := B.bytes
  have hr := B.returns
  have hts := atoms_spec (ws := wf_c_X12_leastOf_3) B.pre
  have hown : s.vm.findClass RX12 = some m.cls := findClass_of_methodNamed B.named
  have hlocks := B.notSynchronized
  subst hsz
  have hD := hD0.self (sz := s.heap.size)
  generalize hAe : va_A [] s.heap.size = A at hD ⊢
  have hA : ∀ q : Nat, s.heap.size ≤ q → A q := fun q h => by rw [← hAe]; exact Or.inr h
  have hP : va_P (dC, dI) vwCl [] s.heap := hP
  have hl := lv_entry ([.int p0, .int p1]) (n := 2) (Nat.le_of_ble_eq_true rfl)
  rw [lg_entry_eq]
  generalize (lg_sl ([.int p0, .int p1]) ++ List.replicate (2 - (lg_sl ([.int p0, .int p1])).length) Slot.unset).toArray = ls at hl ⊢
  have hl : lv_has ls 2 [(0, .int p0), (1, .int p1)] := hl
  obtain ⟨H, hHe⟩ : ∃ H : Heap, s.heap = H := ⟨_, rfl⟩
  have hS : va_S A s.heap H [] := by rw [hHe]; exact va_S.rf
  have hP : va_P (dC, dI) vwCl [] H := by rw [← hHe]; exact hP
  rw [hHe]
  obtain ⟨RES, hR⟩ : ∃ z, fx_c_X12_leastOf_3 p0 p1 = z := ⟨_, rfl⟩
  have hEX : RES = fx_c_X12_leastOf_3 p0 p1 := hR.symm
  refine wj (fun G hG hU => ?_)
  as_aux_lemma =>
  have J22 : ∀ (g_p0 : RG p0 99 99) (g_p1 : RG p1 2 2) (hEX : RES = fx_c_X12_leastOf_3_p22) (H : Heap) (locs : List Loc) (ls : Array Slot) (hP : va_P (dC, dI) vwCl [] H) (hD : va_D A []) (hS : va_S A s.heap H locs) (hl : lv_has ls 2 []), G H locs (F0 m 22 ls []) := by
    as_aux_lemma =>
    intro g_p0 g_p1 hEX H locs ls hP hD hS hl
    refine hG _ _ _ ?_
    refine lv_iconst (v := 1) hx hb dX12_leastOf_22 kc_iconst_1 ?_
    refine lv_goto (tgt := 27) hx hb dX12_leastOf_23 rfl ?_
    have hK9 := hK.sub (tys' := []) [] rfl
    exact W.iret (v := 1) hx hb hr (fun t ht hW => ⟨⟨1, (), rfl, (Or.inr ⟨rfl, g_p1, (hR.trans hEX).symm⟩), by rw [ht]; exact hP, va_K.moved hW.alike hK9, hD⟩, hS.F ht⟩) hS.2.2 dX12_leastOf_27
  have J11 : ∀ (g_p0 : RG p0 99 99) (g_p1 : RG p1 0 3) (hEX : RES = fx_c_X12_leastOf_3_p11 p0 p1) (H : Heap) (locs : List Loc) (ls : Array Slot) (hP : va_P (dC, dI) vwCl [] H) (hD : va_D A []) (hS : va_S A s.heap H locs) (hl : lv_has ls 2 [(0, .int p0), (1, .int p1)]), G H locs (F0 m 11 ls []) := by
    as_aux_lemma =>
    intro g_p0 g_p1 hEX H locs ls hP hD hS hl
    refine hG _ _ _ ?_
    refine lv_iload_n hx hb dX12_leastOf_11 rfl (lv_at hl 0 rfl) ?_
    refine lv_bipush (v := 99) hx hb dX12_leastOf_12 kc_bipush_99 ?_
    refine lv_icmp_ne (tgt := 26) hx hb dX12_leastOf_14 rfl (fun c_1 => ?_) (fun c_1 => ?_)
    · replace hEX := hEX.trans (if_neg c_1)
      exact RG_dead (RG_ne1 g_p0 (q := 99) rfl c_1 (a' := 100) (b' := 99) (by decide +kernel)) (by decide +kernel)
    · replace hEX := hEX.trans (if_pos c_1)
      refine lv_iload_n hx hb dX12_leastOf_17 rfl (lv_at hl 1 rfl) ?_
      refine lv_iconst (v := 2) hx hb dX12_leastOf_18 kc_iconst_2 ?_
      refine lv_icmp_ne (tgt := 26) hx hb dX12_leastOf_19 rfl (fun c_2 => ?_) (fun c_2 => ?_)
      · replace hEX := hEX.trans (if_neg c_2)
        refine lv_iconst (v := 0) hx hb dX12_leastOf_26 kc_iconst_0 ?_
        have hK9 := hK.sub (tys' := []) [] rfl
        exact W.iret (v := 0) hx hb hr (fun t ht hW => ⟨⟨0, (), rfl, (Or.inl ⟨rfl, (hR.trans hEX).symm⟩), by rw [ht]; exact hP, va_K.moved hW.alike hK9, hD⟩, hS.F ht⟩) hS.2.2 dX12_leastOf_27
      · replace hEX := hEX.trans (if_pos c_2)
        have g_3 : RG p1 2 2 := RG_eq1 g_p1 (RG_k 2 2 rfl) c_2 (by decide +kernel)
        exact hU _ _ _ (J22 g_p0 g_3 hEX _ _ _ hP hD hS (lv_sub hl [] rfl))
  refine hG _ _ _ ?_
  as_aux_lemma =>
  refine lv_iload_n hx hb dX12_leastOf_0 rfl (lv_at hl 0 rfl) ?_
  refine lv_bipush (v := 115) hx hb dX12_leastOf_1 kc_bipush_115 ?_
  refine lv_icmp_ne (tgt := 11) hx hb dX12_leastOf_3 rfl (fun c_4 => ?_) (fun c_4 => ?_)
  · replace hEX := hEX.trans (if_neg c_4)
    exact hU _ _ _ (J11 g_p0 g_p1 hEX _ _ _ hP hD hS (lv_sub hl [0, 1] rfl))
  · replace hEX := hEX.trans (if_pos c_4)
    exact RG_dead (RG_eq1 g_p0 (RG_k 115 115 rfl) c_4 (a' := 115) (b' := 99) (by decide +kernel)) (by decide +kernel)
noncomputable def wf_c_X12_mostOf_3 : List Cond := .code yX12_mostOf cX12_mostOf 2 (some .int) :: ([])
set_option maxHeartbeats 4000000 in
set_option maxRecDepth 100000 in
theorem c_X12_mostOf_3 (l : Launch) (dC : Nat → ClassId) (dI : Nat → Nat → Nat) (sz : Nat) (p0 : Int32) (p1 : Int32) (g_p0 : RG p0 99 99) (g_p1 : RG p1 0 3) : Met l yX12_mostOf wf_c_X12_mostOf_3 ({ frames := 0, cells := 0, slots := 0, locals := 0 }) (va_Pc [.int p0, .int p1] (fun U => U.heap.size = sz ∧ va_P (dC, dI) vwCl [] U.heap ∧ va_K (dC, dI) vwCl [] U ∧ va_D (fun _ => True) [])) (va_Qi (fun (r : Int32) (u : Unit) => (r = 9 ∧ r = fx_c_X12_mostOf_3 p0 p1) ∨ (r = 4 ∧ RG p1 2 2 ∧ r = fx_c_X12_mostOf_3 p0 p1)) (fun (u : Unit) t => va_P (dC, dI) vwCl [] t.heap ∧ va_K (dC, dI) vwCl [] t ∧ va_D (va_A [] sz) []) (va_A [] sz)) 0 0 (va_A [] sz) := by
  refine Met.ofW (cc := cX12_mostOf) (maxL := 2) (ret := (some .int)) (by decide +kernel) rfl ?_
  intro p e s m args below meth c s₁ B hml hv
  obtain ⟨rfl, hsz, hP, hK, hD0⟩ := hv
  have hx := B.exec
  have hb := B.bytes
  have hr := B.returns
  have hts := atoms_spec (ws := wf_c_X12_mostOf_3) B.pre
  have hown : s.vm.findClass RX12 = some m.cls := findClass_of_methodNamed B.named
  have hlocks := B.notSynchronized
  subst hsz
  have hD := hD0.self (sz := s.heap.size)
  generalize hAe : va_A [] s.heap.size = A at hD ⊢
  have hA : ∀ q : Nat, s.heap.size ≤ q → A q := fun q h => by rw [← hAe]; exact Or.inr h
  have hP : va_P (dC, dI) vwCl [] s.heap := hP
  have hl := lv_entry ([.int p0, .int p1]) (n := 2) (Nat.le_of_ble_eq_true rfl)
  rw [lg_entry_eq]
  generalize (lg_sl ([.int p0, .int p1]) ++ List.replicate (2 - (lg_sl ([.int p0, .int p1])).length) Slot.unset).toArray = ls at hl ⊢
  have hl : lv_has ls 2 [(0, .int p0), (1, .int p1)] := hl
  obtain ⟨H, hHe⟩ : ∃ H : Heap, s.heap = H := ⟨_, rfl⟩
  have hS : va_S A s.heap H [] := by rw [hHe]; exact va_S.rf
  have hP : va_P (dC, dI) vwCl [] H := by rw [← hHe]; exact hP
  rw [hHe]
  obtain ⟨RES, hR⟩ : ∃ z, fx_c_X12_mostOf_3 p0 p1 = z := ⟨_, rfl⟩
  have hEX : RES = fx_c_X12_mostOf_3 p0 p1 := hR.symm
  refine lv_iload_n hx hb dX12_mostOf_0 rfl (lv_at hl 0 rfl) ?_
  as_aux_lemma =>
  refine lv_bipush (v := 115) hx hb dX12_mostOf_1 kc_bipush_115 ?_
  refine lv_icmp_ne (tgt := 37) hx hb dX12_mostOf_3 rfl (fun c_1 => ?_) (fun c_1 => ?_)
  · replace hEX := hEX.trans (if_neg c_1)
    refine lv_iload_n hx hb dX12_mostOf_37 rfl (lv_at hl 0 rfl) ?_
    refine lv_bipush (v := 99) hx hb dX12_mostOf_38 kc_bipush_99 ?_
    refine lv_icmp_ne (tgt := 55) hx hb dX12_mostOf_40 rfl (fun c_2 => ?_) (fun c_2 => ?_)
    · replace hEX := hEX.trans (if_neg c_2)
      exact RG_dead (RG_ne1 g_p0 (q := 99) rfl c_2 (a' := 100) (b' := 99) (by decide +kernel)) (by decide +kernel)
    · replace hEX := hEX.trans (if_pos c_2)
      refine lv_iload_n hx hb dX12_mostOf_43 rfl (lv_at hl 1 rfl) ?_
      refine lv_iconst (v := 2) hx hb dX12_mostOf_44 kc_iconst_2 ?_
      refine lv_icmp_ne (tgt := 52) hx hb dX12_mostOf_45 rfl (fun c_3 => ?_) (fun c_3 => ?_)
      · replace hEX := hEX.trans (if_neg c_3)
        refine lv_bipush (v := 9) hx hb dX12_mostOf_52 kc_bipush_9 ?_
        as_aux_lemma =>
        have hK9 := hK.sub (tys' := []) [] rfl
        exact W.iret (v := 9) hx hb hr (fun t ht hW => ⟨⟨9, (), rfl, (Or.inl ⟨rfl, (hR.trans hEX).symm⟩), by rw [ht]; exact hP, va_K.moved hW.alike hK9, hD⟩, hS.F ht⟩) hS.2.2 dX12_mostOf_54
      · replace hEX := hEX.trans (if_pos c_3)
        have g_4 : RG p1 2 2 := RG_eq1 g_p1 (RG_k 2 2 rfl) c_3 (by decide +kernel)
        refine lv_iconst (v := 4) hx hb dX12_mostOf_48 kc_iconst_4 ?_
        refine lv_goto (tgt := 54) hx hb dX12_mostOf_49 rfl ?_
        have hK9 := hK.sub (tys' := []) [] rfl
        exact W.iret (v := 4) hx hb hr (fun t ht hW => ⟨⟨4, (), rfl, (Or.inr ⟨rfl, g_4, (hR.trans hEX).symm⟩), by rw [ht]; exact hP, va_K.moved hW.alike hK9, hD⟩, hS.F ht⟩) hS.2.2 dX12_mostOf_54
  · replace hEX := hEX.trans (if_pos c_1)
    exact RG_dead (RG_eq1 g_p0 (RG_k 115 115 rfl) c_1 (a' := 115) (b' := 99) (by decide +kernel)) (by decide +kernel)
noncomputable def wf_c_X12_has_2 : List Cond := .code yX12_has cX12_has 2 (some .boolean) :: ([])
set_option maxHeartbeats 4000000 in
set_option maxRecDepth 100000 in
theorem c_X12_has_2 (l : Launch) (dC : Nat → ClassId) (dI : Nat → Nat → Nat) (sz : Nat) (p0 : Int32) (p1 : Int32) (g_p1 : RG p1 0 7) : Met l yX12_has wf_c_X12_has_2 ({ frames := 0, cells := 0, slots := 0, locals := 0 }) (va_Pc [.int p0, .int p1] (fun U => U.heap.size = sz ∧ va_P (dC, dI) vwCl [] U.heap ∧ va_K (dC, dI) vwCl [] U ∧ va_D (fun _ => True) [])) (va_Qi (fun (r : Int32) (u : Unit) => (r = 0 ∧ (r = 1 → (p0 >>> (p1 &&& 31)) &&& 1 = 1) ∧ r = fx_c_X12_has_2 p0 p1) ∨ (r = 1 ∧ (r = 1 → (p0 >>> (p1 &&& 31)) &&& 1 = 1) ∧ r = fx_c_X12_has_2 p0 p1)) (fun (u : Unit) t => va_P (dC, dI) vwCl [] t.heap ∧ va_K (dC, dI) vwCl [] t ∧ va_D (va_A [] sz) []) (va_A [] sz)) 0 0 (va_A [] sz) := by
  refine Met.ofW (cc := cX12_has) (maxL := 2) (ret := (some .boolean)) (by decide +kernel) rfl ?_
  intro p e s m args below meth c s₁ B hml hv
  obtain ⟨rfl, hsz, hP, hK, hD0⟩ := hv
  have hx := B.exec
  have hb := B.bytes
  have hr := B.returns
  have hts := atoms_spec (ws := wf_c_X12_has_2) B.pre
  have hown : s.vm.findClass RX12 = some m.cls := findClass_of_methodNamed B.named
  have hlocks := B.notSynchronized
  subst hsz
  have hD := hD0.self (sz := s.heap.size)
  generalize hAe : va_A [] s.heap.size = A at hD ⊢
  have hA : ∀ q : Nat, s.heap.size ≤ q → A q := fun q h => by rw [← hAe]; exact Or.inr h
  have hP : va_P (dC, dI) vwCl [] s.heap := hP
  have hl := lv_entry ([.int p0, .int p1]) (n := 2) (Nat.le_of_ble_eq_true rfl)
  rw [lg_entry_eq]
  generalize (lg_sl ([.int p0, .int p1]) ++ List.replicate (2 - (lg_sl ([.int p0, .int p1])).length) Slot.unset).toArray = ls at hl ⊢
  have hl : lv_has ls 2 [(0, .int p0), (1, .int p1)] := hl
  obtain ⟨H, hHe⟩ : ∃ H : Heap, s.heap = H := ⟨_, rfl⟩
  have hS : va_S A s.heap H [] := by rw [hHe]; exact va_S.rf
  have hP : va_P (dC, dI) vwCl [] H := by rw [← hHe]; exact hP
  rw [hHe]
  obtain ⟨RES, hR⟩ : ∃ z, fx_c_X12_has_2 p0 p1 = z := ⟨_, rfl⟩
  have hEX : RES = fx_c_X12_has_2 p0 p1 := hR.symm
  refine lv_iload_n hx hb dX12_has_0 rfl (lv_at hl 0 rfl) ?_
  as_aux_lemma =>
  refine lv_iload_n hx hb dX12_has_1 rfl (lv_at hl 1 rfl) ?_
  refine lv_ishr hx hb dX12_has_2 ?_
  refine lv_topi (fun x_1 ex_1 => ?_)
  replace hEX := hEX.trans (exl_eq ex_1)
  refine lv_iconst (v := 1) hx hb dX12_has_3 kc_iconst_1 ?_
  refine lv_iand hx hb dX12_has_4 ?_
  refine lv_topi (fun x_2 ex_2 => ?_)
  replace hEX := hEX.trans (exl_eq ex_2)
  have g_3 : RG x_2 0 1 := RG_andr ex_2 (RG_k 1 1 rfl) (by decide +kernel)
  refine lv_iconst (v := 1) hx hb dX12_has_5 kc_iconst_1 ?_
  refine lv_icmp_ne (tgt := 13) hx hb dX12_has_6 rfl (fun c_4 => ?_) (fun c_4 => ?_)
  · replace hEX := hEX.trans (if_neg c_4)
    have g_5 : RG x_2 0 0 := RG_ne1 g_3 (q := 1) rfl c_4 (by decide +kernel)
    refine lv_iconst (v := 0) hx hb dX12_has_13 kc_iconst_0 ?_
    as_aux_lemma =>
    have hK9 := hK.sub (tys' := []) [] rfl
    exact W.zret (v := 0) hx hb hr rfl (fun t ht hW => ⟨⟨0, (), rfl, (Or.inl ⟨rfl, (fun h => absurd h (by decide +kernel)), (hR.trans hEX).symm⟩), by rw [ht]; exact hP, va_K.moved hW.alike hK9, hD⟩, hS.F ht⟩) hS.2.2 dX12_has_14
  · replace hEX := hEX.trans (if_pos c_4)
    have g_6 : RG x_2 1 1 := RG_eq1 g_3 (RG_k 1 1 rfl) c_4 (by decide +kernel)
    refine lv_iconst (v := 1) hx hb dX12_has_9 kc_iconst_1 ?_
    refine lv_goto (tgt := 14) hx hb dX12_has_10 rfl ?_
    have hK9 := hK.sub (tys' := []) [] rfl
    exact W.zret (v := 1) hx hb hr rfl (fun t ht hW => ⟨⟨1, (), rfl, (Or.inr ⟨rfl, (fun _ => by rw [← ex_1, ← ex_2]; exact c_4), (hR.trans hEX).symm⟩), by rw [ht]; exact hP, va_K.moved hW.alike hK9, hD⟩, hS.F ht⟩) hS.2.2 dX12_has_14
noncomputable def wd_c_X12_readItems (a0 : Nat) (a1 : Int32) (a2 : Nat) (a3 : Nat) (a4 : Nat) (a5 : Nat) (a6 : Nat) (a7 : Int32) (a8 : Int32) (a9 : Int32) (a10 : Int32) (a11 : Int32) (a12 : Int32) (a13 : Int32) (a14 : Int32) (a15 : Int32) (a16 : Nat) (a17 : Nat) (a18 : Int32) (a19 : Nat) (a20 : Nat) (a21 : Nat) (a22 : Nat) (a23 : Nat) (a24 : Nat) (a25 : Nat) (a26 : Nat) (a27 : Int32) (a28 : Int32) (a29 : Int32) (a30 : Int32) (a31 : Int32) (a32 : Int32) (a33 : Nat) (a34 : Nat) (a35 : Int32) (a36 : Nat) (a37 : Nat) (a38 : Nat) (a39 : Nat) (a40 : Nat) (a41 : Nat) (a42 : Int32) (a43 : Int64) (a44 : Int32) (a45 : Int32) (a46 : Nat) (a47 : Nat) (a48 : Nat) (a49 : Nat) (a50 : Nat) (a51 : Nat) (a52 : Int32) (a53 : Nat) (a54 : Int32) (a55 : Nat) (a56 : ClassId) (a57 : Nat → Int32) (a58 : Nat) (a59 : ClassId) (a60 : Nat) (a61 : Nat → Int32) : va_W := [(a0, .inr (12, [.int a1, .ref a2, .ref a3, .ref a4, .ref a5, .ref a6, .int a7, .int a8, .int a9, .int a10, .int a11, .int a12, .int a13, .int a14, .int a15, .ref a16, .ref a17, .int a18, .ref a19, .ref a20, .ref a21, .ref a22, .ref a23, .ref a24, .ref a25, .ref a26, .int a27, .int a28, .int a29, .int a30, .int a31, .int a32, .ref a33, .ref a34, .int a35, .ref a36, .ref a37, .ref a38, .ref a39, .ref a40, .ref a41, .int a42, .long a43, .int a44, .int a45, .ref a46, .ref a47, .ref a48, .ref a49, .ref a50, .ref a51, .int a52, .ref a53, .int a54])), (a55, .inl (a56, 12, .inl a57)), (a58, .inl (a59, a60, .inl a61))]
noncomputable def wf_c_X12_readItems : List Cond := List.cons (.code yX12_readItems cX12_readItems 7 none) (@HAppend.hAppend (List Cond) (List Cond) (List Cond) _ [.methodLink RX12 114 yJ0_length_8abf5, .instanceMethod yJ0_length_8abf5, .selects RJ0 yJ0_length_8abf5 yJ0_length_8abf5, .initialized RJ0, .code yJ0_length_8abf5 cJ0_length_8abf5 1 (some .int), .fieldLink RJ0 9 "java/lang/String" "value" "[B", .methodLink RJ0 335 yJ0_coder_7d493, .instanceMethod yJ0_coder_7d493, .selects RJ0 yJ0_coder_7d493 yJ0_coder_7d493, .code yJ0_coder_7d493 cJ0_coder_7d493 1 (some .byte), .fieldLink RJ0 38 "java/lang/String" "COMPACT_STRINGS" "Z", .fieldLink RJ0 15 "java/lang/String" "coder" "B", .methodLink RX12 236 yX12_usual, .static yX12_usual, .initialized RX12, .code yX12_usual cX12_usual 2 (some .int), .methodLink RX12 153 yX12_look, .instanceMethod yX12_look, .selects RX12 yX12_look yX12_look, .code yX12_look cX12_look 1 (some .int), .fieldLink RX12 134 "BuoyVoteModel" "at" "I", .fieldLink RX12 137 "BuoyVoteModel" "ends" "I", .fieldLink RX12 23 "BuoyVoteModel" "text" "[B", .fieldLink RX12 140 "BuoyVoteModel" "begins" "I", .methodLink RX12 240 yX12_spotOf, .static yX12_spotOf, .code yX12_spotOf cX12_spotOf 3 (some .int), .methodLink RX12 120 yJ0_charAt_5068e, .instanceMethod yJ0_charAt_5068e, .selects RJ0 yJ0_charAt_5068e yJ0_charAt_5068e, .code yJ0_charAt_5068e cJ0_charAt_5068e 2 (some .char), .methodLink RJ0 492 yJ0_isLatin1_aae02, .instanceMethod yJ0_isLatin1_aae02, .selects RJ0 yJ0_isLatin1_aae02 yJ0_isLatin1_aae02, .code yJ0_isLatin1_aae02 cJ0_isLatin1_aae02 1 (some .boolean), .methodLink RJ0 495 yJ1_charAt_3b067, .static yJ1_charAt_3b067, .initialized RJ1, .code yJ1_charAt_3b067 cJ1_charAt_3b067 2 (some .char), .methodLink RJ1 9 yJ0_checkIndex_df160, .static yJ0_checkIndex_df160, .code yJ0_checkIndex_df160 cJ0_checkIndex_df160 2 none, .fieldLink RJ0 1053 "jdk/internal/util/Preconditions" "SIOOBE_FORMATTER" "Ljava/util/function/BiFunction;", .methodLink RJ0 1059 yJ3_checkIndex_8e157, .static yJ3_checkIndex_8e157, .initialized RJ3, .code yJ3_checkIndex_8e157 cJ3_checkIndex_8e157 3 (some .int), .fieldLink RX12 143 "BuoyVoteModel" "fault" "I", .methodLink RX12 244 yX12_has, .static yX12_has, .code yX12_has cX12_has 2 (some .boolean), .methodLink RX12 248 yX12_leastOf, .static yX12_leastOf, .code yX12_leastOf cX12_leastOf 2 (some .int), .methodLink RX12 251 yX12_mostOf, .static yX12_mostOf, .code yX12_mostOf cX12_mostOf 2 (some .int), .methodLink RX12 254 yX12_number, .instanceMethod yX12_number, .selects RX12 yX12_number yX12_number, .code yX12_number cX12_number 5 (some .int), .methodLink RX12 183 yX12_isDigit, .instanceMethod yX12_isDigit, .selects RX12 yX12_isDigit yX12_isDigit, .code yX12_isDigit cX12_isDigit 1 (some .boolean), .methodLink RX12 149 yX12_fails, .instanceMethod yX12_fails, .selects RX12 yX12_fails yX12_fails, .code yX12_fails cX12_fails 1 (some .boolean), .methodLink RX12 229 yX12_here, .instanceMethod yX12_here, .selects RX12 yX12_here yX12_here, .code yX12_here cX12_here 1 (some .int), .methodLink RX12 232 yX12_isIn, .static yX12_isIn, .code yX12_isIn cX12_isIn 6 (some .boolean)] wsX120)
theorem iw_c_X12_readItems_X12 : ∀ w ∈ wsX120, w ∈ wf_c_X12_readItems := fun w h => List.mem_cons_of_mem _ (List.mem_append_right _ h)
set_option maxRecDepth 20000 in
theorem gf_c_X12_readItems_c_X12_has_2 : GoodIn wf_c_X12_readItems (va_wsS RX12 244 yX12_has wf_c_X12_has_2) := goodIn_app (gi_l [49, 50, 15] rfl rfl) (gi_cons (j := 51) rfl rfl gi_nil)
set_option maxRecDepth 20000 in
theorem gf_c_X12_readItems_c_X12_leastOf : GoodIn wf_c_X12_readItems (va_wsS RX12 248 yX12_leastOf wf_c_X12_leastOf) := goodIn_app (gi_l [52, 53, 15] rfl rfl) (gi_cons (j := 54) rfl rfl gi_nil)
set_option maxRecDepth 20000 in
theorem gf_c_X12_readItems_c_X12_mostOf : GoodIn wf_c_X12_readItems (va_wsS RX12 251 yX12_mostOf wf_c_X12_mostOf) := goodIn_app (gi_l [55, 56, 15] rfl rfl) (gi_cons (j := 57) rfl rfl gi_nil)
set_option maxRecDepth 20000 in
theorem gf_c_X12_readItems_c_X12_number : GoodIn wf_c_X12_readItems (wsV RX12 254 RX12 yX12_number wf_c_X12_number) := goodIn_app (gi_l [58, 59, 60, 15] rfl rfl) (gi_cons (j := 61) rfl rfl (goodIn_app (gi_l [17, 18, 19, 15, 20, 21, 22, 23, 24, 62, 63, 64, 65, 66, 67, 68, 69, 48, 70, 71, 72, 73, 74, 75, 76] rfl rfl) (goodIn_sub iw_c_X12_readItems_X12 gw_X12)))
set_option maxRecDepth 20000 in
theorem gf_c_X12_readItems_c_X12_look : GoodIn wf_c_X12_readItems (wsV RX12 153 RX12 yX12_look wf_c_X12_look) := goodIn_app (gi_l [17, 18, 19, 15] rfl rfl) (gi_cons (j := 20) rfl rfl (goodIn_app (gi_l [21, 22, 23, 24] rfl rfl) (goodIn_sub iw_c_X12_readItems_X12 gw_X12)))
set_option maxRecDepth 20000 in
theorem gf_c_X12_readItems_c_X12_spotOf : GoodIn wf_c_X12_readItems (va_wsS RX12 240 yX12_spotOf wf_c_X12_spotOf) := goodIn_app (gi_l [25, 26, 15] rfl rfl) (gi_cons (j := 27) rfl rfl (gi_l [1, 2, 3, 4, 5, 6, 7, 8, 9, 10, 11, 12, 28, 29, 30, 31, 32, 33, 34, 35, 36, 37, 38, 39, 40, 41, 42, 43, 44, 45, 46, 47] rfl rfl))
set_option maxRecDepth 20000 in
theorem gf_c_X12_readItems_c_X12_spotOf_1 : GoodIn wf_c_X12_readItems (va_wsS RX12 240 yX12_spotOf wf_c_X12_spotOf_1) := goodIn_app (gi_l [25, 26, 15] rfl rfl) (gi_cons (j := 27) rfl rfl (gi_l [1, 2, 3, 4, 5, 6, 7, 8, 9, 10, 11, 12, 28, 29, 30, 31, 32, 33, 34, 35, 36, 37, 38, 39, 40, 41, 42, 43, 44, 45, 46, 47] rfl rfl))
set_option maxRecDepth 20000 in
theorem gf_c_X12_readItems_c_X12_fails : GoodIn wf_c_X12_readItems (wsV RX12 149 RX12 yX12_fails wf_c_X12_fails) := goodIn_app (gi_l [66, 67, 68, 15] rfl rfl) (gi_cons (j := 69) rfl rfl (goodIn_app (gi_l [48, 21] rfl rfl) (goodIn_sub iw_c_X12_readItems_X12 gw_X12)))
set_option maxRecDepth 20000 in
theorem gf_c_X12_readItems_c_X12_leastOf_1 : GoodIn wf_c_X12_readItems (va_wsS RX12 248 yX12_leastOf wf_c_X12_leastOf_1) := goodIn_app (gi_l [52, 53, 15] rfl rfl) (gi_cons (j := 54) rfl rfl gi_nil)
set_option maxRecDepth 20000 in
theorem gf_c_X12_readItems_c_X12_mostOf_1 : GoodIn wf_c_X12_readItems (va_wsS RX12 251 yX12_mostOf wf_c_X12_mostOf_1) := goodIn_app (gi_l [55, 56, 15] rfl rfl) (gi_cons (j := 57) rfl rfl gi_nil)
set_option maxRecDepth 20000 in
theorem gf_c_X12_readItems_c_X12_leastOf_2 : GoodIn wf_c_X12_readItems (va_wsS RX12 248 yX12_leastOf wf_c_X12_leastOf_2) := goodIn_app (gi_l [52, 53, 15] rfl rfl) (gi_cons (j := 54) rfl rfl gi_nil)
set_option maxRecDepth 20000 in
theorem gf_c_X12_readItems_c_X12_mostOf_2 : GoodIn wf_c_X12_readItems (va_wsS RX12 251 yX12_mostOf wf_c_X12_mostOf_2) := goodIn_app (gi_l [55, 56, 15] rfl rfl) (gi_cons (j := 57) rfl rfl gi_nil)
set_option maxRecDepth 20000 in
theorem gf_c_X12_readItems_c_X12_number_1 : GoodIn wf_c_X12_readItems (wsV RX12 254 RX12 yX12_number wf_c_X12_number_1) := goodIn_app (gi_l [58, 59, 60, 15] rfl rfl) (gi_cons (j := 61) rfl rfl (goodIn_app (gi_l [17, 18, 19, 15, 20, 21, 22, 23, 24, 62, 63, 64, 65, 66, 67, 68, 69, 48, 70, 71, 72, 73, 74, 75, 76] rfl rfl) (goodIn_sub iw_c_X12_readItems_X12 gw_X12)))
set_option maxRecDepth 20000 in
theorem gf_c_X12_readItems_c_X12_leastOf_3 : GoodIn wf_c_X12_readItems (va_wsS RX12 248 yX12_leastOf wf_c_X12_leastOf_3) := goodIn_app (gi_l [52, 53, 15] rfl rfl) (gi_cons (j := 54) rfl rfl gi_nil)
set_option maxRecDepth 20000 in
theorem gf_c_X12_readItems_c_X12_mostOf_3 : GoodIn wf_c_X12_readItems (va_wsS RX12 251 yX12_mostOf wf_c_X12_mostOf_3) := goodIn_app (gi_l [55, 56, 15] rfl rfl) (gi_cons (j := 57) rfl rfl gi_nil)
set_option maxRecDepth 20000 in
theorem gf_c_X12_readItems_c_J0_length_8abf5_6 : GoodIn wf_c_X12_readItems (wsV RX12 114 RJ0 yJ0_length_8abf5 wf_c_J0_length_8abf5_6) := goodIn_app (gi_l [1, 2, 3, 4] rfl rfl) (gi_cons (j := 5) rfl rfl (gi_l [6, 7, 8, 9, 4, 10, 11, 12] rfl rfl))
set_option maxRecDepth 20000 in
theorem gf_c_X12_readItems_c_X12_usual_4 : GoodIn wf_c_X12_readItems (va_wsS RX12 236 yX12_usual wf_c_X12_usual_4) := goodIn_app (gi_l [13, 14, 15] rfl rfl) (gi_cons (j := 16) rfl rfl gi_nil)
set_option maxRecDepth 20000 in
theorem gf_c_X12_readItems_c_X12_usual_5 : GoodIn wf_c_X12_readItems (va_wsS RX12 236 yX12_usual wf_c_X12_usual_5) := goodIn_app (gi_l [13, 14, 15] rfl rfl) (gi_cons (j := 16) rfl rfl gi_nil)
set_option maxRecDepth 20000 in
theorem gf_c_X12_readItems_c_X12_usual_6 : GoodIn wf_c_X12_readItems (va_wsS RX12 236 yX12_usual wf_c_X12_usual_6) := goodIn_app (gi_l [13, 14, 15] rfl rfl) (gi_cons (j := 16) rfl rfl gi_nil)
set_option maxRecDepth 20000 in
theorem gf_c_X12_readItems_c_X12_usual_7 : GoodIn wf_c_X12_readItems (va_wsS RX12 236 yX12_usual wf_c_X12_usual_7) := goodIn_app (gi_l [13, 14, 15] rfl rfl) (gi_cons (j := 16) rfl rfl gi_nil)
set_option maxHeartbeats 4000000 in
set_option maxRecDepth 100000 in
theorem c_X12_readItems (l : Launch) (dC : Nat → ClassId) (dI : Nat → Nat → Nat) (sz : Nat) (h0 : Nat) (p1 : Int32) (h2 : Nat) (p3 : Int32) (ts10 : Nat) (h0_f0 : Int32) (h0_1 : Nat) (h0_2 : Nat) (h0_3 : Nat) (h0_4 : Nat) (h0_5 : Nat) (h0_f6 : Int32) (h0_f7 : Int32) (h0_f8 : Int32) (h0_f9 : Int32) (h0_f10 : Int32) (h0_f12 : Int32) (h0_f13 : Int32) (h0_f14 : Int32) (h0_15 : Nat) (h0_16 : Nat) (h0_f17 : Int32) (h0_18 : Nat) (h0_19 : Nat) (h0_20 : Nat) (h0_21 : Nat) (h0_22 : Nat) (h0_23 : Nat) (h0_24 : Nat) (h0_25 : Nat) (h0_f26 : Int32) (h0_f27 : Int32) (h0_f28 : Int32) (h0_f29 : Int32) (h0_f30 : Int32) (h0_f31 : Int32) (h0_32 : Nat) (h0_33 : Nat) (h0_f34 : Int32) (h0_35 : Nat) (h0_36 : Nat) (h0_37 : Nat) (h0_38 : Nat) (h0_39 : Nat) (h0_40 : Nat) (h0_f41 : Int32) (h0_f42 : Int64) (h0_f43 : Int32) (h0_f44 : Int32) (h0_45 : Nat) (h0_46 : Nat) (h0_47 : Nat) (h0_48 : Nat) (h0_49 : Nat) (h0_50 : Nat) (h0_f51 : Int32) (h0_52 : Nat) (h0_f53 : Int32) (h2k : ClassId) (h2c : Nat → Int32) (h0_5k : ClassId) (h0_5c : Nat → Int32) (tN : Nat) (tv10 : Nat) (g_p1 : RG p1 99 99) (g_p3 : RG p3 0 8) (g_h0_f6 : RG h0_f6 0 240) (g_h0_f7 : RG h0_f7 0 4) (g_h0_f8 : RG h0_f8 0 720) (g_h0_f9 : RG h0_f9 0 240) (g_h0_f10 : RG h0_f10 0 240) (g_h0_f17 : RG h0_f17 0 1) (g_h0_f26 : RG h0_f26 0 8) (g_h0_f27 : RG h0_f27 0 3) (g_h0_f28 : RG h0_f28 0 8) (g_h0_f29 : RG h0_f29 0 3) (g_h0_f30 : RG h0_f30 0 4) (g_h0_f31 : RG h0_f31 0 1) (g_h0_f34 : RG h0_f34 (-1) 3) (g_h0_f41 : RG h0_f41 0 40) (g_h0_f51 : RG h0_f51 0 10) (g_h0_f53 : RG h0_f53 0 1) (a_h2c : AI h2c 0 99) (htN : h0_f8.toInt + 240 ≤ (tN : Int)) (i_h2c : BOi p3.toInt h2c) (hrow : p3.toInt % 4 = 0) : Met l yX12_readItems wf_c_X12_readItems ({ frames := 5, cells := 0, slots := 0, locals := 107 }) (va_Pc [.ref h0, .int p1, .ref h2, .int p3, .ref ts10] (fun U => U.heap.size = sz ∧ va_P (dC, dI) vwCl (wd_c_X12_readItems h0 h0_f0 h0_1 h0_2 h0_3 h0_4 h0_5 h0_f6 h0_f7 h0_f8 h0_f9 h0_f10 (-1) h0_f12 h0_f13 h0_f14 h0_15 h0_16 h0_f17 h0_18 h0_19 h0_20 h0_21 h0_22 h0_23 h0_24 h0_25 h0_f26 h0_f27 h0_f28 h0_f29 h0_f30 h0_f31 h0_32 h0_33 h0_f34 h0_35 h0_36 h0_37 h0_38 h0_39 h0_40 h0_f41 h0_f42 h0_f43 h0_f44 h0_45 h0_46 h0_47 h0_48 h0_49 h0_50 h0_f51 h0_52 h0_f53 h2 h2k h2c h0_5 h0_5k tN h0_5c) U.heap ∧ va_K (dC, dI) vwCl [(h2k, .int), (h0_5k, .byte)] U ∧ va_D (fun _ => True) (wd_c_X12_readItems h0 h0_f0 h0_1 h0_2 h0_3 h0_4 h0_5 h0_f6 h0_f7 h0_f8 h0_f9 h0_f10 (-1) h0_f12 h0_f13 h0_f14 h0_15 h0_16 h0_f17 h0_18 h0_19 h0_20 h0_21 h0_22 h0_23 h0_24 h0_25 h0_f26 h0_f27 h0_f28 h0_f29 h0_f30 h0_f31 h0_32 h0_33 h0_f34 h0_35 h0_36 h0_37 h0_38 h0_39 h0_40 h0_f41 h0_f42 h0_f43 h0_f44 h0_45 h0_46 h0_47 h0_48 h0_49 h0_50 h0_f51 h0_52 h0_f53 h2 h2k h2c h0_5 h0_5k tN h0_5c) ∧ va_OF "java/lang/String" "value" "[B" (.ref tv10) ts10 (va_A (wd_c_X12_readItems h0 h0_f0 h0_1 h0_2 h0_3 h0_4 h0_5 h0_f6 h0_f7 h0_f8 h0_f9 h0_f10 (-1) h0_f12 h0_f13 h0_f14 h0_15 h0_16 h0_f17 h0_18 h0_19 h0_20 h0_21 h0_22 h0_23 h0_24 h0_25 h0_f26 h0_f27 h0_f28 h0_f29 h0_f30 h0_f31 h0_32 h0_33 h0_f34 h0_35 h0_36 h0_37 h0_38 h0_39 h0_40 h0_f41 h0_f42 h0_f43 h0_f44 h0_45 h0_46 h0_47 h0_48 h0_49 h0_50 h0_f51 h0_52 h0_f53 h2 h2k h2c h0_5 h0_5k tN h0_5c) sz) U U.heap ∧ va_T .byte tv10 4 (fun j => .int ([120, 121, 115, 118].getD j 0)) (va_A (wd_c_X12_readItems h0 h0_f0 h0_1 h0_2 h0_3 h0_4 h0_5 h0_f6 h0_f7 h0_f8 h0_f9 h0_f10 (-1) h0_f12 h0_f13 h0_f14 h0_15 h0_16 h0_f17 h0_18 h0_19 h0_20 h0_21 h0_22 h0_23 h0_24 h0_25 h0_f26 h0_f27 h0_f28 h0_f29 h0_f30 h0_f31 h0_32 h0_33 h0_f34 h0_35 h0_36 h0_37 h0_38 h0_39 h0_40 h0_f41 h0_f42 h0_f43 h0_f44 h0_45 h0_46 h0_47 h0_48 h0_49 h0_50 h0_f51 h0_52 h0_f53 h2 h2k h2c h0_5 h0_5k tN h0_5c) sz) U U.heap ∧ va_Z "java/lang/String" "COMPACT_STRINGS" "Z" (.int 1) (va_A (wd_c_X12_readItems h0 h0_f0 h0_1 h0_2 h0_3 h0_4 h0_5 h0_f6 h0_f7 h0_f8 h0_f9 h0_f10 (-1) h0_f12 h0_f13 h0_f14 h0_15 h0_16 h0_f17 h0_18 h0_19 h0_20 h0_21 h0_22 h0_23 h0_24 h0_25 h0_f26 h0_f27 h0_f28 h0_f29 h0_f30 h0_f31 h0_32 h0_33 h0_f34 h0_35 h0_36 h0_37 h0_38 h0_39 h0_40 h0_f41 h0_f42 h0_f43 h0_f44 h0_45 h0_46 h0_47 h0_48 h0_49 h0_50 h0_f51 h0_52 h0_f53 h2 h2k h2c h0_5 h0_5k tN h0_5c) sz) U U.heap ∧ va_OF "java/lang/String" "coder" "B" (.int 0) ts10 (va_A (wd_c_X12_readItems h0 h0_f0 h0_1 h0_2 h0_3 h0_4 h0_5 h0_f6 h0_f7 h0_f8 h0_f9 h0_f10 (-1) h0_f12 h0_f13 h0_f14 h0_15 h0_16 h0_f17 h0_18 h0_19 h0_20 h0_21 h0_22 h0_23 h0_24 h0_25 h0_f26 h0_f27 h0_f28 h0_f29 h0_f30 h0_f31 h0_32 h0_33 h0_f34 h0_35 h0_36 h0_37 h0_38 h0_39 h0_40 h0_f41 h0_f42 h0_f43 h0_f44 h0_45 h0_46 h0_47 h0_48 h0_49 h0_50 h0_f51 h0_52 h0_f53 h2 h2k h2c h0_5 h0_5k tN h0_5c) sz) U U.heap ∧ va_O "java/lang/String" ts10 (va_A (wd_c_X12_readItems h0 h0_f0 h0_1 h0_2 h0_3 h0_4 h0_5 h0_f6 h0_f7 h0_f8 h0_f9 h0_f10 (-1) h0_f12 h0_f13 h0_f14 h0_15 h0_16 h0_f17 h0_18 h0_19 h0_20 h0_21 h0_22 h0_23 h0_24 h0_25 h0_f26 h0_f27 h0_f28 h0_f29 h0_f30 h0_f31 h0_32 h0_33 h0_f34 h0_35 h0_36 h0_37 h0_38 h0_39 h0_40 h0_f41 h0_f42 h0_f43 h0_f44 h0_45 h0_46 h0_47 h0_48 h0_49 h0_50 h0_f51 h0_52 h0_f53 h2 h2k h2c h0_5 h0_5k tN h0_5c) sz) U U.heap ∧ va_Zq "jdk/internal/util/Preconditions" "SIOOBE_FORMATTER" "Ljava/util/function/BiFunction;" (va_A (wd_c_X12_readItems h0 h0_f0 h0_1 h0_2 h0_3 h0_4 h0_5 h0_f6 h0_f7 h0_f8 h0_f9 h0_f10 (-1) h0_f12 h0_f13 h0_f14 h0_15 h0_16 h0_f17 h0_18 h0_19 h0_20 h0_21 h0_22 h0_23 h0_24 h0_25 h0_f26 h0_f27 h0_f28 h0_f29 h0_f30 h0_f31 h0_32 h0_33 h0_f34 h0_35 h0_36 h0_37 h0_38 h0_39 h0_40 h0_f41 h0_f42 h0_f43 h0_f44 h0_45 h0_46 h0_47 h0_48 h0_49 h0_50 h0_f51 h0_52 h0_f53 h2 h2k h2c h0_5 h0_5k tN h0_5c) sz) U U.heap)) (va_Qv (fun (u : (Int32) × (Int32) × (Nat → Int32)) => (RG u.1 0 240 ∧ u.2.1 = (-1) ∧ AI (u.2.2) 0 99 ∧ BOi (p3.toInt + 4) (u.2.2) ∧ h0_f10.toInt + 0 ≤ (u.1).toInt ∧ (u.1, u.2.1, u.2.2) = fx_c_X12_readItems p1 p3 h0_f8 h0_f9 h0_f10 h2c h0_5c) ∨ (RG u.1 0 240 ∧ RG u.2.1 0 240 ∧ AI (u.2.2) 0 99 ∧ RG h0_f9 1 240 ∧ (u.1, u.2.1, u.2.2) = fx_c_X12_readItems p1 p3 h0_f8 h0_f9 h0_f10 h2c h0_5c)) (fun (u : (Int32) × (Int32) × (Nat → Int32)) t => va_P (dC, dI) vwCl (wd_c_X12_readItems h0 h0_f0 h0_1 h0_2 h0_3 h0_4 h0_5 h0_f6 h0_f7 h0_f8 h0_f9 (u.1) (u.2.1) h0_f12 h0_f13 h0_f14 h0_15 h0_16 h0_f17 h0_18 h0_19 h0_20 h0_21 h0_22 h0_23 h0_24 h0_25 h0_f26 h0_f27 h0_f28 h0_f29 h0_f30 h0_f31 h0_32 h0_33 h0_f34 h0_35 h0_36 h0_37 h0_38 h0_39 h0_40 h0_f41 h0_f42 h0_f43 h0_f44 h0_45 h0_46 h0_47 h0_48 h0_49 h0_50 h0_f51 h0_52 h0_f53 h2 h2k (u.2.2) h0_5 h0_5k tN h0_5c) t.heap ∧ va_K (dC, dI) vwCl [] t ∧ va_D (va_A (wd_c_X12_readItems h0 h0_f0 h0_1 h0_2 h0_3 h0_4 h0_5 h0_f6 h0_f7 h0_f8 h0_f9 h0_f10 (-1) h0_f12 h0_f13 h0_f14 h0_15 h0_16 h0_f17 h0_18 h0_19 h0_20 h0_21 h0_22 h0_23 h0_24 h0_25 h0_f26 h0_f27 h0_f28 h0_f29 h0_f30 h0_f31 h0_32 h0_33 h0_f34 h0_35 h0_36 h0_37 h0_38 h0_39 h0_40 h0_f41 h0_f42 h0_f43 h0_f44 h0_45 h0_46 h0_47 h0_48 h0_49 h0_50 h0_f51 h0_52 h0_f53 h2 h2k h2c h0_5 h0_5k tN h0_5c) sz) (wd_c_X12_readItems h0 h0_f0 h0_1 h0_2 h0_3 h0_4 h0_5 h0_f6 h0_f7 h0_f8 h0_f9 (u.1) (u.2.1) h0_f12 h0_f13 h0_f14 h0_15 h0_16 h0_f17 h0_18 h0_19 h0_20 h0_21 h0_22 h0_23 h0_24 h0_25 h0_f26 h0_f27 h0_f28 h0_f29 h0_f30 h0_f31 h0_32 h0_33 h0_f34 h0_35 h0_36 h0_37 h0_38 h0_39 h0_40 h0_f41 h0_f42 h0_f43 h0_f44 h0_45 h0_46 h0_47 h0_48 h0_49 h0_50 h0_f51 h0_52 h0_f53 h2 h2k (u.2.2) h0_5 h0_5k tN h0_5c)) (va_A (wd_c_X12_readItems h0 h0_f0 h0_1 h0_2 h0_3 h0_4 h0_5 h0_f6 h0_f7 h0_f8 h0_f9 h0_f10 (-1) h0_f12 h0_f13 h0_f14 h0_15 h0_16 h0_f17 h0_18 h0_19 h0_20 h0_21 h0_22 h0_23 h0_24 h0_25 h0_f26 h0_f27 h0_f28 h0_f29 h0_f30 h0_f31 h0_32 h0_33 h0_f34 h0_35 h0_36 h0_37 h0_38 h0_39 h0_40 h0_f41 h0_f42 h0_f43 h0_f44 h0_45 h0_46 h0_47 h0_48 h0_49 h0_50 h0_f51 h0_52 h0_f53 h2 h2k h2c h0_5 h0_5k tN h0_5c) sz)) 0 0 (va_A (wd_c_X12_readItems h0 h0_f0 h0_1 h0_2 h0_3 h0_4 h0_5 h0_f6 h0_f7 h0_f8 h0_f9 h0_f10 (-1) h0_f12 h0_f13 h0_f14 h0_15 h0_16 h0_f17 h0_18 h0_19 h0_20 h0_21 h0_22 h0_23 h0_24 h0_25 h0_f26 h0_f27 h0_f28 h0_f29 h0_f30 h0_f31 h0_32 h0_33 h0_f34 h0_35 h0_36 h0_37 h0_38 h0_39 h0_40 h0_f41 h0_f42 h0_f43 h0_f44 h0_45 h0_46 h0_47 h0_48 h0_49 h0_50 h0_f51 h0_52 h0_f53 h2 h2k h2c h0_5 h0_5k tN h0_5c) sz) := by
  refine Met.ofW (cc := cX12_readItems) (maxL := 7) (ret := none) (by decide +kernel) rfl ?_
  intro p e s m args below meth c s₁ B hml hv
  obtain ⟨rfl, hsz, hP, hK, hD0, hE_65, hE_66, hE_10, hE_64, hE_63, hE_11⟩ := hv
  have hx := B.exec
  have hb := B.bytes
  have hr := B.returns
  have hts := atoms_spec (ws := wf_c_X12_readItems) B.pre
  have hown : s.vm.findClass RX12 = some m.cls := findClass_of_methodNamed B.named
  have hlocks := B.notSynchronized
  subst hsz
  have hD := hD0.self (sz := s.heap.size)
  generalize hAe : va_A (wd_c_X12_readItems h0 h0_f0 h0_1 h0_2 h0_3 h0_4 h0_5 h0_f6 h0_f7 h0_f8 h0_f9 h0_f10 (-1) h0_f12 h0_f13 h0_f14 h0_15 h0_16 h0_f17 h0_18 h0_19 h0_20 h0_21 h0_22 h0_23 h0_24 h0_25 h0_f26 h0_f27 h0_f28 h0_f29 h0_f30 h0_f31 h0_32 h0_33 h0_f34 h0_35 h0_36 h0_37 h0_38 h0_39 h0_40 h0_f41 h0_f42 h0_f43 h0_f44 h0_45 h0_46 h0_47 h0_48 h0_49 h0_50 h0_f51 h0_52 h0_f53 h2 h2k h2c h0_5 h0_5k tN h0_5c) s.heap.size = A at hD hE_65 hE_66 hE_10 hE_64 hE_63 hE_11 ⊢
  have hA : ∀ q : Nat, s.heap.size ≤ q → A q := fun q h => by rw [← hAe]; exact Or.inr h
  have hP : va_P (dC, dI) vwCl (wd_c_X12_readItems h0 h0_f0 h0_1 h0_2 h0_3 h0_4 h0_5 h0_f6 h0_f7 h0_f8 h0_f9 h0_f10 (-1) h0_f12 h0_f13 h0_f14 h0_15 h0_16 h0_f17 h0_18 h0_19 h0_20 h0_21 h0_22 h0_23 h0_24 h0_25 h0_f26 h0_f27 h0_f28 h0_f29 h0_f30 h0_f31 h0_32 h0_33 h0_f34 h0_35 h0_36 h0_37 h0_38 h0_39 h0_40 h0_f41 h0_f42 h0_f43 h0_f44 h0_45 h0_46 h0_47 h0_48 h0_49 h0_50 h0_f51 h0_52 h0_f53 h2 h2k h2c h0_5 h0_5k tN h0_5c) s.heap := hP
  have hl := lv_entry ([.ref h0, .int p1, .ref h2, .int p3, .ref ts10]) (n := 7) (Nat.le_of_ble_eq_true rfl)
  rw [lg_entry_eq]
  generalize (lg_sl ([.ref h0, .int p1, .ref h2, .int p3, .ref ts10]) ++ List.replicate (7 - (lg_sl ([.ref h0, .int p1, .ref h2, .int p3, .ref ts10])).length) Slot.unset).toArray = ls at hl ⊢
  have hl : lv_has ls 7 [(0, .ref h0), (1, .int p1), (2, .ref h2), (3, .int p3), (4, .ref ts10)] := hl
  obtain ⟨H, hHe⟩ : ∃ H : Heap, s.heap = H := ⟨_, rfl⟩
  have hS : va_S A s.heap H [] := by rw [hHe]; exact va_S.rf
  have hP : va_P (dC, dI) vwCl (wd_c_X12_readItems h0 h0_f0 h0_1 h0_2 h0_3 h0_4 h0_5 h0_f6 h0_f7 h0_f8 h0_f9 h0_f10 (-1) h0_f12 h0_f13 h0_f14 h0_15 h0_16 h0_f17 h0_18 h0_19 h0_20 h0_21 h0_22 h0_23 h0_24 h0_25 h0_f26 h0_f27 h0_f28 h0_f29 h0_f30 h0_f31 h0_32 h0_33 h0_f34 h0_35 h0_36 h0_37 h0_38 h0_39 h0_40 h0_f41 h0_f42 h0_f43 h0_f44 h0_45 h0_46 h0_47 h0_48 h0_49 h0_50 h0_f51 h0_52 h0_f53 h2 h2k h2c h0_5 h0_5k tN h0_5c) H := by rw [← hHe]; exact hP
  rw [hHe]
  obtain ⟨RES, hR⟩ : ∃ z, fx_c_X12_readItems p1 p3 h0_f8 h0_f9 h0_f10 h2c h0_5c = z := ⟨_, rfl⟩
  have hEX : RES = fx_c_X12_readItems p1 p3 h0_f8 h0_f9 h0_f10 h2c h0_5c := hR.symm
  refine wj (fun G hG hU => ?_)
  as_aux_lemma =>
  have J45 : ∀ (j45_l5 : Int32) (j45_h0_f10 : Int32) (j45_h2c : Nat → Int32) (g_h0_f10 : RG h0_f10 0 240) (g_h0_f17 : RG h0_f17 0 1) (g_h0_f26 : RG h0_f26 0 8) (g_h0_f27 : RG h0_f27 0 3) (g_h0_f28 : RG h0_f28 0 8) (g_h0_f29 : RG h0_f29 0 3) (g_h0_f30 : RG h0_f30 0 4) (g_h0_f31 : RG h0_f31 0 1) (g_h0_f34 : RG h0_f34 (-1) 3) (g_h0_f41 : RG h0_f41 0 40) (g_h0_f51 : RG h0_f51 0 10) (g_h0_f53 : RG h0_f53 0 1) (g_h0_f6 : RG h0_f6 0 240) (g_h0_f7 : RG h0_f7 0 4) (g_h0_f8 : RG h0_f8 0 720) (g_h0_f9 : RG h0_f9 0 240) (g_j45_h0_f10 : RG j45_h0_f10 0 240) (g_p1 : RG p1 99 99) (g_p3 : RG p3 0 8) (a_j45_h2c : AI j45_h2c 0 99) (i_45_h2 : BOi (p3.toInt + 4) j45_h2c) (r_h0_f10_j45_h0_f10 : h0_f10.toInt + 0 ≤ j45_h0_f10.toInt) (hEX : RES = fx_c_X12_readItems_p45 j45_h0_f10 j45_h2c) (H : Heap) (locs : List Loc) (ls : Array Slot) (hP : va_P (dC, dI) vwCl (wd_c_X12_readItems h0 h0_f0 h0_1 h0_2 h0_3 h0_4 h0_5 h0_f6 h0_f7 h0_f8 h0_f9 j45_h0_f10 (-1) h0_f12 h0_f13 h0_f14 h0_15 h0_16 h0_f17 h0_18 h0_19 h0_20 h0_21 h0_22 h0_23 h0_24 h0_25 h0_f26 h0_f27 h0_f28 h0_f29 h0_f30 h0_f31 h0_32 h0_33 h0_f34 h0_35 h0_36 h0_37 h0_38 h0_39 h0_40 h0_f41 h0_f42 h0_f43 h0_f44 h0_45 h0_46 h0_47 h0_48 h0_49 h0_50 h0_f51 h0_52 h0_f53 h2 h2k j45_h2c h0_5 h0_5k tN h0_5c) H) (hD : va_D A (wd_c_X12_readItems h0 h0_f0 h0_1 h0_2 h0_3 h0_4 h0_5 h0_f6 h0_f7 h0_f8 h0_f9 j45_h0_f10 (-1) h0_f12 h0_f13 h0_f14 h0_15 h0_16 h0_f17 h0_18 h0_19 h0_20 h0_21 h0_22 h0_23 h0_24 h0_25 h0_f26 h0_f27 h0_f28 h0_f29 h0_f30 h0_f31 h0_32 h0_33 h0_f34 h0_35 h0_36 h0_37 h0_38 h0_39 h0_40 h0_f41 h0_f42 h0_f43 h0_f44 h0_45 h0_46 h0_47 h0_48 h0_49 h0_50 h0_f51 h0_52 h0_f53 h2 h2k j45_h2c h0_5 h0_5k tN h0_5c)) (hS : va_S A s.heap H locs) (hl : lv_has ls 7 [(6, .int (-1)), (5, .int j45_l5), (0, .ref h0), (1, .int p1), (2, .ref h2), (3, .int p3), (4, .ref ts10)]), G H locs (F0 m 45 ls []) := by
    as_aux_lemma =>
    intro j45_l5 j45_h0_f10 j45_h2c g_h0_f10 g_h0_f17 g_h0_f26 g_h0_f27 g_h0_f28 g_h0_f29 g_h0_f30 g_h0_f31 g_h0_f34 g_h0_f41 g_h0_f51 g_h0_f53 g_h0_f6 g_h0_f7 g_h0_f8 g_h0_f9 g_j45_h0_f10 g_p1 g_p3 a_j45_h2c i_45_h2 r_h0_f10_j45_h0_f10 hEX H locs ls hP hD hS hl
    refine hG _ _ _ ?_
    refine lv_iload hx hb dX12_readItems_45 (lv_at hl 0 rfl) ?_
    refine lv_iconst (v := (-1)) hx hb dX12_readItems_47 kc_iconst_m1 ?_
    refine lv_icmp_eq (tgt := 138) hx hb dX12_readItems_48 rfl (fun c_1 => ?_) (fun c_1 => absurd c_1 (by decide +kernel))
    have hK9 := hK.sub (tys' := []) [] rfl
    exact W.vret hx hb hr (fun t ht hW => ⟨⟨(j45_h0_f10, (-1), j45_h2c), rfl, (Or.inl ⟨g_j45_h0_f10, rfl, a_j45_h2c, i_45_h2, (by have := r_h0_f10_j45_h0_f10; show h0_f10.toInt + 0 ≤ j45_h0_f10.toInt; omega), (hR.trans hEX).symm⟩), by rw [ht]; exact hP, va_K.moved hW.alike hK9, hD⟩, hS.F ht⟩) hS.2.2 dX12_readItems_138
  have J45c : ∀ (j45c_l5 : Int32) (j45c_l6 : Int32) (j45c_h0_f10 : Int32) (j45c_h0_f11 : Int32) (j45c_h2c : Nat → Int32) (g_h0_f10 : RG h0_f10 0 240) (g_h0_f17 : RG h0_f17 0 1) (g_h0_f26 : RG h0_f26 0 8) (g_h0_f27 : RG h0_f27 0 3) (g_h0_f28 : RG h0_f28 0 8) (g_h0_f29 : RG h0_f29 0 3) (g_h0_f30 : RG h0_f30 0 4) (g_h0_f31 : RG h0_f31 0 1) (g_h0_f34 : RG h0_f34 (-1) 3) (g_h0_f41 : RG h0_f41 0 40) (g_h0_f51 : RG h0_f51 0 10) (g_h0_f53 : RG h0_f53 0 1) (g_h0_f6 : RG h0_f6 0 240) (g_h0_f7 : RG h0_f7 0 4) (g_h0_f8 : RG h0_f8 0 720) (g_h0_f9 : RG h0_f9 1 240) (g_j45c_h0_f10 : RG j45c_h0_f10 0 240) (g_j45c_h0_f11 : RG j45c_h0_f11 0 240) (g_j45c_l6 : RG j45c_l6 0 3) (g_p1 : RG p1 99 99) (g_p3 : RG p3 0 8) (a_j45c_h2c : AI j45c_h2c 0 99) (hEX : RES = fx_c_X12_readItems_p45c j45c_l6 j45c_h0_f10 j45c_h0_f11 j45c_h2c) (H : Heap) (locs : List Loc) (ls : Array Slot) (hP : va_P (dC, dI) vwCl (wd_c_X12_readItems h0 h0_f0 h0_1 h0_2 h0_3 h0_4 h0_5 h0_f6 h0_f7 h0_f8 h0_f9 j45c_h0_f10 j45c_h0_f11 h0_f12 h0_f13 h0_f14 h0_15 h0_16 h0_f17 h0_18 h0_19 h0_20 h0_21 h0_22 h0_23 h0_24 h0_25 h0_f26 h0_f27 h0_f28 h0_f29 h0_f30 h0_f31 h0_32 h0_33 h0_f34 h0_35 h0_36 h0_37 h0_38 h0_39 h0_40 h0_f41 h0_f42 h0_f43 h0_f44 h0_45 h0_46 h0_47 h0_48 h0_49 h0_50 h0_f51 h0_52 h0_f53 h2 h2k j45c_h2c h0_5 h0_5k tN h0_5c) H) (hD : va_D A (wd_c_X12_readItems h0 h0_f0 h0_1 h0_2 h0_3 h0_4 h0_5 h0_f6 h0_f7 h0_f8 h0_f9 j45c_h0_f10 j45c_h0_f11 h0_f12 h0_f13 h0_f14 h0_15 h0_16 h0_f17 h0_18 h0_19 h0_20 h0_21 h0_22 h0_23 h0_24 h0_25 h0_f26 h0_f27 h0_f28 h0_f29 h0_f30 h0_f31 h0_32 h0_33 h0_f34 h0_35 h0_36 h0_37 h0_38 h0_39 h0_40 h0_f41 h0_f42 h0_f43 h0_f44 h0_45 h0_46 h0_47 h0_48 h0_49 h0_50 h0_f51 h0_52 h0_f53 h2 h2k j45c_h2c h0_5 h0_5k tN h0_5c)) (hS : va_S A s.heap H locs) (hl : lv_has ls 7 [(5, .int j45c_l5), (6, .int j45c_l6), (0, .ref h0), (1, .int p1), (2, .ref h2), (3, .int p3), (4, .ref ts10)]), G H locs (F0 m 45 ls []) := by
    as_aux_lemma =>
    intro j45c_l5 j45c_l6 j45c_h0_f10 j45c_h0_f11 j45c_h2c g_h0_f10 g_h0_f17 g_h0_f26 g_h0_f27 g_h0_f28 g_h0_f29 g_h0_f30 g_h0_f31 g_h0_f34 g_h0_f41 g_h0_f51 g_h0_f53 g_h0_f6 g_h0_f7 g_h0_f8 g_h0_f9 g_j45c_h0_f10 g_j45c_h0_f11 g_j45c_l6 g_p1 g_p3 a_j45c_h2c hEX H locs ls hP hD hS hl
    refine hG _ _ _ ?_
    refine lv_iload hx hb dX12_readItems_45 (lv_at hl 1 rfl) ?_
    refine lv_iconst (v := (-1)) hx hb dX12_readItems_47 kc_iconst_m1 ?_
    refine lv_icmp_eq (tgt := 138) hx hb dX12_readItems_48 rfl (fun c_2 => ?_) (fun c_2 => ?_)
    · replace hEX := hEX.trans (if_pos c_2)
      exact RG_dead (RG_eq1 g_j45c_l6 (RG_k (-1) (-1) rfl) c_2 (a' := 0) (b' := (-1)) (by decide +kernel)) (by decide +kernel)
    · replace hEX := hEX.trans (if_neg c_2)
      refine lv_aload_n hx hb dX12_readItems_51 rfl (lv_at hl 2 rfl) ?_
      refine va_get (D := (dC, dI)) (ci := 12) (v := .int j45c_h0_f11) (C := RX12) (T := TX12) (N := 54) hx hb hts iw_c_X12_readItems_X12 hown hK hP 0 rfl rfl 11 (by decide +kernel) (hts (.fieldLink RX12 143 "BuoyVoteModel" "fault" "I") (List.mem_of_getElem? (i := 48) rfl)) (fun _ h9 => h9) rfl dX12_readItems_52 ?_
      refine lv_iconst (v := (-1)) hx hb dX12_readItems_55 kc_iconst_m1 ?_
      refine lv_icmp_ne (tgt := 138) hx hb dX12_readItems_56 rfl (fun c_3 => ?_) (fun c_3 => ?_)
      · replace hEX := hEX.trans (if_neg c_3)
        have hK9 := hK.sub (tys' := []) [] rfl
        exact W.vret hx hb hr (fun t ht hW => ⟨⟨(j45c_h0_f10, j45c_h0_f11, j45c_h2c), rfl, (Or.inr ⟨g_j45c_h0_f10, g_j45c_h0_f11, a_j45c_h2c, g_h0_f9, (hR.trans hEX).symm⟩), by rw [ht]; exact hP, va_K.moved hW.alike hK9, hD⟩, hS.F ht⟩) hS.2.2 dX12_readItems_138
      · replace hEX := hEX.trans (if_pos c_3)
        exact RG_dead (RG_eq1 g_j45c_h0_f11 (RG_k (-1) (-1) rfl) c_3 (a' := 0) (b' := (-1)) (by decide +kernel)) (by decide +kernel)
  have J45b : ∀ (n45b : Nat) (j45b_l6 : Int32) (j45b_l5 : Int32) (j45b_h0_f10 : Int32) (j45b_h2c : Nat → Int32) (hM45b : MU j45b_h0_f10 < n45b) (g_h0_f10 : RG h0_f10 0 240) (g_h0_f17 : RG h0_f17 0 1) (g_h0_f26 : RG h0_f26 0 8) (g_h0_f27 : RG h0_f27 0 3) (g_h0_f28 : RG h0_f28 0 8) (g_h0_f29 : RG h0_f29 0 3) (g_h0_f30 : RG h0_f30 0 4) (g_h0_f31 : RG h0_f31 0 1) (g_h0_f34 : RG h0_f34 (-1) 3) (g_h0_f41 : RG h0_f41 0 40) (g_h0_f51 : RG h0_f51 0 10) (g_h0_f53 : RG h0_f53 0 1) (g_h0_f6 : RG h0_f6 0 240) (g_h0_f7 : RG h0_f7 0 4) (g_h0_f8 : RG h0_f8 0 720) (g_h0_f9 : RG h0_f9 1 240) (g_j45b_h0_f10 : RG j45b_h0_f10 0 239) (g_j45b_l6 : RG j45b_l6 0 3) (g_p1 : RG p1 99 99) (g_p3 : RG p3 0 8) (a_j45b_h2c : AI j45b_h2c 0 99) (i_45b_h2 : BOi (p3.toInt + 4) j45b_h2c) (r_h0_f10_j45b_h0_f10 : h0_f10.toInt + 0 ≤ j45b_h0_f10.toInt) (hEX : RES = fx_c_X12_readItems_p45b p1 p3 h0_f8 h0_f9 h0_5c n45b j45b_l6 j45b_l5 j45b_h0_f10 j45b_h2c) (H : Heap) (locs : List Loc) (ls : Array Slot) (hP : va_P (dC, dI) vwCl (wd_c_X12_readItems h0 h0_f0 h0_1 h0_2 h0_3 h0_4 h0_5 h0_f6 h0_f7 h0_f8 h0_f9 j45b_h0_f10 (-1) h0_f12 h0_f13 h0_f14 h0_15 h0_16 h0_f17 h0_18 h0_19 h0_20 h0_21 h0_22 h0_23 h0_24 h0_25 h0_f26 h0_f27 h0_f28 h0_f29 h0_f30 h0_f31 h0_32 h0_33 h0_f34 h0_35 h0_36 h0_37 h0_38 h0_39 h0_40 h0_f41 h0_f42 h0_f43 h0_f44 h0_45 h0_46 h0_47 h0_48 h0_49 h0_50 h0_f51 h0_52 h0_f53 h2 h2k j45b_h2c h0_5 h0_5k tN h0_5c) H) (hD : va_D A (wd_c_X12_readItems h0 h0_f0 h0_1 h0_2 h0_3 h0_4 h0_5 h0_f6 h0_f7 h0_f8 h0_f9 j45b_h0_f10 (-1) h0_f12 h0_f13 h0_f14 h0_15 h0_16 h0_f17 h0_18 h0_19 h0_20 h0_21 h0_22 h0_23 h0_24 h0_25 h0_f26 h0_f27 h0_f28 h0_f29 h0_f30 h0_f31 h0_32 h0_33 h0_f34 h0_35 h0_36 h0_37 h0_38 h0_39 h0_40 h0_f41 h0_f42 h0_f43 h0_f44 h0_45 h0_46 h0_47 h0_48 h0_49 h0_50 h0_f51 h0_52 h0_f53 h2 h2k j45b_h2c h0_5 h0_5k tN h0_5c)) (hS : va_S A s.heap H locs) (hl : lv_has ls 7 [(6, .int j45b_l6), (5, .int j45b_l5), (0, .ref h0), (1, .int p1), (2, .ref h2), (3, .int p3), (4, .ref ts10)]), G H locs (F0 m 45 ls []) := by
    as_aux_lemma =>
    intro n45b
    induction n45b with
    | zero => intros; exact absurd (by assumption) (Nat.not_lt_zero _)
    | succ n45b ih45b =>
      intro j45b_l6 j45b_l5 j45b_h0_f10 j45b_h2c hM45b g_h0_f10 g_h0_f17 g_h0_f26 g_h0_f27 g_h0_f28 g_h0_f29 g_h0_f30 g_h0_f31 g_h0_f34 g_h0_f41 g_h0_f51 g_h0_f53 g_h0_f6 g_h0_f7 g_h0_f8 g_h0_f9 g_j45b_h0_f10 g_j45b_l6 g_p1 g_p3 a_j45b_h2c i_45b_h2 r_h0_f10_j45b_h0_f10 hEX H locs ls hP hD hS hl
      refine hG _ _ _ ?_
      replace hEX := hEX.trans (if_pos (rfl : j45b_l6 = j45b_l6))
      refine lv_iload hx hb dX12_readItems_45 (lv_at hl 0 rfl) ?_
      refine lv_iconst (v := (-1)) hx hb dX12_readItems_47 kc_iconst_m1 ?_
      refine lv_icmp_eq (tgt := 138) hx hb dX12_readItems_48 rfl (fun c_4 => ?_) (fun c_4 => ?_)
      · replace hEX := hEX.trans (if_pos c_4)
        exact RG_dead (RG_eq1 g_j45b_l6 (RG_k (-1) (-1) rfl) c_4 (a' := 0) (b' := (-1)) (by decide +kernel)) (by decide +kernel)
      · replace hEX := hEX.trans (if_neg c_4)
        refine lv_aload_n hx hb dX12_readItems_51 rfl (lv_at hl 2 rfl) ?_
        as_aux_lemma =>
        refine va_get (D := (dC, dI)) (ci := 12) (v := .int (-1)) (C := RX12) (T := TX12) (N := 54) hx hb hts iw_c_X12_readItems_X12 hown hK hP 0 rfl rfl 11 (by decide +kernel) (hts (.fieldLink RX12 143 "BuoyVoteModel" "fault" "I") (List.mem_of_getElem? (i := 48) rfl)) (fun _ h9 => h9) rfl dX12_readItems_52 ?_
        refine lv_iconst (v := (-1)) hx hb dX12_readItems_55 kc_iconst_m1 ?_
        refine lv_icmp_ne (tgt := 138) hx hb dX12_readItems_56 rfl (fun c_5 => absurd c_5 (by decide +kernel)) (fun c_5 => ?_)
        by_cases c_6 : j45b_l6 = 0
        · replace hEX := hEX.trans (if_pos c_6)
          subst c_6
          refine lv_iload hx hb dX12_readItems_59 (lv_at hl 1 rfl) ?_
          refine lv_iload hx hb dX12_readItems_61 (lv_at hl 0 rfl) ?_
          obtain ⟨hPc, hDc, hFc, hqc⟩ := cl_cut (wc := []) hP hD hS hA [] (by decide +kernel) rfl
          have hKc := hK.sub (tys' := []) [] rfl
          refine va_calli (va_runS (As := [.int j45b_l5, .int 0]) (rest := []) ⟨hx, hb, hml, hown, hts⟩ (c_X12_has_2 l dC dI H.size j45b_l5 0 (RG_w (RG_k 0 0 rfl) (by decide +kernel))) (va_cwS 2 hts gf_c_X12_readItems_c_X12_has_2 rfl rfl rfl md_X12_has ⟨Nat.le_of_ble_eq_true rfl, Nat.le_of_ble_eq_true rfl⟩) ⟨fun a U g mk q => by obtain ⟨q0, q1, qP, qK, qD⟩ := q; exact ⟨q0, q1, qP, va_K.moved (u := U) (U := U.calling g mk a) (Vm.Alike.refl U.vm) qK, qD⟩, fun U hU hW => ⟨rfl, by rw [hU], by rw [hU]; exact hPc, va_K.moved hW.alike hKc, hDc.weaken (fun _ _ _ _ => trivial)⟩⟩ rfl rfl hl.1 rfl (lv_room (Nat.le_of_ble_eq_true rfl)) dX12_readItems_63 ⟨Nat.le_of_ble_eq_true rfl, Nat.le_of_ble_eq_true rfl⟩) hS (fun q _ h => hFc q h) hFc (fun r_7 u t H1 locs ht hvm hw hB hz1 hk1 hS => ?_)
          obtain ⟨hP1, hK1, hD1⟩ := hB
          rw [ht] at hP1
          have hP := bv_still hP hk1
          generalize H1 = H at hP hS ⊢
          as_aux_lemma =>
          rcases hw with ⟨h_8, h_9, h_10⟩ | ⟨h_11, h_12, h_13⟩
          · have h_10 : r_7 = _ := h_10
            replace hEX := hEX.trans (exc1_eq h_10)
            replace hEX := hEX.trans (if_pos (show r_7 = 0 from h_8))
            rw [h_8]
            refine lv_if_eq (tgt := 75) hx hb dX12_readItems_66 rfl (fun c_14 => ?_) (fun c_14 => absurd c_14 (by decide +kernel))
            refine lv_iload hx hb dX12_readItems_75 (lv_at hl 1 rfl) ?_
            refine lv_iconst (v := 1) hx hb dX12_readItems_77 kc_iconst_1 ?_
            refine lv_iload hx hb dX12_readItems_78 (lv_at hl 0 rfl) ?_
            refine lv_ishl hx hb dX12_readItems_80 ?_
            refine lv_topi (fun x_15 ex_15 => ?_)
            obtain rfl : x_15 = 1 := ex_15.trans (by decide +kernel)
            refine lv_ior hx hb dX12_readItems_81 ?_
            refine lv_topi (fun x_16 ex_16 => ?_)
            as_aux_lemma =>
            replace hEX := hEX.trans (exl_eq ex_16)
            refine lv_istore (lv' := [(5, .int x_16), (6, .int 0), (0, .ref h0), (1, .int p1), (2, .ref h2), (3, .int p3), (4, .ref ts10)]) hx hb dX12_readItems_82 hl (Nat.le_of_ble_eq_true rfl) rfl (fun ls hl => ?_)
            refine lv_aload_n hx hb dX12_readItems_84 rfl (lv_at hl 2 rfl) ?_
            refine lv_dup hx hb dX12_readItems_85 rfl ?_
            refine va_get (D := (dC, dI)) (ci := 12) (v := .int j45b_h0_f10) (C := RX12) (T := TX12) (N := 54) hx hb hts iw_c_X12_readItems_X12 hown hK hP 0 rfl rfl 10 (by decide +kernel) (hts (.fieldLink RX12 134 "BuoyVoteModel" "at" "I") (List.mem_of_getElem? (i := 21) rfl)) (fun _ h9 => h9) rfl dX12_readItems_86 ?_
            refine lv_iconst (v := 1) hx hb dX12_readItems_89 kc_iconst_1 ?_
            refine lv_iadd hx hb dX12_readItems_90 ?_
            refine lv_topi (fun x_17 ex_17 => ?_)
            replace hEX := hEX.trans (exl_eq ex_17)
            have g_18 : RG x_17 1 240 := RG_add ex_17 g_j45b_h0_f10 (RG_k 1 1 rfl) (by decide +kernel)
            have q_19 : x_17.toInt = j45b_h0_f10.toInt + 1 := eq_add ex_17 g_j45b_h0_f10 (q := 1) rfl (by decide +kernel)
            refine va_put (D := (dC, dI)) (ci := 12) (v := .int x_17) (ty := .int) (C := RX12) (T := TX12) (N := 54) hx hb hts iw_c_X12_readItems_X12 tyX12 tyX12_ok nmX12 hown hK hP hD hS 0 rfl rfl 10 (by decide +kernel) (hts (.fieldLink RX12 134 "BuoyVoteModel" "at" "I") (List.mem_of_getElem? (i := 21) rfl)) (fun _ h9 => h9) rfl (by decide +kernel) rfl rfl (Nat.le_of_ble_eq_true rfl) dX12_readItems_91 (fun H locs hP hD hS => ?_)
            have hP : va_P (dC, dI) vwCl (wd_c_X12_readItems h0 h0_f0 h0_1 h0_2 h0_3 h0_4 h0_5 h0_f6 h0_f7 h0_f8 h0_f9 x_17 (-1) h0_f12 h0_f13 h0_f14 h0_15 h0_16 h0_f17 h0_18 h0_19 h0_20 h0_21 h0_22 h0_23 h0_24 h0_25 h0_f26 h0_f27 h0_f28 h0_f29 h0_f30 h0_f31 h0_32 h0_33 h0_f34 h0_35 h0_36 h0_37 h0_38 h0_39 h0_40 h0_f41 h0_f42 h0_f43 h0_f44 h0_45 h0_46 h0_47 h0_48 h0_49 h0_50 h0_f51 h0_52 h0_f53 h2 h2k j45b_h2c h0_5 h0_5k tN h0_5c) H := hP
            have hD : va_D A (wd_c_X12_readItems h0 h0_f0 h0_1 h0_2 h0_3 h0_4 h0_5 h0_f6 h0_f7 h0_f8 h0_f9 x_17 (-1) h0_f12 h0_f13 h0_f14 h0_15 h0_16 h0_f17 h0_18 h0_19 h0_20 h0_21 h0_22 h0_23 h0_24 h0_25 h0_f26 h0_f27 h0_f28 h0_f29 h0_f30 h0_f31 h0_32 h0_33 h0_f34 h0_35 h0_36 h0_37 h0_38 h0_39 h0_40 h0_f41 h0_f42 h0_f43 h0_f44 h0_45 h0_46 h0_47 h0_48 h0_49 h0_50 h0_f51 h0_52 h0_f53 h2 h2k j45b_h2c h0_5 h0_5k tN h0_5c) := hD
            refine lv_aload_n hx hb dX12_readItems_94 rfl (lv_at hl 4 rfl) ?_
            as_aux_lemma =>
            refine lv_iload_n hx hb dX12_readItems_95 rfl (lv_at hl 5 rfl) ?_
            refine lv_iload hx hb dX12_readItems_96 (lv_at hl 1 rfl) ?_
            refine lv_iadd hx hb dX12_readItems_98 ?_
            refine lv_topi (fun x_20 ex_20 => ?_)
            replace hEX := hEX.trans (exl_eq ex_20)
            have g_21 : RG x_20 0 8 := RG_add ex_20 g_p3 (RG_k 0 0 rfl) (by decide +kernel)
            refine lv_aload_n hx hb dX12_readItems_99 rfl (lv_at hl 2 rfl) ?_
            refine lv_iload_n hx hb dX12_readItems_100 rfl (lv_at hl 3 rfl) ?_
            refine lv_iload hx hb dX12_readItems_101 (lv_at hl 1 rfl) ?_
            obtain ⟨hPc, hDc, hFc, hqc⟩ := cl_cut (wc := []) hP hD hS hA [] (by decide +kernel) rfl
            have hKc := hK.sub (tys' := []) [] rfl
            refine va_calli (va_runS (As := [.int p1, .int 0]) (rest := [.ref h0, .int x_20, .ref h2]) ⟨hx, hb, hml, hown, hts⟩ (c_X12_leastOf l dC dI H.size p1 0 g_p1 (RG_k 0 0 rfl)) (va_cwS 2 hts gf_c_X12_readItems_c_X12_leastOf rfl rfl rfl md_X12_leastOf ⟨Nat.le_of_ble_eq_true rfl, Nat.le_of_ble_eq_true rfl⟩) ⟨fun a U g mk q => by obtain ⟨q0, q1, qP, qK, qD⟩ := q; exact ⟨q0, q1, qP, va_K.moved (u := U) (U := U.calling g mk a) (Vm.Alike.refl U.vm) qK, qD⟩, fun U hU hW => ⟨rfl, by rw [hU], by rw [hU]; exact hPc, va_K.moved hW.alike hKc, hDc.weaken (fun _ _ _ _ => trivial)⟩⟩ rfl rfl hl.1 rfl (lv_room (Nat.le_of_ble_eq_true rfl)) dX12_readItems_103 ⟨Nat.le_of_ble_eq_true rfl, Nat.le_of_ble_eq_true rfl⟩) hS (fun q _ h => hFc q h) hFc (fun r_22 u t H1 locs ht hvm hw hB hz1 hk1 hS => ?_)
            obtain ⟨hP1, hK1, hD1⟩ := hB
            rw [ht] at hP1
            have hP := bv_still hP hk1
            generalize H1 = H at hP hS ⊢
            as_aux_lemma =>
            rcases hw with ⟨h_23, h_24⟩
            have h_24 : r_22 = _ := h_24
            replace hEX := hEX.trans (exc1_eq h_24)
            rw [h_23]
            refine lv_iload_n hx hb dX12_readItems_106 rfl (lv_at hl 3 rfl) ?_
            refine lv_iload hx hb dX12_readItems_107 (lv_at hl 1 rfl) ?_
            obtain ⟨hPc, hDc, hFc, hqc⟩ := cl_cut (wc := []) hP hD hS hA [] (by decide +kernel) rfl
            have hKc := hK.sub (tys' := []) [] rfl
            refine va_calli (va_runS (As := [.int p1, .int 0]) (rest := [.int 0, .ref h0, .int x_20, .ref h2]) ⟨hx, hb, hml, hown, hts⟩ (c_X12_mostOf l dC dI H.size p1 0 g_p1 (RG_k 0 0 rfl)) (va_cwS 2 hts gf_c_X12_readItems_c_X12_mostOf rfl rfl rfl md_X12_mostOf ⟨Nat.le_of_ble_eq_true rfl, Nat.le_of_ble_eq_true rfl⟩) ⟨fun a U g mk q => by obtain ⟨q0, q1, qP, qK, qD⟩ := q; exact ⟨q0, q1, qP, va_K.moved (u := U) (U := U.calling g mk a) (Vm.Alike.refl U.vm) qK, qD⟩, fun U hU hW => ⟨rfl, by rw [hU], by rw [hU]; exact hPc, va_K.moved hW.alike hKc, hDc.weaken (fun _ _ _ _ => trivial)⟩⟩ rfl rfl hl.1 rfl (lv_room (Nat.le_of_ble_eq_true rfl)) dX12_readItems_109 ⟨Nat.le_of_ble_eq_true rfl, Nat.le_of_ble_eq_true rfl⟩) hS (fun q _ h => hFc q h) hFc (fun r_25 u t H1 locs ht hvm hw hB hz1 hk1 hS => ?_)
            obtain ⟨hP1, hK1, hD1⟩ := hB
            rw [ht] at hP1
            have hP := bv_still hP hk1
            generalize H1 = H at hP hS ⊢
            as_aux_lemma =>
            rcases hw with ⟨h_26, h_27⟩
            have h_27 : r_25 = _ := h_27
            replace hEX := hEX.trans (exc1_eq h_27)
            rw [h_26]
            obtain ⟨hPc, hDc, hFc, hqc⟩ := cl_cut (wc := (wd_c_X12_number h0 h0_f0 h0_1 h0_2 h0_3 h0_4 h0_5 h0_f6 h0_f7 h0_f8 h0_f9 x_17 (-1) h0_f12 h0_f13 h0_f14 h0_15 h0_16 h0_f17 h0_18 h0_19 h0_20 h0_21 h0_22 h0_23 h0_24 h0_25 h0_f26 h0_f27 h0_f28 h0_f29 h0_f30 h0_f31 h0_32 h0_33 h0_f34 h0_35 h0_36 h0_37 h0_38 h0_39 h0_40 h0_f41 h0_f42 h0_f43 h0_f44 h0_45 h0_46 h0_47 h0_48 h0_49 h0_50 h0_f51 h0_52 h0_f53 h0_5 h0_5k tN h0_5c)) hP hD hS hA [0, 2] (by decide +kernel) rfl
            have hKc := hK.sub (tys' := [(h0_5k, .byte)]) [1] rfl
            have hrv := va_recv hKc hPc (ci := 12) (q0 := 0) rfl rfl
            refine va_calli (va_runV (As := [.int 0, .int 9]) (rest := [.int x_20, .ref h2]) ⟨hx, hb, hml, hown, hts⟩ (c_X12_number l dC dI H.size h0 h0_f0 h0_1 h0_2 h0_3 h0_4 h0_5 h0_f6 h0_f7 h0_f8 h0_f9 x_17 h0_f12 h0_f13 h0_f14 h0_15 h0_16 h0_f17 h0_18 h0_19 h0_20 h0_21 h0_22 h0_23 h0_24 h0_25 h0_f26 h0_f27 h0_f28 h0_f29 h0_f30 h0_f31 h0_32 h0_33 h0_f34 h0_35 h0_36 h0_37 h0_38 h0_39 h0_40 h0_f41 h0_f42 h0_f43 h0_f44 h0_45 h0_46 h0_47 h0_48 h0_49 h0_50 h0_f51 h0_52 h0_f53 h0_5k h0_5c tN g_h0_f6 g_h0_f7 g_h0_f8 (RG_w g_h0_f9 (by decide +kernel)) (RG_w g_18 (by decide +kernel)) g_h0_f17 g_h0_f26 g_h0_f27 g_h0_f28 g_h0_f29 g_h0_f30 g_h0_f31 g_h0_f34 g_h0_f41 g_h0_f51 g_h0_f53 htN) (cwV 2 hts gf_c_X12_readItems_c_X12_number rfl rfl rfl mdV_X12_number ⟨Nat.le_of_ble_eq_true rfl, Nat.le_of_ble_eq_true rfl⟩) ⟨fun a U g mk q => by obtain ⟨q0, q1, qP, qK, qD⟩ := q; exact ⟨q0, q1, qP, va_K.moved (u := U) (U := U.calling g mk a) (Vm.Alike.refl U.vm) qK, qD⟩, hrv, fun U hU hW => ⟨rfl, by rw [hU], by rw [hU]; exact hPc, va_K.moved hW.alike hKc, hDc.weaken (fun _ _ _ _ => trivial)⟩⟩ rfl rfl hl.1 rfl (lv_room (Nat.le_of_ble_eq_true rfl)) dX12_readItems_112 ⟨Nat.le_of_ble_eq_true rfl, Nat.le_of_ble_eq_true rfl⟩) hS (fun q _ h => hFc q h) hFc (fun r_28 u t H1 locs ht hvm hw hB hz1 hk1 hS => ?_)
            obtain ⟨x_29, x_30⟩ := u
            obtain ⟨hP1, hK1, hD1⟩ := hB
            rw [ht] at hP1
            obtain ⟨hP, hD⟩ := cl_put (w1 := (wd_c_X12_number h0 h0_f0 h0_1 h0_2 h0_3 h0_4 h0_5 h0_f6 h0_f7 h0_f8 h0_f9 x_29 x_30 h0_f12 h0_f13 h0_f14 h0_15 h0_16 h0_f17 h0_18 h0_19 h0_20 h0_21 h0_22 h0_23 h0_24 h0_25 h0_f26 h0_f27 h0_f28 h0_f29 h0_f30 h0_f31 h0_32 h0_33 h0_f34 h0_35 h0_36 h0_37 h0_38 h0_39 h0_40 h0_f41 h0_f42 h0_f43 h0_f44 h0_45 h0_46 h0_47 h0_48 h0_49 h0_50 h0_f51 h0_52 h0_f53 h0_5 h0_5k tN h0_5c)) (nw := (wd_c_X12_readItems h0 h0_f0 h0_1 h0_2 h0_3 h0_4 h0_5 h0_f6 h0_f7 h0_f8 h0_f9 x_29 x_30 h0_f12 h0_f13 h0_f14 h0_15 h0_16 h0_f17 h0_18 h0_19 h0_20 h0_21 h0_22 h0_23 h0_24 h0_25 h0_f26 h0_f27 h0_f28 h0_f29 h0_f30 h0_f31 h0_32 h0_33 h0_f34 h0_35 h0_36 h0_37 h0_38 h0_39 h0_40 h0_f41 h0_f42 h0_f43 h0_f44 h0_45 h0_46 h0_47 h0_48 h0_49 h0_50 h0_f51 h0_52 h0_f53 h2 h2k j45b_h2c h0_5 h0_5k tN h0_5c)) hP hD [0, 2] [3, 1, 4] 3 rfl hqc (by decide +kernel) rfl hk1 hFc hP1 hD1
            generalize H1 = H at hP hS ⊢
            as_aux_lemma =>
            rcases hw with ⟨h_31, h_32, h_33, h_34, h_35, h_36⟩ | ⟨h_37, h_38, h_39, h_40, h_41⟩ | ⟨h_42, h_43, h_44, h_45, h_46⟩
            · have h_36 : (r_28, x_29, x_30) = _ := h_36
              replace hEX := hEX.trans (exc3_eq h_36)
              replace hEX := hEX.trans (if_pos (show x_30 = (-1) from h_33))
              subst h_33
              have h_35 : x_17.toInt + 1 ≤ x_29.toInt := h_35
              refine va_iast hx hb hK hP hD hS 1 0 rfl rfl (RG_in g_21 (by decide +kernel)) dX12_readItems_115 (fun H locs hP hD hS => ?_)
              have hP : va_P (dC, dI) vwCl (wd_c_X12_readItems h0 h0_f0 h0_1 h0_2 h0_3 h0_4 h0_5 h0_f6 h0_f7 h0_f8 h0_f9 x_29 (-1) h0_f12 h0_f13 h0_f14 h0_15 h0_16 h0_f17 h0_18 h0_19 h0_20 h0_21 h0_22 h0_23 h0_24 h0_25 h0_f26 h0_f27 h0_f28 h0_f29 h0_f30 h0_f31 h0_32 h0_33 h0_f34 h0_35 h0_36 h0_37 h0_38 h0_39 h0_40 h0_f41 h0_f42 h0_f43 h0_f44 h0_45 h0_46 h0_47 h0_48 h0_49 h0_50 h0_f51 h0_52 h0_f53 h2 h2k (upd j45b_h2c (x_20 : Int32).toNatClampNeg r_28) h0_5 h0_5k tN h0_5c) H := hP
              have hD : va_D A (wd_c_X12_readItems h0 h0_f0 h0_1 h0_2 h0_3 h0_4 h0_5 h0_f6 h0_f7 h0_f8 h0_f9 x_29 (-1) h0_f12 h0_f13 h0_f14 h0_15 h0_16 h0_f17 h0_18 h0_19 h0_20 h0_21 h0_22 h0_23 h0_24 h0_25 h0_f26 h0_f27 h0_f28 h0_f29 h0_f30 h0_f31 h0_32 h0_33 h0_f34 h0_35 h0_36 h0_37 h0_38 h0_39 h0_40 h0_f41 h0_f42 h0_f43 h0_f44 h0_45 h0_46 h0_47 h0_48 h0_49 h0_50 h0_f51 h0_52 h0_f53 h2 h2k (upd j45b_h2c (x_20 : Int32).toNatClampNeg r_28) h0_5 h0_5k tN h0_5c) := hD
              have l_48 : (upd j45b_h2c (x_20 : Int32).toNatClampNeg r_28) (x_20 : Int32).toNatClampNeg = r_28 := pk_us
              have i_49 : BOi (p3.toInt + 4) (upd j45b_h2c (x_20 : Int32).toNatClampNeg r_28) := BOi_keep i_45b_h2 g_21 (by decide +kernel) (Or.inr (Or.inl (by have := hrow; have := eq_add ex_20 g_p3 (q := 0) rfl (by decide +kernel); omega)))
              have a_50 : AI (upd j45b_h2c (x_20 : Int32).toNatClampNeg r_28) 0 99 := AI_up a_j45b_h2c h_31 (by decide +kernel)
              generalize huw_47 : (upd j45b_h2c (x_20 : Int32).toNatClampNeg r_28) = w_47 at hP hD a_50 l_48 i_49
              replace hEX := hEX.trans (exl_eq huw_47.symm)
              have hP : va_P (dC, dI) vwCl (wd_c_X12_readItems h0 h0_f0 h0_1 h0_2 h0_3 h0_4 h0_5 h0_f6 h0_f7 h0_f8 h0_f9 x_29 (-1) h0_f12 h0_f13 h0_f14 h0_15 h0_16 h0_f17 h0_18 h0_19 h0_20 h0_21 h0_22 h0_23 h0_24 h0_25 h0_f26 h0_f27 h0_f28 h0_f29 h0_f30 h0_f31 h0_32 h0_33 h0_f34 h0_35 h0_36 h0_37 h0_38 h0_39 h0_40 h0_f41 h0_f42 h0_f43 h0_f44 h0_45 h0_46 h0_47 h0_48 h0_49 h0_50 h0_f51 h0_52 h0_f53 h2 h2k w_47 h0_5 h0_5k tN h0_5c) H := hP
              have hD : va_D A (wd_c_X12_readItems h0 h0_f0 h0_1 h0_2 h0_3 h0_4 h0_5 h0_f6 h0_f7 h0_f8 h0_f9 x_29 (-1) h0_f12 h0_f13 h0_f14 h0_15 h0_16 h0_f17 h0_18 h0_19 h0_20 h0_21 h0_22 h0_23 h0_24 h0_25 h0_f26 h0_f27 h0_f28 h0_f29 h0_f30 h0_f31 h0_32 h0_33 h0_f34 h0_35 h0_36 h0_37 h0_38 h0_39 h0_40 h0_f41 h0_f42 h0_f43 h0_f44 h0_45 h0_46 h0_47 h0_48 h0_49 h0_50 h0_f51 h0_52 h0_f53 h2 h2k w_47 h0_5 h0_5k tN h0_5c) := hD
              refine lv_aload_n hx hb dX12_readItems_116 rfl (lv_at hl 2 rfl) ?_
              as_aux_lemma =>
              refine va_get (D := (dC, dI)) (ci := 12) (v := .int (-1)) (C := RX12) (T := TX12) (N := 54) hx hb hts iw_c_X12_readItems_X12 hown hK hP 0 rfl rfl 11 (by decide +kernel) (hts (.fieldLink RX12 143 "BuoyVoteModel" "fault" "I") (List.mem_of_getElem? (i := 48) rfl)) (fun _ h9 => h9) rfl dX12_readItems_117 ?_
              refine lv_iconst (v := (-1)) hx hb dX12_readItems_120 kc_iconst_m1 ?_
              refine lv_icmp_ne (tgt := 45) hx hb dX12_readItems_121 rfl (fun c_51 => absurd c_51 (by decide +kernel)) (fun c_51 => ?_)
              refine lv_aload hx hb dX12_readItems_124 (lv_at hl 6 rfl) ?_
              refine lv_aload_n hx hb dX12_readItems_126 rfl (lv_at hl 2 rfl) ?_
              obtain ⟨hPc, hDc, hFc, hqc⟩ := cl_cut (wc := (wd_c_X12_look h0 h0_f0 h0_1 h0_2 h0_3 h0_4 h0_5 h0_f6 h0_f7 h0_f8 h0_f9 x_29 (-1) h0_f12 h0_f13 h0_f14 h0_15 h0_16 h0_f17 h0_18 h0_19 h0_20 h0_21 h0_22 h0_23 h0_24 h0_25 h0_f26 h0_f27 h0_f28 h0_f29 h0_f30 h0_f31 h0_32 h0_33 h0_f34 h0_35 h0_36 h0_37 h0_38 h0_39 h0_40 h0_f41 h0_f42 h0_f43 h0_f44 h0_45 h0_46 h0_47 h0_48 h0_49 h0_50 h0_f51 h0_52 h0_f53 h0_5 h0_5k tN h0_5c)) hP hD hS hA [0, 2] (by decide +kernel) rfl
              have hKc := hK.sub (tys' := [(h0_5k, .byte)]) [1] rfl
              have hrv := va_recv hKc hPc (ci := 12) (q0 := 0) rfl rfl
              refine va_calli (va_runV (As := []) (rest := [.ref ts10]) ⟨hx, hb, hml, hown, hts⟩ (c_X12_look l dC dI H.size h0 h0_f0 h0_1 h0_2 h0_3 h0_4 h0_5 h0_f6 h0_f7 h0_f8 h0_f9 x_29 h0_f12 h0_f13 h0_f14 h0_15 h0_16 h0_f17 h0_18 h0_19 h0_20 h0_21 h0_22 h0_23 h0_24 h0_25 h0_f26 h0_f27 h0_f28 h0_f29 h0_f30 h0_f31 h0_32 h0_33 h0_f34 h0_35 h0_36 h0_37 h0_38 h0_39 h0_40 h0_f41 h0_f42 h0_f43 h0_f44 h0_45 h0_46 h0_47 h0_48 h0_49 h0_50 h0_f51 h0_52 h0_f53 h0_5k h0_5c tN g_h0_f6 g_h0_f7 g_h0_f8 (RG_w g_h0_f9 (by decide +kernel)) (RG_w h_32 (by decide +kernel)) g_h0_f17 g_h0_f26 g_h0_f27 g_h0_f28 g_h0_f29 g_h0_f30 g_h0_f31 g_h0_f34 g_h0_f41 g_h0_f51 g_h0_f53 htN) (cwV 0 hts gf_c_X12_readItems_c_X12_look rfl rfl rfl mdV_X12_look ⟨Nat.le_of_ble_eq_true rfl, Nat.le_of_ble_eq_true rfl⟩) ⟨fun a U g mk q => by obtain ⟨q0, q1, qP, qK, qD⟩ := q; exact ⟨q0, q1, qP, va_K.moved (u := U) (U := U.calling g mk a) (Vm.Alike.refl U.vm) qK, qD⟩, hrv, fun U hU hW => ⟨rfl, by rw [hU], by rw [hU]; exact hPc, va_K.moved hW.alike hKc, hDc.weaken (fun _ _ _ _ => trivial)⟩⟩ rfl rfl hl.1 rfl (lv_room (Nat.le_of_ble_eq_true rfl)) dX12_readItems_127 ⟨Nat.le_of_ble_eq_true rfl, Nat.le_of_ble_eq_true rfl⟩) hS (fun q _ h => hFc q h) hFc (fun r_52 x_53 t H1 locs ht hvm hw hB hz1 hk1 hS => ?_)
              obtain ⟨hP1, hK1, hD1⟩ := hB
              rw [ht] at hP1
              obtain ⟨hP, hD⟩ := cl_put (w1 := (wd_c_X12_look h0 h0_f0 h0_1 h0_2 h0_3 h0_4 h0_5 h0_f6 h0_f7 h0_f8 h0_f9 x_53 (-1) h0_f12 h0_f13 h0_f14 h0_15 h0_16 h0_f17 h0_18 h0_19 h0_20 h0_21 h0_22 h0_23 h0_24 h0_25 h0_f26 h0_f27 h0_f28 h0_f29 h0_f30 h0_f31 h0_32 h0_33 h0_f34 h0_35 h0_36 h0_37 h0_38 h0_39 h0_40 h0_f41 h0_f42 h0_f43 h0_f44 h0_45 h0_46 h0_47 h0_48 h0_49 h0_50 h0_f51 h0_52 h0_f53 h0_5 h0_5k tN h0_5c)) (nw := (wd_c_X12_readItems h0 h0_f0 h0_1 h0_2 h0_3 h0_4 h0_5 h0_f6 h0_f7 h0_f8 h0_f9 x_53 (-1) h0_f12 h0_f13 h0_f14 h0_15 h0_16 h0_f17 h0_18 h0_19 h0_20 h0_21 h0_22 h0_23 h0_24 h0_25 h0_f26 h0_f27 h0_f28 h0_f29 h0_f30 h0_f31 h0_32 h0_33 h0_f34 h0_35 h0_36 h0_37 h0_38 h0_39 h0_40 h0_f41 h0_f42 h0_f43 h0_f44 h0_45 h0_46 h0_47 h0_48 h0_49 h0_50 h0_f51 h0_52 h0_f53 h2 h2k w_47 h0_5 h0_5k tN h0_5c)) hP hD [0, 2] [3, 1, 4] 3 rfl hqc (by decide +kernel) rfl hk1 hFc hP1 hD1
              generalize H1 = H at hP hS ⊢
              as_aux_lemma =>
              rcases hw with ⟨h_54, h_55, h_56, h_57, h_58, h_59⟩ | ⟨h_60, h_61, h_62, h_63, h_64, h_65, h_66⟩
              · have h_59 : (r_52, x_53) = _ := h_59
                replace hEX := hEX.trans (exc2_eq h_59)
                replace hEX := hEX.trans (if_pos (show r_52 = (-1) from h_54))
                rw [h_54]
                obtain ⟨hPc, hDc, hFc, hqc⟩ := cl_cut (wc := []) hP hD hS hA [] (by decide +kernel) rfl
                have hKc := hK.sub (tys' := []) [] rfl
                refine va_calli (va_runS (As := [.ref ts10, .int (-1)]) (rest := []) ⟨hx, hb, hml, hown, hts⟩ (c_X12_spotOf l dC dI H.size ts10 tv10) (va_cwS 2 hts gf_c_X12_readItems_c_X12_spotOf rfl rfl rfl md_X12_spotOf ⟨Nat.le_of_ble_eq_true rfl, Nat.le_of_ble_eq_true rfl⟩) ⟨fun a U g mk q => by obtain ⟨q0, q1, qP, qK, qD, qE0, qE1, qE2, qE3, qE4, qE5⟩ := q; exact ⟨q0, q1, qP, va_K.moved (u := U) (U := U.calling g mk a) (Vm.Alike.refl U.vm) qK, qD, va_OF.moved (u := U) (U := U.calling g mk a) (Vm.Alike.refl U.vm) qE0, va_T.moved (u := U) (U := U.calling g mk a) (Vm.Alike.refl U.vm) qE1, va_Z.moved (u := U) (U := U.calling g mk a) (Vm.Alike.refl U.vm) qE2, va_OF.moved (u := U) (U := U.calling g mk a) (Vm.Alike.refl U.vm) qE3, va_O.moved (u := U) (U := U.calling g mk a) (Vm.Alike.refl U.vm) qE4, va_Zq.moved (u := U) (U := U.calling g mk a) (Vm.Alike.refl U.vm) qE5⟩, fun U hU hW => ⟨rfl, by rw [hU], by rw [hU]; exact hPc, va_K.moved hW.alike hKc, hDc.weaken (fun _ _ _ _ => trivial), va_OF.moved hW.alike (by rw [hU]; exact (hE_65.kept hS.2.1).narrow hFc), va_T.moved hW.alike (by rw [hU]; exact (hE_66.kept hS.2.1).narrow hFc), va_Z.moved hW.alike (by rw [hU]; exact (hE_10.kept hS.2.1).narrow hFc), va_OF.moved hW.alike (by rw [hU]; exact (hE_64.kept hS.2.1).narrow hFc), va_O.moved hW.alike (by rw [hU]; exact (hE_63.kept hS.2.1).narrow hFc), va_Zq.moved hW.alike (by rw [hU]; exact (hE_11.kept hS.2.1).narrow hFc)⟩⟩ rfl rfl hl.1 rfl (lv_room (Nat.le_of_ble_eq_true rfl)) dX12_readItems_130 ⟨Nat.le_of_ble_eq_true rfl, Nat.le_of_ble_eq_true rfl⟩) hS (fun q _ h => hFc q h) hFc (fun r_67 u t H1 locs ht hvm hw hB hz1 hk1 hS => ?_)
                obtain ⟨hP1, hK1, hD1⟩ := hB
                rw [ht] at hP1
                have hP := bv_still hP hk1
                generalize H1 = H at hP hS ⊢
                as_aux_lemma =>
                rcases hw with ⟨h_68, h_69⟩
                have h_69 : r_67 = _ := h_69
                replace hEX := hEX.trans (exc1_eq h_69)
                rw [h_68]
                refine lv_istore (lv' := [(6, .int (-1)), (5, .int x_16), (0, .ref h0), (1, .int p1), (2, .ref h2), (3, .int p3), (4, .ref ts10)]) hx hb dX12_readItems_133 hl (Nat.le_of_ble_eq_true rfl) rfl (fun ls hl => ?_)
                refine lv_goto (tgt := 45) hx hb dX12_readItems_135 rfl ?_
                exact hU _ _ _ (J45 x_16 x_53 w_47 g_h0_f10 g_h0_f17 g_h0_f26 g_h0_f27 g_h0_f28 g_h0_f29 g_h0_f30 g_h0_f31 g_h0_f34 g_h0_f41 g_h0_f51 g_h0_f53 g_h0_f6 g_h0_f7 g_h0_f8 (RG_w g_h0_f9 (by decide +kernel)) h_55 g_p1 g_p3 a_50 i_49 (by have := r_h0_f10_j45b_h0_f10; have := q_19; have := h_35; have := h_56; omega) hEX _ _ _ hP hD hS (lv_sub hl [0, 1, 2, 3, 4, 5, 6] rfl))
              · have h_66 : (r_52, x_53) = _ := h_66
                replace hEX := hEX.trans (exc2_eq h_66)
                replace hEX := hEX.trans (if_neg (RG_neq (x := r_52) (c := (-1)) (show RG r_52 0 255 from h_60) (by decide +kernel)))
                have nb_70 := h_65.2.resolve_left (fun q => by have g9 := h_60; rw [q] at g9; exact absurd g9.1 (by decide +kernel))
                obtain ⟨hPc, hDc, hFc, hqc⟩ := cl_cut (wc := []) hP hD hS hA [] (by decide +kernel) rfl
                have hKc := hK.sub (tys' := []) [] rfl
                refine va_calli (va_runS (As := [.ref ts10, .int r_52]) (rest := []) ⟨hx, hb, hml, hown, hts⟩ (c_X12_spotOf_1 l dC dI H.size ts10 r_52 tv10 h_60) (va_cwS 2 hts gf_c_X12_readItems_c_X12_spotOf_1 rfl rfl rfl md_X12_spotOf ⟨Nat.le_of_ble_eq_true rfl, Nat.le_of_ble_eq_true rfl⟩) ⟨fun a U g mk q => by obtain ⟨q0, q1, qP, qK, qD, qE0, qE1, qE2, qE3, qE4, qE5⟩ := q; exact ⟨q0, q1, qP, va_K.moved (u := U) (U := U.calling g mk a) (Vm.Alike.refl U.vm) qK, qD, va_OF.moved (u := U) (U := U.calling g mk a) (Vm.Alike.refl U.vm) qE0, va_T.moved (u := U) (U := U.calling g mk a) (Vm.Alike.refl U.vm) qE1, va_Z.moved (u := U) (U := U.calling g mk a) (Vm.Alike.refl U.vm) qE2, va_OF.moved (u := U) (U := U.calling g mk a) (Vm.Alike.refl U.vm) qE3, va_O.moved (u := U) (U := U.calling g mk a) (Vm.Alike.refl U.vm) qE4, va_Zq.moved (u := U) (U := U.calling g mk a) (Vm.Alike.refl U.vm) qE5⟩, fun U hU hW => ⟨rfl, by rw [hU], by rw [hU]; exact hPc, va_K.moved hW.alike hKc, hDc.weaken (fun _ _ _ _ => trivial), va_OF.moved hW.alike (by rw [hU]; exact (hE_65.kept hS.2.1).narrow hFc), va_T.moved hW.alike (by rw [hU]; exact (hE_66.kept hS.2.1).narrow hFc), va_Z.moved hW.alike (by rw [hU]; exact (hE_10.kept hS.2.1).narrow hFc), va_OF.moved hW.alike (by rw [hU]; exact (hE_64.kept hS.2.1).narrow hFc), va_O.moved hW.alike (by rw [hU]; exact (hE_63.kept hS.2.1).narrow hFc), va_Zq.moved hW.alike (by rw [hU]; exact (hE_11.kept hS.2.1).narrow hFc)⟩⟩ rfl rfl hl.1 rfl (lv_room (Nat.le_of_ble_eq_true rfl)) dX12_readItems_130 ⟨Nat.le_of_ble_eq_true rfl, Nat.le_of_ble_eq_true rfl⟩) hS (fun q _ h => hFc q h) hFc (fun r_71 u t H1 locs ht hvm hw hB hz1 hk1 hS => ?_)
                as_aux_lemma =>
                obtain ⟨hP1, hK1, hD1⟩ := hB
                rw [ht] at hP1
                have hP := bv_still hP hk1
                generalize H1 = H at hP hS ⊢
                as_aux_lemma =>
                rcases hw with ⟨h_72, h_73⟩ | ⟨h_74, h_75, h_76⟩ | ⟨h_77, h_78, h_79⟩ | ⟨h_80, h_81, h_82⟩ | ⟨h_83, h_84, h_85⟩
                · have h_73 : r_71 = _ := h_73
                  replace hEX := hEX.trans (exc1_eq h_73)
                  replace hEX := hEX.trans (if_pos (show r_71 = (-1) from h_72))
                  rw [h_72]
                  refine lv_istore (lv' := [(6, .int (-1)), (5, .int x_16), (0, .ref h0), (1, .int p1), (2, .ref h2), (3, .int p3), (4, .ref ts10)]) hx hb dX12_readItems_133 hl (Nat.le_of_ble_eq_true rfl) rfl (fun ls hl => ?_)
                  refine lv_goto (tgt := 45) hx hb dX12_readItems_135 rfl ?_
                  exact hU _ _ _ (J45 x_16 x_53 w_47 g_h0_f10 g_h0_f17 g_h0_f26 g_h0_f27 g_h0_f28 g_h0_f29 g_h0_f30 g_h0_f31 g_h0_f34 g_h0_f41 g_h0_f51 g_h0_f53 g_h0_f6 g_h0_f7 g_h0_f8 (RG_w g_h0_f9 (by decide +kernel)) (RG_w h_61 (by decide +kernel)) g_p1 g_p3 a_50 i_49 (by have := r_h0_f10_j45b_h0_f10; have := q_19; have := h_35; have := h_63; omega) hEX _ _ _ hP hD hS (lv_sub hl [0, 1, 2, 3, 4, 5, 6] rfl))
                · have h_76 : r_71 = _ := h_76
                  replace hEX := hEX.trans (exc1_eq h_76)
                  replace hEX := hEX.trans (if_neg (fun q9 : r_71 = (-1) => absurd ((show r_71 = 3 from h_74).symm.trans q9) (by decide +kernel)))
                  replace hEX := hEX.trans (if_pos (show r_71 = 3 from h_74))
                  rw [h_74]
                  refine lv_istore (lv' := [(6, .int 3), (5, .int x_16), (0, .ref h0), (1, .int p1), (2, .ref h2), (3, .int p3), (4, .ref ts10)]) hx hb dX12_readItems_133 hl (Nat.le_of_ble_eq_true rfl) rfl (fun ls hl => ?_)
                  as_aux_lemma =>
                  refine lv_goto (tgt := 45) hx hb dX12_readItems_135 rfl ?_
                  exact hU _ _ _ (ih45b 3 x_16 x_53 w_47 (mu_s (MU_lt (by have := q_19; have := h_35; have := h_63; omega)) hM45b) g_h0_f10 g_h0_f17 g_h0_f26 g_h0_f27 g_h0_f28 g_h0_f29 g_h0_f30 g_h0_f31 g_h0_f34 g_h0_f41 g_h0_f51 g_h0_f53 g_h0_f6 g_h0_f7 g_h0_f8 g_h0_f9 h_61 (RG_w (RG_k 3 3 rfl) (by decide +kernel)) g_p1 g_p3 a_50 i_49 (by have := r_h0_f10_j45b_h0_f10; have := q_19; have := h_35; have := h_63; omega) hEX _ _ _ hP hD hS (lv_sub hl [0, 1, 2, 3, 4, 5, 6] rfl))
                · have h_79 : r_71 = _ := h_79
                  replace hEX := hEX.trans (exc1_eq h_79)
                  replace hEX := hEX.trans (if_neg (fun q9 : r_71 = (-1) => absurd ((show r_71 = 2 from h_77).symm.trans q9) (by decide +kernel)))
                  replace hEX := hEX.trans (if_neg (fun q9 : r_71 = 3 => absurd ((show r_71 = 2 from h_77).symm.trans q9) (by decide +kernel)))
                  replace hEX := hEX.trans (if_pos (show r_71 = 2 from h_77))
                  rw [h_77]
                  refine lv_istore (lv' := [(6, .int 2), (5, .int x_16), (0, .ref h0), (1, .int p1), (2, .ref h2), (3, .int p3), (4, .ref ts10)]) hx hb dX12_readItems_133 hl (Nat.le_of_ble_eq_true rfl) rfl (fun ls hl => ?_)
                  refine lv_goto (tgt := 45) hx hb dX12_readItems_135 rfl ?_
                  exact hU _ _ _ (ih45b 2 x_16 x_53 w_47 (mu_s (MU_lt (by have := q_19; have := h_35; have := h_63; omega)) hM45b) g_h0_f10 g_h0_f17 g_h0_f26 g_h0_f27 g_h0_f28 g_h0_f29 g_h0_f30 g_h0_f31 g_h0_f34 g_h0_f41 g_h0_f51 g_h0_f53 g_h0_f6 g_h0_f7 g_h0_f8 g_h0_f9 h_61 (RG_w (RG_k 2 2 rfl) (by decide +kernel)) g_p1 g_p3 a_50 i_49 (by have := r_h0_f10_j45b_h0_f10; have := q_19; have := h_35; have := h_63; omega) hEX _ _ _ hP hD hS (lv_sub hl [0, 1, 2, 3, 4, 5, 6] rfl))
                · have h_82 : r_71 = _ := h_82
                  replace hEX := hEX.trans (exc1_eq h_82)
                  replace hEX := hEX.trans (if_neg (fun q9 : r_71 = (-1) => absurd ((show r_71 = 1 from h_80).symm.trans q9) (by decide +kernel)))
                  replace hEX := hEX.trans (if_neg (fun q9 : r_71 = 3 => absurd ((show r_71 = 1 from h_80).symm.trans q9) (by decide +kernel)))
                  replace hEX := hEX.trans (if_neg (fun q9 : r_71 = 2 => absurd ((show r_71 = 1 from h_80).symm.trans q9) (by decide +kernel)))
                  replace hEX := hEX.trans (if_pos (show r_71 = 1 from h_80))
                  rw [h_80]
                  refine lv_istore (lv' := [(6, .int 1), (5, .int x_16), (0, .ref h0), (1, .int p1), (2, .ref h2), (3, .int p3), (4, .ref ts10)]) hx hb dX12_readItems_133 hl (Nat.le_of_ble_eq_true rfl) rfl (fun ls hl => ?_)
                  as_aux_lemma =>
                  refine lv_goto (tgt := 45) hx hb dX12_readItems_135 rfl ?_
                  exact hU _ _ _ (ih45b 1 x_16 x_53 w_47 (mu_s (MU_lt (by have := q_19; have := h_35; have := h_63; omega)) hM45b) g_h0_f10 g_h0_f17 g_h0_f26 g_h0_f27 g_h0_f28 g_h0_f29 g_h0_f30 g_h0_f31 g_h0_f34 g_h0_f41 g_h0_f51 g_h0_f53 g_h0_f6 g_h0_f7 g_h0_f8 g_h0_f9 h_61 (RG_w (RG_k 1 1 rfl) (by decide +kernel)) g_p1 g_p3 a_50 i_49 (by have := r_h0_f10_j45b_h0_f10; have := q_19; have := h_35; have := h_63; omega) hEX _ _ _ hP hD hS (lv_sub hl [0, 1, 2, 3, 4, 5, 6] rfl))
                · have h_85 : r_71 = _ := h_85
                  replace hEX := hEX.trans (exc1_eq h_85)
                  replace hEX := hEX.trans (if_neg (fun q9 : r_71 = (-1) => absurd ((show r_71 = 0 from h_83).symm.trans q9) (by decide +kernel)))
                  replace hEX := hEX.trans (if_neg (fun q9 : r_71 = 3 => absurd ((show r_71 = 0 from h_83).symm.trans q9) (by decide +kernel)))
                  replace hEX := hEX.trans (if_neg (fun q9 : r_71 = 2 => absurd ((show r_71 = 0 from h_83).symm.trans q9) (by decide +kernel)))
                  replace hEX := hEX.trans (if_neg (fun q9 : r_71 = 1 => absurd ((show r_71 = 0 from h_83).symm.trans q9) (by decide +kernel)))
                  rw [h_83]
                  refine lv_istore (lv' := [(6, .int 0), (5, .int x_16), (0, .ref h0), (1, .int p1), (2, .ref h2), (3, .int p3), (4, .ref ts10)]) hx hb dX12_readItems_133 hl (Nat.le_of_ble_eq_true rfl) rfl (fun ls hl => ?_)
                  refine lv_goto (tgt := 45) hx hb dX12_readItems_135 rfl ?_
                  exact hU _ _ _ (ih45b 0 x_16 x_53 w_47 (mu_s (MU_lt (by have := q_19; have := h_35; have := h_63; omega)) hM45b) g_h0_f10 g_h0_f17 g_h0_f26 g_h0_f27 g_h0_f28 g_h0_f29 g_h0_f30 g_h0_f31 g_h0_f34 g_h0_f41 g_h0_f51 g_h0_f53 g_h0_f6 g_h0_f7 g_h0_f8 g_h0_f9 h_61 (RG_w (RG_k 0 0 rfl) (by decide +kernel)) g_p1 g_p3 a_50 i_49 (by have := r_h0_f10_j45b_h0_f10; have := q_19; have := h_35; have := h_63; omega) hEX _ _ _ hP hD hS (lv_sub hl [0, 1, 2, 3, 4, 5, 6] rfl))
            · have h_41 : (r_28, x_29, x_30) = _ := h_41
              replace hEX := hEX.trans (exc3_eq h_41)
              replace hEX := hEX.trans (if_neg (RG_neq (x := x_30) (c := (-1)) (show RG x_30 0 240 from h_39) (by decide +kernel)))
              replace hEX := hEX.trans (if_pos (show r_28 = 0 from h_37))
              rw [h_37]
              have h_40 : x_17.toInt + 0 ≤ x_29.toInt := h_40
              refine va_iast hx hb hK hP hD hS 1 0 rfl rfl (RG_in g_21 (by decide +kernel)) dX12_readItems_115 (fun H locs hP hD hS => ?_)
              as_aux_lemma =>
              have hP : va_P (dC, dI) vwCl (wd_c_X12_readItems h0 h0_f0 h0_1 h0_2 h0_3 h0_4 h0_5 h0_f6 h0_f7 h0_f8 h0_f9 x_29 x_30 h0_f12 h0_f13 h0_f14 h0_15 h0_16 h0_f17 h0_18 h0_19 h0_20 h0_21 h0_22 h0_23 h0_24 h0_25 h0_f26 h0_f27 h0_f28 h0_f29 h0_f30 h0_f31 h0_32 h0_33 h0_f34 h0_35 h0_36 h0_37 h0_38 h0_39 h0_40 h0_f41 h0_f42 h0_f43 h0_f44 h0_45 h0_46 h0_47 h0_48 h0_49 h0_50 h0_f51 h0_52 h0_f53 h2 h2k (upd j45b_h2c (x_20 : Int32).toNatClampNeg 0) h0_5 h0_5k tN h0_5c) H := hP
              have hD : va_D A (wd_c_X12_readItems h0 h0_f0 h0_1 h0_2 h0_3 h0_4 h0_5 h0_f6 h0_f7 h0_f8 h0_f9 x_29 x_30 h0_f12 h0_f13 h0_f14 h0_15 h0_16 h0_f17 h0_18 h0_19 h0_20 h0_21 h0_22 h0_23 h0_24 h0_25 h0_f26 h0_f27 h0_f28 h0_f29 h0_f30 h0_f31 h0_32 h0_33 h0_f34 h0_35 h0_36 h0_37 h0_38 h0_39 h0_40 h0_f41 h0_f42 h0_f43 h0_f44 h0_45 h0_46 h0_47 h0_48 h0_49 h0_50 h0_f51 h0_52 h0_f53 h2 h2k (upd j45b_h2c (x_20 : Int32).toNatClampNeg 0) h0_5 h0_5k tN h0_5c) := hD
              have l_87 : (upd j45b_h2c (x_20 : Int32).toNatClampNeg 0) (x_20 : Int32).toNatClampNeg = 0 := pk_us
              have i_88 : BOi (p3.toInt + 4) (upd j45b_h2c (x_20 : Int32).toNatClampNeg 0) := BOi_keep i_45b_h2 g_21 (by decide +kernel) (Or.inr (Or.inl (by have := hrow; have := eq_add ex_20 g_p3 (q := 0) rfl (by decide +kernel); omega)))
              have a_89 : AI (upd j45b_h2c (x_20 : Int32).toNatClampNeg 0) 0 99 := AI_up a_j45b_h2c (RG_k 0 0 rfl) (by decide +kernel)
              generalize huw_86 : (upd j45b_h2c (x_20 : Int32).toNatClampNeg 0) = w_86 at hP hD a_89 l_87 i_88
              replace hEX := hEX.trans (exl_eq huw_86.symm)
              have hP : va_P (dC, dI) vwCl (wd_c_X12_readItems h0 h0_f0 h0_1 h0_2 h0_3 h0_4 h0_5 h0_f6 h0_f7 h0_f8 h0_f9 x_29 x_30 h0_f12 h0_f13 h0_f14 h0_15 h0_16 h0_f17 h0_18 h0_19 h0_20 h0_21 h0_22 h0_23 h0_24 h0_25 h0_f26 h0_f27 h0_f28 h0_f29 h0_f30 h0_f31 h0_32 h0_33 h0_f34 h0_35 h0_36 h0_37 h0_38 h0_39 h0_40 h0_f41 h0_f42 h0_f43 h0_f44 h0_45 h0_46 h0_47 h0_48 h0_49 h0_50 h0_f51 h0_52 h0_f53 h2 h2k w_86 h0_5 h0_5k tN h0_5c) H := hP
              have hD : va_D A (wd_c_X12_readItems h0 h0_f0 h0_1 h0_2 h0_3 h0_4 h0_5 h0_f6 h0_f7 h0_f8 h0_f9 x_29 x_30 h0_f12 h0_f13 h0_f14 h0_15 h0_16 h0_f17 h0_18 h0_19 h0_20 h0_21 h0_22 h0_23 h0_24 h0_25 h0_f26 h0_f27 h0_f28 h0_f29 h0_f30 h0_f31 h0_32 h0_33 h0_f34 h0_35 h0_36 h0_37 h0_38 h0_39 h0_40 h0_f41 h0_f42 h0_f43 h0_f44 h0_45 h0_46 h0_47 h0_48 h0_49 h0_50 h0_f51 h0_52 h0_f53 h2 h2k w_86 h0_5 h0_5k tN h0_5c) := hD
              refine lv_aload_n hx hb dX12_readItems_116 rfl (lv_at hl 2 rfl) ?_
              refine va_get (D := (dC, dI)) (ci := 12) (v := .int x_30) (C := RX12) (T := TX12) (N := 54) hx hb hts iw_c_X12_readItems_X12 hown hK hP 0 rfl rfl 11 (by decide +kernel) (hts (.fieldLink RX12 143 "BuoyVoteModel" "fault" "I") (List.mem_of_getElem? (i := 48) rfl)) (fun _ h9 => h9) rfl dX12_readItems_117 ?_
              refine lv_iconst (v := (-1)) hx hb dX12_readItems_120 kc_iconst_m1 ?_
              refine lv_icmp_ne (tgt := 45) hx hb dX12_readItems_121 rfl (fun c_90 => ?_) (fun c_90 => ?_)
              · replace hEX := hEX.trans (if_neg c_90)
                exact hU _ _ _ (J45c x_16 0 x_29 x_30 w_86 g_h0_f10 g_h0_f17 g_h0_f26 g_h0_f27 g_h0_f28 g_h0_f29 g_h0_f30 g_h0_f31 g_h0_f34 g_h0_f41 g_h0_f51 g_h0_f53 g_h0_f6 g_h0_f7 g_h0_f8 g_h0_f9 h_38 h_39 (RG_w (RG_k 0 0 rfl) (by decide +kernel)) g_p1 g_p3 a_89 hEX _ _ _ hP hD hS (lv_sub hl [0, 1, 2, 3, 4, 5, 6] rfl))
              · replace hEX := hEX.trans (if_pos c_90)
                exact RG_dead (RG_eq1 h_39 (RG_k (-1) (-1) rfl) c_90 (a' := 0) (b' := (-1)) (by decide +kernel)) (by decide +kernel)
            · have h_46 : (r_28, x_29, x_30) = _ := h_46
              replace hEX := hEX.trans (exc3_eq h_46)
              replace hEX := hEX.trans (if_neg (RG_neq (x := x_30) (c := (-1)) (show RG x_30 0 239 from h_44) (by decide +kernel)))
              replace hEX := hEX.trans (if_neg (RG_neq (x := r_28) (c := 0) (show RG r_28 10 99 from h_42) (by decide +kernel)))
              refine va_iast hx hb hK hP hD hS 1 0 rfl rfl (RG_in g_21 (by decide +kernel)) dX12_readItems_115 (fun H locs hP hD hS => ?_)
              as_aux_lemma =>
              have hP : va_P (dC, dI) vwCl (wd_c_X12_readItems h0 h0_f0 h0_1 h0_2 h0_3 h0_4 h0_5 h0_f6 h0_f7 h0_f8 h0_f9 x_29 x_30 h0_f12 h0_f13 h0_f14 h0_15 h0_16 h0_f17 h0_18 h0_19 h0_20 h0_21 h0_22 h0_23 h0_24 h0_25 h0_f26 h0_f27 h0_f28 h0_f29 h0_f30 h0_f31 h0_32 h0_33 h0_f34 h0_35 h0_36 h0_37 h0_38 h0_39 h0_40 h0_f41 h0_f42 h0_f43 h0_f44 h0_45 h0_46 h0_47 h0_48 h0_49 h0_50 h0_f51 h0_52 h0_f53 h2 h2k (upd j45b_h2c (x_20 : Int32).toNatClampNeg r_28) h0_5 h0_5k tN h0_5c) H := hP
              have hD : va_D A (wd_c_X12_readItems h0 h0_f0 h0_1 h0_2 h0_3 h0_4 h0_5 h0_f6 h0_f7 h0_f8 h0_f9 x_29 x_30 h0_f12 h0_f13 h0_f14 h0_15 h0_16 h0_f17 h0_18 h0_19 h0_20 h0_21 h0_22 h0_23 h0_24 h0_25 h0_f26 h0_f27 h0_f28 h0_f29 h0_f30 h0_f31 h0_32 h0_33 h0_f34 h0_35 h0_36 h0_37 h0_38 h0_39 h0_40 h0_f41 h0_f42 h0_f43 h0_f44 h0_45 h0_46 h0_47 h0_48 h0_49 h0_50 h0_f51 h0_52 h0_f53 h2 h2k (upd j45b_h2c (x_20 : Int32).toNatClampNeg r_28) h0_5 h0_5k tN h0_5c) := hD
              have l_92 : (upd j45b_h2c (x_20 : Int32).toNatClampNeg r_28) (x_20 : Int32).toNatClampNeg = r_28 := pk_us
              have i_93 : BOi (p3.toInt + 4) (upd j45b_h2c (x_20 : Int32).toNatClampNeg r_28) := BOi_keep i_45b_h2 g_21 (by decide +kernel) (Or.inl (RG_w h_42 (by decide +kernel)))
              have a_94 : AI (upd j45b_h2c (x_20 : Int32).toNatClampNeg r_28) 0 99 := AI_up a_j45b_h2c h_42 (by decide +kernel)
              generalize huw_91 : (upd j45b_h2c (x_20 : Int32).toNatClampNeg r_28) = w_91 at hP hD a_94 l_92 i_93
              replace hEX := hEX.trans (exl_eq huw_91.symm)
              have hP : va_P (dC, dI) vwCl (wd_c_X12_readItems h0 h0_f0 h0_1 h0_2 h0_3 h0_4 h0_5 h0_f6 h0_f7 h0_f8 h0_f9 x_29 x_30 h0_f12 h0_f13 h0_f14 h0_15 h0_16 h0_f17 h0_18 h0_19 h0_20 h0_21 h0_22 h0_23 h0_24 h0_25 h0_f26 h0_f27 h0_f28 h0_f29 h0_f30 h0_f31 h0_32 h0_33 h0_f34 h0_35 h0_36 h0_37 h0_38 h0_39 h0_40 h0_f41 h0_f42 h0_f43 h0_f44 h0_45 h0_46 h0_47 h0_48 h0_49 h0_50 h0_f51 h0_52 h0_f53 h2 h2k w_91 h0_5 h0_5k tN h0_5c) H := hP
              have hD : va_D A (wd_c_X12_readItems h0 h0_f0 h0_1 h0_2 h0_3 h0_4 h0_5 h0_f6 h0_f7 h0_f8 h0_f9 x_29 x_30 h0_f12 h0_f13 h0_f14 h0_15 h0_16 h0_f17 h0_18 h0_19 h0_20 h0_21 h0_22 h0_23 h0_24 h0_25 h0_f26 h0_f27 h0_f28 h0_f29 h0_f30 h0_f31 h0_32 h0_33 h0_f34 h0_35 h0_36 h0_37 h0_38 h0_39 h0_40 h0_f41 h0_f42 h0_f43 h0_f44 h0_45 h0_46 h0_47 h0_48 h0_49 h0_50 h0_f51 h0_52 h0_f53 h2 h2k w_91 h0_5 h0_5k tN h0_5c) := hD
              refine lv_aload_n hx hb dX12_readItems_116 rfl (lv_at hl 2 rfl) ?_
              refine va_get (D := (dC, dI)) (ci := 12) (v := .int x_30) (C := RX12) (T := TX12) (N := 54) hx hb hts iw_c_X12_readItems_X12 hown hK hP 0 rfl rfl 11 (by decide +kernel) (hts (.fieldLink RX12 143 "BuoyVoteModel" "fault" "I") (List.mem_of_getElem? (i := 48) rfl)) (fun _ h9 => h9) rfl dX12_readItems_117 ?_
              refine lv_iconst (v := (-1)) hx hb dX12_readItems_120 kc_iconst_m1 ?_
              refine lv_icmp_ne (tgt := 45) hx hb dX12_readItems_121 rfl (fun c_95 => ?_) (fun c_95 => ?_)
              · replace hEX := hEX.trans (if_neg c_95)
                exact hU _ _ _ (J45c x_16 0 x_29 x_30 w_91 g_h0_f10 g_h0_f17 g_h0_f26 g_h0_f27 g_h0_f28 g_h0_f29 g_h0_f30 g_h0_f31 g_h0_f34 g_h0_f41 g_h0_f51 g_h0_f53 g_h0_f6 g_h0_f7 g_h0_f8 g_h0_f9 (RG_w h_43 (by decide +kernel)) (RG_w h_44 (by decide +kernel)) (RG_w (RG_k 0 0 rfl) (by decide +kernel)) g_p1 g_p3 a_94 hEX _ _ _ hP hD hS (lv_sub hl [0, 1, 2, 3, 4, 5, 6] rfl))
              · replace hEX := hEX.trans (if_pos c_95)
                exact RG_dead (RG_eq1 h_44 (RG_k (-1) (-1) rfl) c_95 (a' := 0) (b' := (-1)) (by decide +kernel)) (by decide +kernel)
          · have h_13 : r_7 = _ := h_13
            replace hEX := hEX.trans (exc1_eq h_13)
            replace hEX := hEX.trans (if_neg (fun q9 : r_7 = 0 => absurd ((show r_7 = 1 from h_11).symm.trans q9) (by decide +kernel)))
            rw [h_11]
            refine lv_if_eq (tgt := 75) hx hb dX12_readItems_66 rfl (fun c_96 => absurd c_96 (by decide +kernel)) (fun c_96 => ?_)
            as_aux_lemma =>
            refine lv_aload_n hx hb dX12_readItems_69 rfl (lv_at hl 2 rfl) ?_
            obtain ⟨hPc, hDc, hFc, hqc⟩ := cl_cut (wc := (wd_c_X12_fails h0 h0_f0 h0_1 h0_2 h0_3 h0_4 h0_5 h0_f6 h0_f7 h0_f8 h0_f9 j45b_h0_f10 (-1) h0_f12 h0_f13 h0_f14 h0_15 h0_16 h0_f17 h0_18 h0_19 h0_20 h0_21 h0_22 h0_23 h0_24 h0_25 h0_f26 h0_f27 h0_f28 h0_f29 h0_f30 h0_f31 h0_32 h0_33 h0_f34 h0_35 h0_36 h0_37 h0_38 h0_39 h0_40 h0_f41 h0_f42 h0_f43 h0_f44 h0_45 h0_46 h0_47 h0_48 h0_49 h0_50 h0_f51 h0_52 h0_f53)) hP hD hS hA [0] (by decide +kernel) rfl
            have hKc := hK.sub (tys' := []) [] rfl
            have hrv := va_recv hKc hPc (ci := 12) (q0 := 0) rfl rfl
            refine va_calli (va_runV (As := []) (rest := []) ⟨hx, hb, hml, hown, hts⟩ (c_X12_fails l dC dI H.size h0 h0_f0 h0_1 h0_2 h0_3 h0_4 h0_5 h0_f6 h0_f7 h0_f8 h0_f9 j45b_h0_f10 h0_f12 h0_f13 h0_f14 h0_15 h0_16 h0_f17 h0_18 h0_19 h0_20 h0_21 h0_22 h0_23 h0_24 h0_25 h0_f26 h0_f27 h0_f28 h0_f29 h0_f30 h0_f31 h0_32 h0_33 h0_f34 h0_35 h0_36 h0_37 h0_38 h0_39 h0_40 h0_f41 h0_f42 h0_f43 h0_f44 h0_45 h0_46 h0_47 h0_48 h0_49 h0_50 h0_f51 h0_52 h0_f53 g_h0_f6 g_h0_f7 g_h0_f8 (RG_w g_h0_f9 (by decide +kernel)) (RG_w g_j45b_h0_f10 (by decide +kernel)) g_h0_f17 g_h0_f26 g_h0_f27 g_h0_f28 g_h0_f29 g_h0_f30 g_h0_f31 g_h0_f34 g_h0_f41 g_h0_f51 g_h0_f53) (cwV 0 hts gf_c_X12_readItems_c_X12_fails rfl rfl rfl mdV_X12_fails ⟨Nat.le_of_ble_eq_true rfl, Nat.le_of_ble_eq_true rfl⟩) ⟨fun a U g mk q => by obtain ⟨q0, q1, qP, qK, qD⟩ := q; exact ⟨q0, q1, qP, va_K.moved (u := U) (U := U.calling g mk a) (Vm.Alike.refl U.vm) qK, qD⟩, hrv, fun U hU hW => ⟨rfl, by rw [hU], by rw [hU]; exact hPc, va_K.moved hW.alike hKc, hDc.weaken (fun _ _ _ _ => trivial)⟩⟩ rfl rfl hl.1 rfl (lv_room (Nat.le_of_ble_eq_true rfl)) dX12_readItems_70 ⟨Nat.le_of_ble_eq_true rfl, Nat.le_of_ble_eq_true rfl⟩) hS (fun q _ h => hFc q h) hFc (fun r_97 u t H1 locs ht hvm hw hB hz1 hk1 hS => ?_)
            obtain ⟨hP1, hK1, hD1⟩ := hB
            rw [ht] at hP1
            obtain ⟨hP, hD⟩ := cl_put (w1 := (wd_c_X12_fails h0 h0_f0 h0_1 h0_2 h0_3 h0_4 h0_5 h0_f6 h0_f7 h0_f8 h0_f9 j45b_h0_f10 j45b_h0_f10 h0_f12 h0_f13 h0_f14 h0_15 h0_16 h0_f17 h0_18 h0_19 h0_20 h0_21 h0_22 h0_23 h0_24 h0_25 h0_f26 h0_f27 h0_f28 h0_f29 h0_f30 h0_f31 h0_32 h0_33 h0_f34 h0_35 h0_36 h0_37 h0_38 h0_39 h0_40 h0_f41 h0_f42 h0_f43 h0_f44 h0_45 h0_46 h0_47 h0_48 h0_49 h0_50 h0_f51 h0_52 h0_f53)) (nw := (wd_c_X12_readItems h0 h0_f0 h0_1 h0_2 h0_3 h0_4 h0_5 h0_f6 h0_f7 h0_f8 h0_f9 j45b_h0_f10 j45b_h0_f10 h0_f12 h0_f13 h0_f14 h0_15 h0_16 h0_f17 h0_18 h0_19 h0_20 h0_21 h0_22 h0_23 h0_24 h0_25 h0_f26 h0_f27 h0_f28 h0_f29 h0_f30 h0_f31 h0_32 h0_33 h0_f34 h0_35 h0_36 h0_37 h0_38 h0_39 h0_40 h0_f41 h0_f42 h0_f43 h0_f44 h0_45 h0_46 h0_47 h0_48 h0_49 h0_50 h0_f51 h0_52 h0_f53 h2 h2k j45b_h2c h0_5 h0_5k tN h0_5c)) hP hD [0] [3, 1, 2] 3 rfl hqc (by decide +kernel) rfl hk1 hFc hP1 hD1
            generalize H1 = H at hP hS ⊢
            as_aux_lemma =>
            rcases hw with ⟨h_98, h_99⟩
            have h_99 : r_97 = _ := h_99
            replace hEX := hEX.trans (exc1_eq h_99)
            rw [h_98]
            refine lv_pop hx hb dX12_readItems_73 rfl ?_
            have hK9 := hK.sub (tys' := []) [] rfl
            exact W.vret hx hb hr (fun t ht hW => ⟨⟨(j45b_h0_f10, j45b_h0_f10, j45b_h2c), rfl, (Or.inr ⟨(RG_w g_j45b_h0_f10 (by decide +kernel)), (RG_w g_j45b_h0_f10 (by decide +kernel)), a_j45b_h2c, g_h0_f9, (hR.trans hEX).symm⟩), by rw [ht]; exact hP, va_K.moved hW.alike hK9, hD⟩, hS.F ht⟩) hS.2.2 dX12_readItems_74
        replace hEX := hEX.trans (if_neg c_6)
        by_cases c_100 : j45b_l6 = 1
        · replace hEX := hEX.trans (if_pos c_100)
          subst c_100
          refine lv_iload hx hb dX12_readItems_59 (lv_at hl 1 rfl) ?_
          refine lv_iload hx hb dX12_readItems_61 (lv_at hl 0 rfl) ?_
          obtain ⟨hPc, hDc, hFc, hqc⟩ := cl_cut (wc := []) hP hD hS hA [] (by decide +kernel) rfl
          have hKc := hK.sub (tys' := []) [] rfl
          refine va_calli (va_runS (As := [.int j45b_l5, .int 1]) (rest := []) ⟨hx, hb, hml, hown, hts⟩ (c_X12_has_2 l dC dI H.size j45b_l5 1 (RG_w (RG_k 1 1 rfl) (by decide +kernel))) (va_cwS 2 hts gf_c_X12_readItems_c_X12_has_2 rfl rfl rfl md_X12_has ⟨Nat.le_of_ble_eq_true rfl, Nat.le_of_ble_eq_true rfl⟩) ⟨fun a U g mk q => by obtain ⟨q0, q1, qP, qK, qD⟩ := q; exact ⟨q0, q1, qP, va_K.moved (u := U) (U := U.calling g mk a) (Vm.Alike.refl U.vm) qK, qD⟩, fun U hU hW => ⟨rfl, by rw [hU], by rw [hU]; exact hPc, va_K.moved hW.alike hKc, hDc.weaken (fun _ _ _ _ => trivial)⟩⟩ rfl rfl hl.1 rfl (lv_room (Nat.le_of_ble_eq_true rfl)) dX12_readItems_63 ⟨Nat.le_of_ble_eq_true rfl, Nat.le_of_ble_eq_true rfl⟩) hS (fun q _ h => hFc q h) hFc (fun r_101 u t H1 locs ht hvm hw hB hz1 hk1 hS => ?_)
          as_aux_lemma =>
          obtain ⟨hP1, hK1, hD1⟩ := hB
          rw [ht] at hP1
          have hP := bv_still hP hk1
          generalize H1 = H at hP hS ⊢
          as_aux_lemma =>
          rcases hw with ⟨h_102, h_103, h_104⟩ | ⟨h_105, h_106, h_107⟩
          · have h_104 : r_101 = _ := h_104
            replace hEX := hEX.trans (exc1_eq h_104)
            replace hEX := hEX.trans (if_pos (show r_101 = 0 from h_102))
            rw [h_102]
            refine lv_if_eq (tgt := 75) hx hb dX12_readItems_66 rfl (fun c_108 => ?_) (fun c_108 => absurd c_108 (by decide +kernel))
            refine lv_iload hx hb dX12_readItems_75 (lv_at hl 1 rfl) ?_
            refine lv_iconst (v := 1) hx hb dX12_readItems_77 kc_iconst_1 ?_
            refine lv_iload hx hb dX12_readItems_78 (lv_at hl 0 rfl) ?_
            refine lv_ishl hx hb dX12_readItems_80 ?_
            refine lv_topi (fun x_109 ex_109 => ?_)
            obtain rfl : x_109 = 2 := ex_109.trans (by decide +kernel)
            refine lv_ior hx hb dX12_readItems_81 ?_
            refine lv_topi (fun x_110 ex_110 => ?_)
            as_aux_lemma =>
            replace hEX := hEX.trans (exl_eq ex_110)
            refine lv_istore (lv' := [(5, .int x_110), (6, .int 1), (0, .ref h0), (1, .int p1), (2, .ref h2), (3, .int p3), (4, .ref ts10)]) hx hb dX12_readItems_82 hl (Nat.le_of_ble_eq_true rfl) rfl (fun ls hl => ?_)
            refine lv_aload_n hx hb dX12_readItems_84 rfl (lv_at hl 2 rfl) ?_
            refine lv_dup hx hb dX12_readItems_85 rfl ?_
            refine va_get (D := (dC, dI)) (ci := 12) (v := .int j45b_h0_f10) (C := RX12) (T := TX12) (N := 54) hx hb hts iw_c_X12_readItems_X12 hown hK hP 0 rfl rfl 10 (by decide +kernel) (hts (.fieldLink RX12 134 "BuoyVoteModel" "at" "I") (List.mem_of_getElem? (i := 21) rfl)) (fun _ h9 => h9) rfl dX12_readItems_86 ?_
            refine lv_iconst (v := 1) hx hb dX12_readItems_89 kc_iconst_1 ?_
            refine lv_iadd hx hb dX12_readItems_90 ?_
            refine lv_topi (fun x_111 ex_111 => ?_)
            replace hEX := hEX.trans (exl_eq ex_111)
            have g_112 : RG x_111 1 240 := RG_add ex_111 g_j45b_h0_f10 (RG_k 1 1 rfl) (by decide +kernel)
            have q_113 : x_111.toInt = j45b_h0_f10.toInt + 1 := eq_add ex_111 g_j45b_h0_f10 (q := 1) rfl (by decide +kernel)
            refine va_put (D := (dC, dI)) (ci := 12) (v := .int x_111) (ty := .int) (C := RX12) (T := TX12) (N := 54) hx hb hts iw_c_X12_readItems_X12 tyX12 tyX12_ok nmX12 hown hK hP hD hS 0 rfl rfl 10 (by decide +kernel) (hts (.fieldLink RX12 134 "BuoyVoteModel" "at" "I") (List.mem_of_getElem? (i := 21) rfl)) (fun _ h9 => h9) rfl (by decide +kernel) rfl rfl (Nat.le_of_ble_eq_true rfl) dX12_readItems_91 (fun H locs hP hD hS => ?_)
            have hP : va_P (dC, dI) vwCl (wd_c_X12_readItems h0 h0_f0 h0_1 h0_2 h0_3 h0_4 h0_5 h0_f6 h0_f7 h0_f8 h0_f9 x_111 (-1) h0_f12 h0_f13 h0_f14 h0_15 h0_16 h0_f17 h0_18 h0_19 h0_20 h0_21 h0_22 h0_23 h0_24 h0_25 h0_f26 h0_f27 h0_f28 h0_f29 h0_f30 h0_f31 h0_32 h0_33 h0_f34 h0_35 h0_36 h0_37 h0_38 h0_39 h0_40 h0_f41 h0_f42 h0_f43 h0_f44 h0_45 h0_46 h0_47 h0_48 h0_49 h0_50 h0_f51 h0_52 h0_f53 h2 h2k j45b_h2c h0_5 h0_5k tN h0_5c) H := hP
            have hD : va_D A (wd_c_X12_readItems h0 h0_f0 h0_1 h0_2 h0_3 h0_4 h0_5 h0_f6 h0_f7 h0_f8 h0_f9 x_111 (-1) h0_f12 h0_f13 h0_f14 h0_15 h0_16 h0_f17 h0_18 h0_19 h0_20 h0_21 h0_22 h0_23 h0_24 h0_25 h0_f26 h0_f27 h0_f28 h0_f29 h0_f30 h0_f31 h0_32 h0_33 h0_f34 h0_35 h0_36 h0_37 h0_38 h0_39 h0_40 h0_f41 h0_f42 h0_f43 h0_f44 h0_45 h0_46 h0_47 h0_48 h0_49 h0_50 h0_f51 h0_52 h0_f53 h2 h2k j45b_h2c h0_5 h0_5k tN h0_5c) := hD
            refine lv_aload_n hx hb dX12_readItems_94 rfl (lv_at hl 4 rfl) ?_
            as_aux_lemma =>
            refine lv_iload_n hx hb dX12_readItems_95 rfl (lv_at hl 5 rfl) ?_
            refine lv_iload hx hb dX12_readItems_96 (lv_at hl 1 rfl) ?_
            refine lv_iadd hx hb dX12_readItems_98 ?_
            refine lv_topi (fun x_114 ex_114 => ?_)
            replace hEX := hEX.trans (exl_eq ex_114)
            have g_115 : RG x_114 1 9 := RG_add ex_114 g_p3 (RG_k 1 1 rfl) (by decide +kernel)
            refine lv_aload_n hx hb dX12_readItems_99 rfl (lv_at hl 2 rfl) ?_
            refine lv_iload_n hx hb dX12_readItems_100 rfl (lv_at hl 3 rfl) ?_
            refine lv_iload hx hb dX12_readItems_101 (lv_at hl 1 rfl) ?_
            obtain ⟨hPc, hDc, hFc, hqc⟩ := cl_cut (wc := []) hP hD hS hA [] (by decide +kernel) rfl
            have hKc := hK.sub (tys' := []) [] rfl
            refine va_calli (va_runS (As := [.int p1, .int 1]) (rest := [.ref h0, .int x_114, .ref h2]) ⟨hx, hb, hml, hown, hts⟩ (c_X12_leastOf_1 l dC dI H.size p1 1 g_p1 (RG_w (RG_k 1 1 rfl) (by decide +kernel))) (va_cwS 2 hts gf_c_X12_readItems_c_X12_leastOf_1 rfl rfl rfl md_X12_leastOf ⟨Nat.le_of_ble_eq_true rfl, Nat.le_of_ble_eq_true rfl⟩) ⟨fun a U g mk q => by obtain ⟨q0, q1, qP, qK, qD⟩ := q; exact ⟨q0, q1, qP, va_K.moved (u := U) (U := U.calling g mk a) (Vm.Alike.refl U.vm) qK, qD⟩, fun U hU hW => ⟨rfl, by rw [hU], by rw [hU]; exact hPc, va_K.moved hW.alike hKc, hDc.weaken (fun _ _ _ _ => trivial)⟩⟩ rfl rfl hl.1 rfl (lv_room (Nat.le_of_ble_eq_true rfl)) dX12_readItems_103 ⟨Nat.le_of_ble_eq_true rfl, Nat.le_of_ble_eq_true rfl⟩) hS (fun q _ h => hFc q h) hFc (fun r_116 u t H1 locs ht hvm hw hB hz1 hk1 hS => ?_)
            obtain ⟨hP1, hK1, hD1⟩ := hB
            rw [ht] at hP1
            have hP := bv_still hP hk1
            generalize H1 = H at hP hS ⊢
            as_aux_lemma =>
            rcases hw with ⟨h_117, h_118⟩
            have h_118 : r_116 = _ := h_118
            replace hEX := hEX.trans (exc1_eq h_118)
            rw [h_117]
            refine lv_iload_n hx hb dX12_readItems_106 rfl (lv_at hl 3 rfl) ?_
            refine lv_iload hx hb dX12_readItems_107 (lv_at hl 1 rfl) ?_
            obtain ⟨hPc, hDc, hFc, hqc⟩ := cl_cut (wc := []) hP hD hS hA [] (by decide +kernel) rfl
            have hKc := hK.sub (tys' := []) [] rfl
            refine va_calli (va_runS (As := [.int p1, .int 1]) (rest := [.int 0, .ref h0, .int x_114, .ref h2]) ⟨hx, hb, hml, hown, hts⟩ (c_X12_mostOf_1 l dC dI H.size p1 1 g_p1 (RG_w (RG_k 1 1 rfl) (by decide +kernel))) (va_cwS 2 hts gf_c_X12_readItems_c_X12_mostOf_1 rfl rfl rfl md_X12_mostOf ⟨Nat.le_of_ble_eq_true rfl, Nat.le_of_ble_eq_true rfl⟩) ⟨fun a U g mk q => by obtain ⟨q0, q1, qP, qK, qD⟩ := q; exact ⟨q0, q1, qP, va_K.moved (u := U) (U := U.calling g mk a) (Vm.Alike.refl U.vm) qK, qD⟩, fun U hU hW => ⟨rfl, by rw [hU], by rw [hU]; exact hPc, va_K.moved hW.alike hKc, hDc.weaken (fun _ _ _ _ => trivial)⟩⟩ rfl rfl hl.1 rfl (lv_room (Nat.le_of_ble_eq_true rfl)) dX12_readItems_109 ⟨Nat.le_of_ble_eq_true rfl, Nat.le_of_ble_eq_true rfl⟩) hS (fun q _ h => hFc q h) hFc (fun r_119 u t H1 locs ht hvm hw hB hz1 hk1 hS => ?_)
            obtain ⟨hP1, hK1, hD1⟩ := hB
            rw [ht] at hP1
            have hP := bv_still hP hk1
            generalize H1 = H at hP hS ⊢
            as_aux_lemma =>
            rcases hw with ⟨h_120, h_121⟩
            have h_121 : r_119 = _ := h_121
            replace hEX := hEX.trans (exc1_eq h_121)
            rw [h_120]
            obtain ⟨hPc, hDc, hFc, hqc⟩ := cl_cut (wc := (wd_c_X12_number h0 h0_f0 h0_1 h0_2 h0_3 h0_4 h0_5 h0_f6 h0_f7 h0_f8 h0_f9 x_111 (-1) h0_f12 h0_f13 h0_f14 h0_15 h0_16 h0_f17 h0_18 h0_19 h0_20 h0_21 h0_22 h0_23 h0_24 h0_25 h0_f26 h0_f27 h0_f28 h0_f29 h0_f30 h0_f31 h0_32 h0_33 h0_f34 h0_35 h0_36 h0_37 h0_38 h0_39 h0_40 h0_f41 h0_f42 h0_f43 h0_f44 h0_45 h0_46 h0_47 h0_48 h0_49 h0_50 h0_f51 h0_52 h0_f53 h0_5 h0_5k tN h0_5c)) hP hD hS hA [0, 2] (by decide +kernel) rfl
            have hKc := hK.sub (tys' := [(h0_5k, .byte)]) [1] rfl
            have hrv := va_recv hKc hPc (ci := 12) (q0 := 0) rfl rfl
            refine va_calli (va_runV (As := [.int 0, .int 9]) (rest := [.int x_114, .ref h2]) ⟨hx, hb, hml, hown, hts⟩ (c_X12_number l dC dI H.size h0 h0_f0 h0_1 h0_2 h0_3 h0_4 h0_5 h0_f6 h0_f7 h0_f8 h0_f9 x_111 h0_f12 h0_f13 h0_f14 h0_15 h0_16 h0_f17 h0_18 h0_19 h0_20 h0_21 h0_22 h0_23 h0_24 h0_25 h0_f26 h0_f27 h0_f28 h0_f29 h0_f30 h0_f31 h0_32 h0_33 h0_f34 h0_35 h0_36 h0_37 h0_38 h0_39 h0_40 h0_f41 h0_f42 h0_f43 h0_f44 h0_45 h0_46 h0_47 h0_48 h0_49 h0_50 h0_f51 h0_52 h0_f53 h0_5k h0_5c tN g_h0_f6 g_h0_f7 g_h0_f8 (RG_w g_h0_f9 (by decide +kernel)) (RG_w g_112 (by decide +kernel)) g_h0_f17 g_h0_f26 g_h0_f27 g_h0_f28 g_h0_f29 g_h0_f30 g_h0_f31 g_h0_f34 g_h0_f41 g_h0_f51 g_h0_f53 htN) (cwV 2 hts gf_c_X12_readItems_c_X12_number rfl rfl rfl mdV_X12_number ⟨Nat.le_of_ble_eq_true rfl, Nat.le_of_ble_eq_true rfl⟩) ⟨fun a U g mk q => by obtain ⟨q0, q1, qP, qK, qD⟩ := q; exact ⟨q0, q1, qP, va_K.moved (u := U) (U := U.calling g mk a) (Vm.Alike.refl U.vm) qK, qD⟩, hrv, fun U hU hW => ⟨rfl, by rw [hU], by rw [hU]; exact hPc, va_K.moved hW.alike hKc, hDc.weaken (fun _ _ _ _ => trivial)⟩⟩ rfl rfl hl.1 rfl (lv_room (Nat.le_of_ble_eq_true rfl)) dX12_readItems_112 ⟨Nat.le_of_ble_eq_true rfl, Nat.le_of_ble_eq_true rfl⟩) hS (fun q _ h => hFc q h) hFc (fun r_122 u t H1 locs ht hvm hw hB hz1 hk1 hS => ?_)
            obtain ⟨x_123, x_124⟩ := u
            obtain ⟨hP1, hK1, hD1⟩ := hB
            rw [ht] at hP1
            obtain ⟨hP, hD⟩ := cl_put (w1 := (wd_c_X12_number h0 h0_f0 h0_1 h0_2 h0_3 h0_4 h0_5 h0_f6 h0_f7 h0_f8 h0_f9 x_123 x_124 h0_f12 h0_f13 h0_f14 h0_15 h0_16 h0_f17 h0_18 h0_19 h0_20 h0_21 h0_22 h0_23 h0_24 h0_25 h0_f26 h0_f27 h0_f28 h0_f29 h0_f30 h0_f31 h0_32 h0_33 h0_f34 h0_35 h0_36 h0_37 h0_38 h0_39 h0_40 h0_f41 h0_f42 h0_f43 h0_f44 h0_45 h0_46 h0_47 h0_48 h0_49 h0_50 h0_f51 h0_52 h0_f53 h0_5 h0_5k tN h0_5c)) (nw := (wd_c_X12_readItems h0 h0_f0 h0_1 h0_2 h0_3 h0_4 h0_5 h0_f6 h0_f7 h0_f8 h0_f9 x_123 x_124 h0_f12 h0_f13 h0_f14 h0_15 h0_16 h0_f17 h0_18 h0_19 h0_20 h0_21 h0_22 h0_23 h0_24 h0_25 h0_f26 h0_f27 h0_f28 h0_f29 h0_f30 h0_f31 h0_32 h0_33 h0_f34 h0_35 h0_36 h0_37 h0_38 h0_39 h0_40 h0_f41 h0_f42 h0_f43 h0_f44 h0_45 h0_46 h0_47 h0_48 h0_49 h0_50 h0_f51 h0_52 h0_f53 h2 h2k j45b_h2c h0_5 h0_5k tN h0_5c)) hP hD [0, 2] [3, 1, 4] 3 rfl hqc (by decide +kernel) rfl hk1 hFc hP1 hD1
            generalize H1 = H at hP hS ⊢
            as_aux_lemma =>
            rcases hw with ⟨h_125, h_126, h_127, h_128, h_129, h_130⟩ | ⟨h_131, h_132, h_133, h_134, h_135⟩ | ⟨h_136, h_137, h_138, h_139, h_140⟩
            · have h_130 : (r_122, x_123, x_124) = _ := h_130
              replace hEX := hEX.trans (exc3_eq h_130)
              replace hEX := hEX.trans (if_pos (show x_124 = (-1) from h_127))
              subst h_127
              have h_129 : x_111.toInt + 1 ≤ x_123.toInt := h_129
              refine va_iast hx hb hK hP hD hS 1 0 rfl rfl (RG_in g_115 (by decide +kernel)) dX12_readItems_115 (fun H locs hP hD hS => ?_)
              have hP : va_P (dC, dI) vwCl (wd_c_X12_readItems h0 h0_f0 h0_1 h0_2 h0_3 h0_4 h0_5 h0_f6 h0_f7 h0_f8 h0_f9 x_123 (-1) h0_f12 h0_f13 h0_f14 h0_15 h0_16 h0_f17 h0_18 h0_19 h0_20 h0_21 h0_22 h0_23 h0_24 h0_25 h0_f26 h0_f27 h0_f28 h0_f29 h0_f30 h0_f31 h0_32 h0_33 h0_f34 h0_35 h0_36 h0_37 h0_38 h0_39 h0_40 h0_f41 h0_f42 h0_f43 h0_f44 h0_45 h0_46 h0_47 h0_48 h0_49 h0_50 h0_f51 h0_52 h0_f53 h2 h2k (upd j45b_h2c (x_114 : Int32).toNatClampNeg r_122) h0_5 h0_5k tN h0_5c) H := hP
              have hD : va_D A (wd_c_X12_readItems h0 h0_f0 h0_1 h0_2 h0_3 h0_4 h0_5 h0_f6 h0_f7 h0_f8 h0_f9 x_123 (-1) h0_f12 h0_f13 h0_f14 h0_15 h0_16 h0_f17 h0_18 h0_19 h0_20 h0_21 h0_22 h0_23 h0_24 h0_25 h0_f26 h0_f27 h0_f28 h0_f29 h0_f30 h0_f31 h0_32 h0_33 h0_f34 h0_35 h0_36 h0_37 h0_38 h0_39 h0_40 h0_f41 h0_f42 h0_f43 h0_f44 h0_45 h0_46 h0_47 h0_48 h0_49 h0_50 h0_f51 h0_52 h0_f53 h2 h2k (upd j45b_h2c (x_114 : Int32).toNatClampNeg r_122) h0_5 h0_5k tN h0_5c) := hD
              have l_142 : (upd j45b_h2c (x_114 : Int32).toNatClampNeg r_122) (x_114 : Int32).toNatClampNeg = r_122 := pk_us
              have i_143 : BOi (p3.toInt + 4) (upd j45b_h2c (x_114 : Int32).toNatClampNeg r_122) := BOi_keep i_45b_h2 g_115 (by decide +kernel) (Or.inr (Or.inl (by have := hrow; have := eq_add ex_114 g_p3 (q := 1) rfl (by decide +kernel); omega)))
              have a_144 : AI (upd j45b_h2c (x_114 : Int32).toNatClampNeg r_122) 0 99 := AI_up a_j45b_h2c h_125 (by decide +kernel)
              generalize huw_141 : (upd j45b_h2c (x_114 : Int32).toNatClampNeg r_122) = w_141 at hP hD a_144 l_142 i_143
              replace hEX := hEX.trans (exl_eq huw_141.symm)
              have hP : va_P (dC, dI) vwCl (wd_c_X12_readItems h0 h0_f0 h0_1 h0_2 h0_3 h0_4 h0_5 h0_f6 h0_f7 h0_f8 h0_f9 x_123 (-1) h0_f12 h0_f13 h0_f14 h0_15 h0_16 h0_f17 h0_18 h0_19 h0_20 h0_21 h0_22 h0_23 h0_24 h0_25 h0_f26 h0_f27 h0_f28 h0_f29 h0_f30 h0_f31 h0_32 h0_33 h0_f34 h0_35 h0_36 h0_37 h0_38 h0_39 h0_40 h0_f41 h0_f42 h0_f43 h0_f44 h0_45 h0_46 h0_47 h0_48 h0_49 h0_50 h0_f51 h0_52 h0_f53 h2 h2k w_141 h0_5 h0_5k tN h0_5c) H := hP
              have hD : va_D A (wd_c_X12_readItems h0 h0_f0 h0_1 h0_2 h0_3 h0_4 h0_5 h0_f6 h0_f7 h0_f8 h0_f9 x_123 (-1) h0_f12 h0_f13 h0_f14 h0_15 h0_16 h0_f17 h0_18 h0_19 h0_20 h0_21 h0_22 h0_23 h0_24 h0_25 h0_f26 h0_f27 h0_f28 h0_f29 h0_f30 h0_f31 h0_32 h0_33 h0_f34 h0_35 h0_36 h0_37 h0_38 h0_39 h0_40 h0_f41 h0_f42 h0_f43 h0_f44 h0_45 h0_46 h0_47 h0_48 h0_49 h0_50 h0_f51 h0_52 h0_f53 h2 h2k w_141 h0_5 h0_5k tN h0_5c) := hD
              refine lv_aload_n hx hb dX12_readItems_116 rfl (lv_at hl 2 rfl) ?_
              as_aux_lemma =>
              refine va_get (D := (dC, dI)) (ci := 12) (v := .int (-1)) (C := RX12) (T := TX12) (N := 54) hx hb hts iw_c_X12_readItems_X12 hown hK hP 0 rfl rfl 11 (by decide +kernel) (hts (.fieldLink RX12 143 "BuoyVoteModel" "fault" "I") (List.mem_of_getElem? (i := 48) rfl)) (fun _ h9 => h9) rfl dX12_readItems_117 ?_
              refine lv_iconst (v := (-1)) hx hb dX12_readItems_120 kc_iconst_m1 ?_
              refine lv_icmp_ne (tgt := 45) hx hb dX12_readItems_121 rfl (fun c_145 => absurd c_145 (by decide +kernel)) (fun c_145 => ?_)
              refine lv_aload hx hb dX12_readItems_124 (lv_at hl 6 rfl) ?_
              refine lv_aload_n hx hb dX12_readItems_126 rfl (lv_at hl 2 rfl) ?_
              obtain ⟨hPc, hDc, hFc, hqc⟩ := cl_cut (wc := (wd_c_X12_look h0 h0_f0 h0_1 h0_2 h0_3 h0_4 h0_5 h0_f6 h0_f7 h0_f8 h0_f9 x_123 (-1) h0_f12 h0_f13 h0_f14 h0_15 h0_16 h0_f17 h0_18 h0_19 h0_20 h0_21 h0_22 h0_23 h0_24 h0_25 h0_f26 h0_f27 h0_f28 h0_f29 h0_f30 h0_f31 h0_32 h0_33 h0_f34 h0_35 h0_36 h0_37 h0_38 h0_39 h0_40 h0_f41 h0_f42 h0_f43 h0_f44 h0_45 h0_46 h0_47 h0_48 h0_49 h0_50 h0_f51 h0_52 h0_f53 h0_5 h0_5k tN h0_5c)) hP hD hS hA [0, 2] (by decide +kernel) rfl
              have hKc := hK.sub (tys' := [(h0_5k, .byte)]) [1] rfl
              have hrv := va_recv hKc hPc (ci := 12) (q0 := 0) rfl rfl
              refine va_calli (va_runV (As := []) (rest := [.ref ts10]) ⟨hx, hb, hml, hown, hts⟩ (c_X12_look l dC dI H.size h0 h0_f0 h0_1 h0_2 h0_3 h0_4 h0_5 h0_f6 h0_f7 h0_f8 h0_f9 x_123 h0_f12 h0_f13 h0_f14 h0_15 h0_16 h0_f17 h0_18 h0_19 h0_20 h0_21 h0_22 h0_23 h0_24 h0_25 h0_f26 h0_f27 h0_f28 h0_f29 h0_f30 h0_f31 h0_32 h0_33 h0_f34 h0_35 h0_36 h0_37 h0_38 h0_39 h0_40 h0_f41 h0_f42 h0_f43 h0_f44 h0_45 h0_46 h0_47 h0_48 h0_49 h0_50 h0_f51 h0_52 h0_f53 h0_5k h0_5c tN g_h0_f6 g_h0_f7 g_h0_f8 (RG_w g_h0_f9 (by decide +kernel)) (RG_w h_126 (by decide +kernel)) g_h0_f17 g_h0_f26 g_h0_f27 g_h0_f28 g_h0_f29 g_h0_f30 g_h0_f31 g_h0_f34 g_h0_f41 g_h0_f51 g_h0_f53 htN) (cwV 0 hts gf_c_X12_readItems_c_X12_look rfl rfl rfl mdV_X12_look ⟨Nat.le_of_ble_eq_true rfl, Nat.le_of_ble_eq_true rfl⟩) ⟨fun a U g mk q => by obtain ⟨q0, q1, qP, qK, qD⟩ := q; exact ⟨q0, q1, qP, va_K.moved (u := U) (U := U.calling g mk a) (Vm.Alike.refl U.vm) qK, qD⟩, hrv, fun U hU hW => ⟨rfl, by rw [hU], by rw [hU]; exact hPc, va_K.moved hW.alike hKc, hDc.weaken (fun _ _ _ _ => trivial)⟩⟩ rfl rfl hl.1 rfl (lv_room (Nat.le_of_ble_eq_true rfl)) dX12_readItems_127 ⟨Nat.le_of_ble_eq_true rfl, Nat.le_of_ble_eq_true rfl⟩) hS (fun q _ h => hFc q h) hFc (fun r_146 x_147 t H1 locs ht hvm hw hB hz1 hk1 hS => ?_)
              obtain ⟨hP1, hK1, hD1⟩ := hB
              rw [ht] at hP1
              obtain ⟨hP, hD⟩ := cl_put (w1 := (wd_c_X12_look h0 h0_f0 h0_1 h0_2 h0_3 h0_4 h0_5 h0_f6 h0_f7 h0_f8 h0_f9 x_147 (-1) h0_f12 h0_f13 h0_f14 h0_15 h0_16 h0_f17 h0_18 h0_19 h0_20 h0_21 h0_22 h0_23 h0_24 h0_25 h0_f26 h0_f27 h0_f28 h0_f29 h0_f30 h0_f31 h0_32 h0_33 h0_f34 h0_35 h0_36 h0_37 h0_38 h0_39 h0_40 h0_f41 h0_f42 h0_f43 h0_f44 h0_45 h0_46 h0_47 h0_48 h0_49 h0_50 h0_f51 h0_52 h0_f53 h0_5 h0_5k tN h0_5c)) (nw := (wd_c_X12_readItems h0 h0_f0 h0_1 h0_2 h0_3 h0_4 h0_5 h0_f6 h0_f7 h0_f8 h0_f9 x_147 (-1) h0_f12 h0_f13 h0_f14 h0_15 h0_16 h0_f17 h0_18 h0_19 h0_20 h0_21 h0_22 h0_23 h0_24 h0_25 h0_f26 h0_f27 h0_f28 h0_f29 h0_f30 h0_f31 h0_32 h0_33 h0_f34 h0_35 h0_36 h0_37 h0_38 h0_39 h0_40 h0_f41 h0_f42 h0_f43 h0_f44 h0_45 h0_46 h0_47 h0_48 h0_49 h0_50 h0_f51 h0_52 h0_f53 h2 h2k w_141 h0_5 h0_5k tN h0_5c)) hP hD [0, 2] [3, 1, 4] 3 rfl hqc (by decide +kernel) rfl hk1 hFc hP1 hD1
              generalize H1 = H at hP hS ⊢
              as_aux_lemma =>
              rcases hw with ⟨h_148, h_149, h_150, h_151, h_152, h_153⟩ | ⟨h_154, h_155, h_156, h_157, h_158, h_159, h_160⟩
              · have h_153 : (r_146, x_147) = _ := h_153
                replace hEX := hEX.trans (exc2_eq h_153)
                replace hEX := hEX.trans (if_pos (show r_146 = (-1) from h_148))
                rw [h_148]
                obtain ⟨hPc, hDc, hFc, hqc⟩ := cl_cut (wc := []) hP hD hS hA [] (by decide +kernel) rfl
                have hKc := hK.sub (tys' := []) [] rfl
                refine va_calli (va_runS (As := [.ref ts10, .int (-1)]) (rest := []) ⟨hx, hb, hml, hown, hts⟩ (c_X12_spotOf l dC dI H.size ts10 tv10) (va_cwS 2 hts gf_c_X12_readItems_c_X12_spotOf rfl rfl rfl md_X12_spotOf ⟨Nat.le_of_ble_eq_true rfl, Nat.le_of_ble_eq_true rfl⟩) ⟨fun a U g mk q => by obtain ⟨q0, q1, qP, qK, qD, qE0, qE1, qE2, qE3, qE4, qE5⟩ := q; exact ⟨q0, q1, qP, va_K.moved (u := U) (U := U.calling g mk a) (Vm.Alike.refl U.vm) qK, qD, va_OF.moved (u := U) (U := U.calling g mk a) (Vm.Alike.refl U.vm) qE0, va_T.moved (u := U) (U := U.calling g mk a) (Vm.Alike.refl U.vm) qE1, va_Z.moved (u := U) (U := U.calling g mk a) (Vm.Alike.refl U.vm) qE2, va_OF.moved (u := U) (U := U.calling g mk a) (Vm.Alike.refl U.vm) qE3, va_O.moved (u := U) (U := U.calling g mk a) (Vm.Alike.refl U.vm) qE4, va_Zq.moved (u := U) (U := U.calling g mk a) (Vm.Alike.refl U.vm) qE5⟩, fun U hU hW => ⟨rfl, by rw [hU], by rw [hU]; exact hPc, va_K.moved hW.alike hKc, hDc.weaken (fun _ _ _ _ => trivial), va_OF.moved hW.alike (by rw [hU]; exact (hE_65.kept hS.2.1).narrow hFc), va_T.moved hW.alike (by rw [hU]; exact (hE_66.kept hS.2.1).narrow hFc), va_Z.moved hW.alike (by rw [hU]; exact (hE_10.kept hS.2.1).narrow hFc), va_OF.moved hW.alike (by rw [hU]; exact (hE_64.kept hS.2.1).narrow hFc), va_O.moved hW.alike (by rw [hU]; exact (hE_63.kept hS.2.1).narrow hFc), va_Zq.moved hW.alike (by rw [hU]; exact (hE_11.kept hS.2.1).narrow hFc)⟩⟩ rfl rfl hl.1 rfl (lv_room (Nat.le_of_ble_eq_true rfl)) dX12_readItems_130 ⟨Nat.le_of_ble_eq_true rfl, Nat.le_of_ble_eq_true rfl⟩) hS (fun q _ h => hFc q h) hFc (fun r_161 u t H1 locs ht hvm hw hB hz1 hk1 hS => ?_)
                obtain ⟨hP1, hK1, hD1⟩ := hB
                rw [ht] at hP1
                have hP := bv_still hP hk1
                generalize H1 = H at hP hS ⊢
                as_aux_lemma =>
                rcases hw with ⟨h_162, h_163⟩
                have h_163 : r_161 = _ := h_163
                replace hEX := hEX.trans (exc1_eq h_163)
                rw [h_162]
                refine lv_istore (lv' := [(6, .int (-1)), (5, .int x_110), (0, .ref h0), (1, .int p1), (2, .ref h2), (3, .int p3), (4, .ref ts10)]) hx hb dX12_readItems_133 hl (Nat.le_of_ble_eq_true rfl) rfl (fun ls hl => ?_)
                refine lv_goto (tgt := 45) hx hb dX12_readItems_135 rfl ?_
                exact hU _ _ _ (J45 x_110 x_147 w_141 g_h0_f10 g_h0_f17 g_h0_f26 g_h0_f27 g_h0_f28 g_h0_f29 g_h0_f30 g_h0_f31 g_h0_f34 g_h0_f41 g_h0_f51 g_h0_f53 g_h0_f6 g_h0_f7 g_h0_f8 (RG_w g_h0_f9 (by decide +kernel)) h_149 g_p1 g_p3 a_144 i_143 (by have := r_h0_f10_j45b_h0_f10; have := q_113; have := h_129; have := h_150; omega) hEX _ _ _ hP hD hS (lv_sub hl [0, 1, 2, 3, 4, 5, 6] rfl))
              · have h_160 : (r_146, x_147) = _ := h_160
                replace hEX := hEX.trans (exc2_eq h_160)
                replace hEX := hEX.trans (if_neg (RG_neq (x := r_146) (c := (-1)) (show RG r_146 0 255 from h_154) (by decide +kernel)))
                have nb_164 := h_159.2.resolve_left (fun q => by have g9 := h_154; rw [q] at g9; exact absurd g9.1 (by decide +kernel))
                obtain ⟨hPc, hDc, hFc, hqc⟩ := cl_cut (wc := []) hP hD hS hA [] (by decide +kernel) rfl
                have hKc := hK.sub (tys' := []) [] rfl
                refine va_calli (va_runS (As := [.ref ts10, .int r_146]) (rest := []) ⟨hx, hb, hml, hown, hts⟩ (c_X12_spotOf_1 l dC dI H.size ts10 r_146 tv10 h_154) (va_cwS 2 hts gf_c_X12_readItems_c_X12_spotOf_1 rfl rfl rfl md_X12_spotOf ⟨Nat.le_of_ble_eq_true rfl, Nat.le_of_ble_eq_true rfl⟩) ⟨fun a U g mk q => by obtain ⟨q0, q1, qP, qK, qD, qE0, qE1, qE2, qE3, qE4, qE5⟩ := q; exact ⟨q0, q1, qP, va_K.moved (u := U) (U := U.calling g mk a) (Vm.Alike.refl U.vm) qK, qD, va_OF.moved (u := U) (U := U.calling g mk a) (Vm.Alike.refl U.vm) qE0, va_T.moved (u := U) (U := U.calling g mk a) (Vm.Alike.refl U.vm) qE1, va_Z.moved (u := U) (U := U.calling g mk a) (Vm.Alike.refl U.vm) qE2, va_OF.moved (u := U) (U := U.calling g mk a) (Vm.Alike.refl U.vm) qE3, va_O.moved (u := U) (U := U.calling g mk a) (Vm.Alike.refl U.vm) qE4, va_Zq.moved (u := U) (U := U.calling g mk a) (Vm.Alike.refl U.vm) qE5⟩, fun U hU hW => ⟨rfl, by rw [hU], by rw [hU]; exact hPc, va_K.moved hW.alike hKc, hDc.weaken (fun _ _ _ _ => trivial), va_OF.moved hW.alike (by rw [hU]; exact (hE_65.kept hS.2.1).narrow hFc), va_T.moved hW.alike (by rw [hU]; exact (hE_66.kept hS.2.1).narrow hFc), va_Z.moved hW.alike (by rw [hU]; exact (hE_10.kept hS.2.1).narrow hFc), va_OF.moved hW.alike (by rw [hU]; exact (hE_64.kept hS.2.1).narrow hFc), va_O.moved hW.alike (by rw [hU]; exact (hE_63.kept hS.2.1).narrow hFc), va_Zq.moved hW.alike (by rw [hU]; exact (hE_11.kept hS.2.1).narrow hFc)⟩⟩ rfl rfl hl.1 rfl (lv_room (Nat.le_of_ble_eq_true rfl)) dX12_readItems_130 ⟨Nat.le_of_ble_eq_true rfl, Nat.le_of_ble_eq_true rfl⟩) hS (fun q _ h => hFc q h) hFc (fun r_165 u t H1 locs ht hvm hw hB hz1 hk1 hS => ?_)
                as_aux_lemma =>
                obtain ⟨hP1, hK1, hD1⟩ := hB
                rw [ht] at hP1
                have hP := bv_still hP hk1
                generalize H1 = H at hP hS ⊢
                as_aux_lemma =>
                rcases hw with ⟨h_166, h_167⟩ | ⟨h_168, h_169, h_170⟩ | ⟨h_171, h_172, h_173⟩ | ⟨h_174, h_175, h_176⟩ | ⟨h_177, h_178, h_179⟩
                · have h_167 : r_165 = _ := h_167
                  replace hEX := hEX.trans (exc1_eq h_167)
                  replace hEX := hEX.trans (if_pos (show r_165 = (-1) from h_166))
                  rw [h_166]
                  refine lv_istore (lv' := [(6, .int (-1)), (5, .int x_110), (0, .ref h0), (1, .int p1), (2, .ref h2), (3, .int p3), (4, .ref ts10)]) hx hb dX12_readItems_133 hl (Nat.le_of_ble_eq_true rfl) rfl (fun ls hl => ?_)
                  refine lv_goto (tgt := 45) hx hb dX12_readItems_135 rfl ?_
                  exact hU _ _ _ (J45 x_110 x_147 w_141 g_h0_f10 g_h0_f17 g_h0_f26 g_h0_f27 g_h0_f28 g_h0_f29 g_h0_f30 g_h0_f31 g_h0_f34 g_h0_f41 g_h0_f51 g_h0_f53 g_h0_f6 g_h0_f7 g_h0_f8 (RG_w g_h0_f9 (by decide +kernel)) (RG_w h_155 (by decide +kernel)) g_p1 g_p3 a_144 i_143 (by have := r_h0_f10_j45b_h0_f10; have := q_113; have := h_129; have := h_157; omega) hEX _ _ _ hP hD hS (lv_sub hl [0, 1, 2, 3, 4, 5, 6] rfl))
                · have h_170 : r_165 = _ := h_170
                  replace hEX := hEX.trans (exc1_eq h_170)
                  replace hEX := hEX.trans (if_neg (fun q9 : r_165 = (-1) => absurd ((show r_165 = 3 from h_168).symm.trans q9) (by decide +kernel)))
                  replace hEX := hEX.trans (if_pos (show r_165 = 3 from h_168))
                  rw [h_168]
                  refine lv_istore (lv' := [(6, .int 3), (5, .int x_110), (0, .ref h0), (1, .int p1), (2, .ref h2), (3, .int p3), (4, .ref ts10)]) hx hb dX12_readItems_133 hl (Nat.le_of_ble_eq_true rfl) rfl (fun ls hl => ?_)
                  as_aux_lemma =>
                  refine lv_goto (tgt := 45) hx hb dX12_readItems_135 rfl ?_
                  exact hU _ _ _ (ih45b 3 x_110 x_147 w_141 (mu_s (MU_lt (by have := q_113; have := h_129; have := h_157; omega)) hM45b) g_h0_f10 g_h0_f17 g_h0_f26 g_h0_f27 g_h0_f28 g_h0_f29 g_h0_f30 g_h0_f31 g_h0_f34 g_h0_f41 g_h0_f51 g_h0_f53 g_h0_f6 g_h0_f7 g_h0_f8 g_h0_f9 h_155 (RG_w (RG_k 3 3 rfl) (by decide +kernel)) g_p1 g_p3 a_144 i_143 (by have := r_h0_f10_j45b_h0_f10; have := q_113; have := h_129; have := h_157; omega) hEX _ _ _ hP hD hS (lv_sub hl [0, 1, 2, 3, 4, 5, 6] rfl))
                · have h_173 : r_165 = _ := h_173
                  replace hEX := hEX.trans (exc1_eq h_173)
                  replace hEX := hEX.trans (if_neg (fun q9 : r_165 = (-1) => absurd ((show r_165 = 2 from h_171).symm.trans q9) (by decide +kernel)))
                  replace hEX := hEX.trans (if_neg (fun q9 : r_165 = 3 => absurd ((show r_165 = 2 from h_171).symm.trans q9) (by decide +kernel)))
                  replace hEX := hEX.trans (if_pos (show r_165 = 2 from h_171))
                  rw [h_171]
                  refine lv_istore (lv' := [(6, .int 2), (5, .int x_110), (0, .ref h0), (1, .int p1), (2, .ref h2), (3, .int p3), (4, .ref ts10)]) hx hb dX12_readItems_133 hl (Nat.le_of_ble_eq_true rfl) rfl (fun ls hl => ?_)
                  refine lv_goto (tgt := 45) hx hb dX12_readItems_135 rfl ?_
                  exact hU _ _ _ (ih45b 2 x_110 x_147 w_141 (mu_s (MU_lt (by have := q_113; have := h_129; have := h_157; omega)) hM45b) g_h0_f10 g_h0_f17 g_h0_f26 g_h0_f27 g_h0_f28 g_h0_f29 g_h0_f30 g_h0_f31 g_h0_f34 g_h0_f41 g_h0_f51 g_h0_f53 g_h0_f6 g_h0_f7 g_h0_f8 g_h0_f9 h_155 (RG_w (RG_k 2 2 rfl) (by decide +kernel)) g_p1 g_p3 a_144 i_143 (by have := r_h0_f10_j45b_h0_f10; have := q_113; have := h_129; have := h_157; omega) hEX _ _ _ hP hD hS (lv_sub hl [0, 1, 2, 3, 4, 5, 6] rfl))
                · have h_176 : r_165 = _ := h_176
                  replace hEX := hEX.trans (exc1_eq h_176)
                  replace hEX := hEX.trans (if_neg (fun q9 : r_165 = (-1) => absurd ((show r_165 = 1 from h_174).symm.trans q9) (by decide +kernel)))
                  replace hEX := hEX.trans (if_neg (fun q9 : r_165 = 3 => absurd ((show r_165 = 1 from h_174).symm.trans q9) (by decide +kernel)))
                  replace hEX := hEX.trans (if_neg (fun q9 : r_165 = 2 => absurd ((show r_165 = 1 from h_174).symm.trans q9) (by decide +kernel)))
                  replace hEX := hEX.trans (if_pos (show r_165 = 1 from h_174))
                  rw [h_174]
                  refine lv_istore (lv' := [(6, .int 1), (5, .int x_110), (0, .ref h0), (1, .int p1), (2, .ref h2), (3, .int p3), (4, .ref ts10)]) hx hb dX12_readItems_133 hl (Nat.le_of_ble_eq_true rfl) rfl (fun ls hl => ?_)
                  as_aux_lemma =>
                  refine lv_goto (tgt := 45) hx hb dX12_readItems_135 rfl ?_
                  exact hU _ _ _ (ih45b 1 x_110 x_147 w_141 (mu_s (MU_lt (by have := q_113; have := h_129; have := h_157; omega)) hM45b) g_h0_f10 g_h0_f17 g_h0_f26 g_h0_f27 g_h0_f28 g_h0_f29 g_h0_f30 g_h0_f31 g_h0_f34 g_h0_f41 g_h0_f51 g_h0_f53 g_h0_f6 g_h0_f7 g_h0_f8 g_h0_f9 h_155 (RG_w (RG_k 1 1 rfl) (by decide +kernel)) g_p1 g_p3 a_144 i_143 (by have := r_h0_f10_j45b_h0_f10; have := q_113; have := h_129; have := h_157; omega) hEX _ _ _ hP hD hS (lv_sub hl [0, 1, 2, 3, 4, 5, 6] rfl))
                · have h_179 : r_165 = _ := h_179
                  replace hEX := hEX.trans (exc1_eq h_179)
                  replace hEX := hEX.trans (if_neg (fun q9 : r_165 = (-1) => absurd ((show r_165 = 0 from h_177).symm.trans q9) (by decide +kernel)))
                  replace hEX := hEX.trans (if_neg (fun q9 : r_165 = 3 => absurd ((show r_165 = 0 from h_177).symm.trans q9) (by decide +kernel)))
                  replace hEX := hEX.trans (if_neg (fun q9 : r_165 = 2 => absurd ((show r_165 = 0 from h_177).symm.trans q9) (by decide +kernel)))
                  replace hEX := hEX.trans (if_neg (fun q9 : r_165 = 1 => absurd ((show r_165 = 0 from h_177).symm.trans q9) (by decide +kernel)))
                  rw [h_177]
                  refine lv_istore (lv' := [(6, .int 0), (5, .int x_110), (0, .ref h0), (1, .int p1), (2, .ref h2), (3, .int p3), (4, .ref ts10)]) hx hb dX12_readItems_133 hl (Nat.le_of_ble_eq_true rfl) rfl (fun ls hl => ?_)
                  refine lv_goto (tgt := 45) hx hb dX12_readItems_135 rfl ?_
                  exact hU _ _ _ (ih45b 0 x_110 x_147 w_141 (mu_s (MU_lt (by have := q_113; have := h_129; have := h_157; omega)) hM45b) g_h0_f10 g_h0_f17 g_h0_f26 g_h0_f27 g_h0_f28 g_h0_f29 g_h0_f30 g_h0_f31 g_h0_f34 g_h0_f41 g_h0_f51 g_h0_f53 g_h0_f6 g_h0_f7 g_h0_f8 g_h0_f9 h_155 (RG_w (RG_k 0 0 rfl) (by decide +kernel)) g_p1 g_p3 a_144 i_143 (by have := r_h0_f10_j45b_h0_f10; have := q_113; have := h_129; have := h_157; omega) hEX _ _ _ hP hD hS (lv_sub hl [0, 1, 2, 3, 4, 5, 6] rfl))
            · have h_135 : (r_122, x_123, x_124) = _ := h_135
              replace hEX := hEX.trans (exc3_eq h_135)
              replace hEX := hEX.trans (if_neg (RG_neq (x := x_124) (c := (-1)) (show RG x_124 0 240 from h_133) (by decide +kernel)))
              replace hEX := hEX.trans (if_pos (show r_122 = 0 from h_131))
              rw [h_131]
              have h_134 : x_111.toInt + 0 ≤ x_123.toInt := h_134
              refine va_iast hx hb hK hP hD hS 1 0 rfl rfl (RG_in g_115 (by decide +kernel)) dX12_readItems_115 (fun H locs hP hD hS => ?_)
              as_aux_lemma =>
              have hP : va_P (dC, dI) vwCl (wd_c_X12_readItems h0 h0_f0 h0_1 h0_2 h0_3 h0_4 h0_5 h0_f6 h0_f7 h0_f8 h0_f9 x_123 x_124 h0_f12 h0_f13 h0_f14 h0_15 h0_16 h0_f17 h0_18 h0_19 h0_20 h0_21 h0_22 h0_23 h0_24 h0_25 h0_f26 h0_f27 h0_f28 h0_f29 h0_f30 h0_f31 h0_32 h0_33 h0_f34 h0_35 h0_36 h0_37 h0_38 h0_39 h0_40 h0_f41 h0_f42 h0_f43 h0_f44 h0_45 h0_46 h0_47 h0_48 h0_49 h0_50 h0_f51 h0_52 h0_f53 h2 h2k (upd j45b_h2c (x_114 : Int32).toNatClampNeg 0) h0_5 h0_5k tN h0_5c) H := hP
              have hD : va_D A (wd_c_X12_readItems h0 h0_f0 h0_1 h0_2 h0_3 h0_4 h0_5 h0_f6 h0_f7 h0_f8 h0_f9 x_123 x_124 h0_f12 h0_f13 h0_f14 h0_15 h0_16 h0_f17 h0_18 h0_19 h0_20 h0_21 h0_22 h0_23 h0_24 h0_25 h0_f26 h0_f27 h0_f28 h0_f29 h0_f30 h0_f31 h0_32 h0_33 h0_f34 h0_35 h0_36 h0_37 h0_38 h0_39 h0_40 h0_f41 h0_f42 h0_f43 h0_f44 h0_45 h0_46 h0_47 h0_48 h0_49 h0_50 h0_f51 h0_52 h0_f53 h2 h2k (upd j45b_h2c (x_114 : Int32).toNatClampNeg 0) h0_5 h0_5k tN h0_5c) := hD
              have l_181 : (upd j45b_h2c (x_114 : Int32).toNatClampNeg 0) (x_114 : Int32).toNatClampNeg = 0 := pk_us
              have i_182 : BOi (p3.toInt + 4) (upd j45b_h2c (x_114 : Int32).toNatClampNeg 0) := BOi_keep i_45b_h2 g_115 (by decide +kernel) (Or.inr (Or.inl (by have := hrow; have := eq_add ex_114 g_p3 (q := 1) rfl (by decide +kernel); omega)))
              have a_183 : AI (upd j45b_h2c (x_114 : Int32).toNatClampNeg 0) 0 99 := AI_up a_j45b_h2c (RG_k 0 0 rfl) (by decide +kernel)
              generalize huw_180 : (upd j45b_h2c (x_114 : Int32).toNatClampNeg 0) = w_180 at hP hD a_183 l_181 i_182
              replace hEX := hEX.trans (exl_eq huw_180.symm)
              have hP : va_P (dC, dI) vwCl (wd_c_X12_readItems h0 h0_f0 h0_1 h0_2 h0_3 h0_4 h0_5 h0_f6 h0_f7 h0_f8 h0_f9 x_123 x_124 h0_f12 h0_f13 h0_f14 h0_15 h0_16 h0_f17 h0_18 h0_19 h0_20 h0_21 h0_22 h0_23 h0_24 h0_25 h0_f26 h0_f27 h0_f28 h0_f29 h0_f30 h0_f31 h0_32 h0_33 h0_f34 h0_35 h0_36 h0_37 h0_38 h0_39 h0_40 h0_f41 h0_f42 h0_f43 h0_f44 h0_45 h0_46 h0_47 h0_48 h0_49 h0_50 h0_f51 h0_52 h0_f53 h2 h2k w_180 h0_5 h0_5k tN h0_5c) H := hP
              have hD : va_D A (wd_c_X12_readItems h0 h0_f0 h0_1 h0_2 h0_3 h0_4 h0_5 h0_f6 h0_f7 h0_f8 h0_f9 x_123 x_124 h0_f12 h0_f13 h0_f14 h0_15 h0_16 h0_f17 h0_18 h0_19 h0_20 h0_21 h0_22 h0_23 h0_24 h0_25 h0_f26 h0_f27 h0_f28 h0_f29 h0_f30 h0_f31 h0_32 h0_33 h0_f34 h0_35 h0_36 h0_37 h0_38 h0_39 h0_40 h0_f41 h0_f42 h0_f43 h0_f44 h0_45 h0_46 h0_47 h0_48 h0_49 h0_50 h0_f51 h0_52 h0_f53 h2 h2k w_180 h0_5 h0_5k tN h0_5c) := hD
              refine lv_aload_n hx hb dX12_readItems_116 rfl (lv_at hl 2 rfl) ?_
              refine va_get (D := (dC, dI)) (ci := 12) (v := .int x_124) (C := RX12) (T := TX12) (N := 54) hx hb hts iw_c_X12_readItems_X12 hown hK hP 0 rfl rfl 11 (by decide +kernel) (hts (.fieldLink RX12 143 "BuoyVoteModel" "fault" "I") (List.mem_of_getElem? (i := 48) rfl)) (fun _ h9 => h9) rfl dX12_readItems_117 ?_
              refine lv_iconst (v := (-1)) hx hb dX12_readItems_120 kc_iconst_m1 ?_
              refine lv_icmp_ne (tgt := 45) hx hb dX12_readItems_121 rfl (fun c_184 => ?_) (fun c_184 => ?_)
              · replace hEX := hEX.trans (if_neg c_184)
                exact hU _ _ _ (J45c x_110 1 x_123 x_124 w_180 g_h0_f10 g_h0_f17 g_h0_f26 g_h0_f27 g_h0_f28 g_h0_f29 g_h0_f30 g_h0_f31 g_h0_f34 g_h0_f41 g_h0_f51 g_h0_f53 g_h0_f6 g_h0_f7 g_h0_f8 g_h0_f9 h_132 h_133 (RG_w (RG_k 1 1 rfl) (by decide +kernel)) g_p1 g_p3 a_183 hEX _ _ _ hP hD hS (lv_sub hl [0, 1, 2, 3, 4, 5, 6] rfl))
              · replace hEX := hEX.trans (if_pos c_184)
                exact RG_dead (RG_eq1 h_133 (RG_k (-1) (-1) rfl) c_184 (a' := 0) (b' := (-1)) (by decide +kernel)) (by decide +kernel)
            · have h_140 : (r_122, x_123, x_124) = _ := h_140
              replace hEX := hEX.trans (exc3_eq h_140)
              replace hEX := hEX.trans (if_neg (RG_neq (x := x_124) (c := (-1)) (show RG x_124 0 239 from h_138) (by decide +kernel)))
              replace hEX := hEX.trans (if_neg (RG_neq (x := r_122) (c := 0) (show RG r_122 10 99 from h_136) (by decide +kernel)))
              refine va_iast hx hb hK hP hD hS 1 0 rfl rfl (RG_in g_115 (by decide +kernel)) dX12_readItems_115 (fun H locs hP hD hS => ?_)
              as_aux_lemma =>
              have hP : va_P (dC, dI) vwCl (wd_c_X12_readItems h0 h0_f0 h0_1 h0_2 h0_3 h0_4 h0_5 h0_f6 h0_f7 h0_f8 h0_f9 x_123 x_124 h0_f12 h0_f13 h0_f14 h0_15 h0_16 h0_f17 h0_18 h0_19 h0_20 h0_21 h0_22 h0_23 h0_24 h0_25 h0_f26 h0_f27 h0_f28 h0_f29 h0_f30 h0_f31 h0_32 h0_33 h0_f34 h0_35 h0_36 h0_37 h0_38 h0_39 h0_40 h0_f41 h0_f42 h0_f43 h0_f44 h0_45 h0_46 h0_47 h0_48 h0_49 h0_50 h0_f51 h0_52 h0_f53 h2 h2k (upd j45b_h2c (x_114 : Int32).toNatClampNeg r_122) h0_5 h0_5k tN h0_5c) H := hP
              have hD : va_D A (wd_c_X12_readItems h0 h0_f0 h0_1 h0_2 h0_3 h0_4 h0_5 h0_f6 h0_f7 h0_f8 h0_f9 x_123 x_124 h0_f12 h0_f13 h0_f14 h0_15 h0_16 h0_f17 h0_18 h0_19 h0_20 h0_21 h0_22 h0_23 h0_24 h0_25 h0_f26 h0_f27 h0_f28 h0_f29 h0_f30 h0_f31 h0_32 h0_33 h0_f34 h0_35 h0_36 h0_37 h0_38 h0_39 h0_40 h0_f41 h0_f42 h0_f43 h0_f44 h0_45 h0_46 h0_47 h0_48 h0_49 h0_50 h0_f51 h0_52 h0_f53 h2 h2k (upd j45b_h2c (x_114 : Int32).toNatClampNeg r_122) h0_5 h0_5k tN h0_5c) := hD
              have l_186 : (upd j45b_h2c (x_114 : Int32).toNatClampNeg r_122) (x_114 : Int32).toNatClampNeg = r_122 := pk_us
              have i_187 : BOi (p3.toInt + 4) (upd j45b_h2c (x_114 : Int32).toNatClampNeg r_122) := BOi_keep i_45b_h2 g_115 (by decide +kernel) (Or.inl (RG_w h_136 (by decide +kernel)))
              have a_188 : AI (upd j45b_h2c (x_114 : Int32).toNatClampNeg r_122) 0 99 := AI_up a_j45b_h2c h_136 (by decide +kernel)
              generalize huw_185 : (upd j45b_h2c (x_114 : Int32).toNatClampNeg r_122) = w_185 at hP hD a_188 l_186 i_187
              replace hEX := hEX.trans (exl_eq huw_185.symm)
              have hP : va_P (dC, dI) vwCl (wd_c_X12_readItems h0 h0_f0 h0_1 h0_2 h0_3 h0_4 h0_5 h0_f6 h0_f7 h0_f8 h0_f9 x_123 x_124 h0_f12 h0_f13 h0_f14 h0_15 h0_16 h0_f17 h0_18 h0_19 h0_20 h0_21 h0_22 h0_23 h0_24 h0_25 h0_f26 h0_f27 h0_f28 h0_f29 h0_f30 h0_f31 h0_32 h0_33 h0_f34 h0_35 h0_36 h0_37 h0_38 h0_39 h0_40 h0_f41 h0_f42 h0_f43 h0_f44 h0_45 h0_46 h0_47 h0_48 h0_49 h0_50 h0_f51 h0_52 h0_f53 h2 h2k w_185 h0_5 h0_5k tN h0_5c) H := hP
              have hD : va_D A (wd_c_X12_readItems h0 h0_f0 h0_1 h0_2 h0_3 h0_4 h0_5 h0_f6 h0_f7 h0_f8 h0_f9 x_123 x_124 h0_f12 h0_f13 h0_f14 h0_15 h0_16 h0_f17 h0_18 h0_19 h0_20 h0_21 h0_22 h0_23 h0_24 h0_25 h0_f26 h0_f27 h0_f28 h0_f29 h0_f30 h0_f31 h0_32 h0_33 h0_f34 h0_35 h0_36 h0_37 h0_38 h0_39 h0_40 h0_f41 h0_f42 h0_f43 h0_f44 h0_45 h0_46 h0_47 h0_48 h0_49 h0_50 h0_f51 h0_52 h0_f53 h2 h2k w_185 h0_5 h0_5k tN h0_5c) := hD
              refine lv_aload_n hx hb dX12_readItems_116 rfl (lv_at hl 2 rfl) ?_
              refine va_get (D := (dC, dI)) (ci := 12) (v := .int x_124) (C := RX12) (T := TX12) (N := 54) hx hb hts iw_c_X12_readItems_X12 hown hK hP 0 rfl rfl 11 (by decide +kernel) (hts (.fieldLink RX12 143 "BuoyVoteModel" "fault" "I") (List.mem_of_getElem? (i := 48) rfl)) (fun _ h9 => h9) rfl dX12_readItems_117 ?_
              refine lv_iconst (v := (-1)) hx hb dX12_readItems_120 kc_iconst_m1 ?_
              refine lv_icmp_ne (tgt := 45) hx hb dX12_readItems_121 rfl (fun c_189 => ?_) (fun c_189 => ?_)
              · replace hEX := hEX.trans (if_neg c_189)
                exact hU _ _ _ (J45c x_110 1 x_123 x_124 w_185 g_h0_f10 g_h0_f17 g_h0_f26 g_h0_f27 g_h0_f28 g_h0_f29 g_h0_f30 g_h0_f31 g_h0_f34 g_h0_f41 g_h0_f51 g_h0_f53 g_h0_f6 g_h0_f7 g_h0_f8 g_h0_f9 (RG_w h_137 (by decide +kernel)) (RG_w h_138 (by decide +kernel)) (RG_w (RG_k 1 1 rfl) (by decide +kernel)) g_p1 g_p3 a_188 hEX _ _ _ hP hD hS (lv_sub hl [0, 1, 2, 3, 4, 5, 6] rfl))
              · replace hEX := hEX.trans (if_pos c_189)
                exact RG_dead (RG_eq1 h_138 (RG_k (-1) (-1) rfl) c_189 (a' := 0) (b' := (-1)) (by decide +kernel)) (by decide +kernel)
          · have h_107 : r_101 = _ := h_107
            replace hEX := hEX.trans (exc1_eq h_107)
            replace hEX := hEX.trans (if_neg (fun q9 : r_101 = 0 => absurd ((show r_101 = 1 from h_105).symm.trans q9) (by decide +kernel)))
            rw [h_105]
            refine lv_if_eq (tgt := 75) hx hb dX12_readItems_66 rfl (fun c_190 => absurd c_190 (by decide +kernel)) (fun c_190 => ?_)
            as_aux_lemma =>
            refine lv_aload_n hx hb dX12_readItems_69 rfl (lv_at hl 2 rfl) ?_
            obtain ⟨hPc, hDc, hFc, hqc⟩ := cl_cut (wc := (wd_c_X12_fails h0 h0_f0 h0_1 h0_2 h0_3 h0_4 h0_5 h0_f6 h0_f7 h0_f8 h0_f9 j45b_h0_f10 (-1) h0_f12 h0_f13 h0_f14 h0_15 h0_16 h0_f17 h0_18 h0_19 h0_20 h0_21 h0_22 h0_23 h0_24 h0_25 h0_f26 h0_f27 h0_f28 h0_f29 h0_f30 h0_f31 h0_32 h0_33 h0_f34 h0_35 h0_36 h0_37 h0_38 h0_39 h0_40 h0_f41 h0_f42 h0_f43 h0_f44 h0_45 h0_46 h0_47 h0_48 h0_49 h0_50 h0_f51 h0_52 h0_f53)) hP hD hS hA [0] (by decide +kernel) rfl
            have hKc := hK.sub (tys' := []) [] rfl
            have hrv := va_recv hKc hPc (ci := 12) (q0 := 0) rfl rfl
            refine va_calli (va_runV (As := []) (rest := []) ⟨hx, hb, hml, hown, hts⟩ (c_X12_fails l dC dI H.size h0 h0_f0 h0_1 h0_2 h0_3 h0_4 h0_5 h0_f6 h0_f7 h0_f8 h0_f9 j45b_h0_f10 h0_f12 h0_f13 h0_f14 h0_15 h0_16 h0_f17 h0_18 h0_19 h0_20 h0_21 h0_22 h0_23 h0_24 h0_25 h0_f26 h0_f27 h0_f28 h0_f29 h0_f30 h0_f31 h0_32 h0_33 h0_f34 h0_35 h0_36 h0_37 h0_38 h0_39 h0_40 h0_f41 h0_f42 h0_f43 h0_f44 h0_45 h0_46 h0_47 h0_48 h0_49 h0_50 h0_f51 h0_52 h0_f53 g_h0_f6 g_h0_f7 g_h0_f8 (RG_w g_h0_f9 (by decide +kernel)) (RG_w g_j45b_h0_f10 (by decide +kernel)) g_h0_f17 g_h0_f26 g_h0_f27 g_h0_f28 g_h0_f29 g_h0_f30 g_h0_f31 g_h0_f34 g_h0_f41 g_h0_f51 g_h0_f53) (cwV 0 hts gf_c_X12_readItems_c_X12_fails rfl rfl rfl mdV_X12_fails ⟨Nat.le_of_ble_eq_true rfl, Nat.le_of_ble_eq_true rfl⟩) ⟨fun a U g mk q => by obtain ⟨q0, q1, qP, qK, qD⟩ := q; exact ⟨q0, q1, qP, va_K.moved (u := U) (U := U.calling g mk a) (Vm.Alike.refl U.vm) qK, qD⟩, hrv, fun U hU hW => ⟨rfl, by rw [hU], by rw [hU]; exact hPc, va_K.moved hW.alike hKc, hDc.weaken (fun _ _ _ _ => trivial)⟩⟩ rfl rfl hl.1 rfl (lv_room (Nat.le_of_ble_eq_true rfl)) dX12_readItems_70 ⟨Nat.le_of_ble_eq_true rfl, Nat.le_of_ble_eq_true rfl⟩) hS (fun q _ h => hFc q h) hFc (fun r_191 u t H1 locs ht hvm hw hB hz1 hk1 hS => ?_)
            obtain ⟨hP1, hK1, hD1⟩ := hB
            rw [ht] at hP1
            obtain ⟨hP, hD⟩ := cl_put (w1 := (wd_c_X12_fails h0 h0_f0 h0_1 h0_2 h0_3 h0_4 h0_5 h0_f6 h0_f7 h0_f8 h0_f9 j45b_h0_f10 j45b_h0_f10 h0_f12 h0_f13 h0_f14 h0_15 h0_16 h0_f17 h0_18 h0_19 h0_20 h0_21 h0_22 h0_23 h0_24 h0_25 h0_f26 h0_f27 h0_f28 h0_f29 h0_f30 h0_f31 h0_32 h0_33 h0_f34 h0_35 h0_36 h0_37 h0_38 h0_39 h0_40 h0_f41 h0_f42 h0_f43 h0_f44 h0_45 h0_46 h0_47 h0_48 h0_49 h0_50 h0_f51 h0_52 h0_f53)) (nw := (wd_c_X12_readItems h0 h0_f0 h0_1 h0_2 h0_3 h0_4 h0_5 h0_f6 h0_f7 h0_f8 h0_f9 j45b_h0_f10 j45b_h0_f10 h0_f12 h0_f13 h0_f14 h0_15 h0_16 h0_f17 h0_18 h0_19 h0_20 h0_21 h0_22 h0_23 h0_24 h0_25 h0_f26 h0_f27 h0_f28 h0_f29 h0_f30 h0_f31 h0_32 h0_33 h0_f34 h0_35 h0_36 h0_37 h0_38 h0_39 h0_40 h0_f41 h0_f42 h0_f43 h0_f44 h0_45 h0_46 h0_47 h0_48 h0_49 h0_50 h0_f51 h0_52 h0_f53 h2 h2k j45b_h2c h0_5 h0_5k tN h0_5c)) hP hD [0] [3, 1, 2] 3 rfl hqc (by decide +kernel) rfl hk1 hFc hP1 hD1
            generalize H1 = H at hP hS ⊢
            as_aux_lemma =>
            rcases hw with ⟨h_192, h_193⟩
            have h_193 : r_191 = _ := h_193
            replace hEX := hEX.trans (exc1_eq h_193)
            rw [h_192]
            refine lv_pop hx hb dX12_readItems_73 rfl ?_
            have hK9 := hK.sub (tys' := []) [] rfl
            exact W.vret hx hb hr (fun t ht hW => ⟨⟨(j45b_h0_f10, j45b_h0_f10, j45b_h2c), rfl, (Or.inr ⟨(RG_w g_j45b_h0_f10 (by decide +kernel)), (RG_w g_j45b_h0_f10 (by decide +kernel)), a_j45b_h2c, g_h0_f9, (hR.trans hEX).symm⟩), by rw [ht]; exact hP, va_K.moved hW.alike hK9, hD⟩, hS.F ht⟩) hS.2.2 dX12_readItems_74
        replace hEX := hEX.trans (if_neg c_100)
        by_cases c_194 : j45b_l6 = 2
        · replace hEX := hEX.trans (if_pos c_194)
          subst c_194
          refine lv_iload hx hb dX12_readItems_59 (lv_at hl 1 rfl) ?_
          refine lv_iload hx hb dX12_readItems_61 (lv_at hl 0 rfl) ?_
          obtain ⟨hPc, hDc, hFc, hqc⟩ := cl_cut (wc := []) hP hD hS hA [] (by decide +kernel) rfl
          have hKc := hK.sub (tys' := []) [] rfl
          refine va_calli (va_runS (As := [.int j45b_l5, .int 2]) (rest := []) ⟨hx, hb, hml, hown, hts⟩ (c_X12_has_2 l dC dI H.size j45b_l5 2 (RG_w (RG_k 2 2 rfl) (by decide +kernel))) (va_cwS 2 hts gf_c_X12_readItems_c_X12_has_2 rfl rfl rfl md_X12_has ⟨Nat.le_of_ble_eq_true rfl, Nat.le_of_ble_eq_true rfl⟩) ⟨fun a U g mk q => by obtain ⟨q0, q1, qP, qK, qD⟩ := q; exact ⟨q0, q1, qP, va_K.moved (u := U) (U := U.calling g mk a) (Vm.Alike.refl U.vm) qK, qD⟩, fun U hU hW => ⟨rfl, by rw [hU], by rw [hU]; exact hPc, va_K.moved hW.alike hKc, hDc.weaken (fun _ _ _ _ => trivial)⟩⟩ rfl rfl hl.1 rfl (lv_room (Nat.le_of_ble_eq_true rfl)) dX12_readItems_63 ⟨Nat.le_of_ble_eq_true rfl, Nat.le_of_ble_eq_true rfl⟩) hS (fun q _ h => hFc q h) hFc (fun r_195 u t H1 locs ht hvm hw hB hz1 hk1 hS => ?_)
          as_aux_lemma =>
          obtain ⟨hP1, hK1, hD1⟩ := hB
          rw [ht] at hP1
          have hP := bv_still hP hk1
          generalize H1 = H at hP hS ⊢
          as_aux_lemma =>
          rcases hw with ⟨h_196, h_197, h_198⟩ | ⟨h_199, h_200, h_201⟩
          · have h_198 : r_195 = _ := h_198
            replace hEX := hEX.trans (exc1_eq h_198)
            replace hEX := hEX.trans (if_pos (show r_195 = 0 from h_196))
            rw [h_196]
            refine lv_if_eq (tgt := 75) hx hb dX12_readItems_66 rfl (fun c_202 => ?_) (fun c_202 => absurd c_202 (by decide +kernel))
            refine lv_iload hx hb dX12_readItems_75 (lv_at hl 1 rfl) ?_
            refine lv_iconst (v := 1) hx hb dX12_readItems_77 kc_iconst_1 ?_
            refine lv_iload hx hb dX12_readItems_78 (lv_at hl 0 rfl) ?_
            refine lv_ishl hx hb dX12_readItems_80 ?_
            refine lv_topi (fun x_203 ex_203 => ?_)
            obtain rfl : x_203 = 4 := ex_203.trans (by decide +kernel)
            refine lv_ior hx hb dX12_readItems_81 ?_
            refine lv_topi (fun x_204 ex_204 => ?_)
            as_aux_lemma =>
            replace hEX := hEX.trans (exl_eq ex_204)
            refine lv_istore (lv' := [(5, .int x_204), (6, .int 2), (0, .ref h0), (1, .int p1), (2, .ref h2), (3, .int p3), (4, .ref ts10)]) hx hb dX12_readItems_82 hl (Nat.le_of_ble_eq_true rfl) rfl (fun ls hl => ?_)
            refine lv_aload_n hx hb dX12_readItems_84 rfl (lv_at hl 2 rfl) ?_
            refine lv_dup hx hb dX12_readItems_85 rfl ?_
            refine va_get (D := (dC, dI)) (ci := 12) (v := .int j45b_h0_f10) (C := RX12) (T := TX12) (N := 54) hx hb hts iw_c_X12_readItems_X12 hown hK hP 0 rfl rfl 10 (by decide +kernel) (hts (.fieldLink RX12 134 "BuoyVoteModel" "at" "I") (List.mem_of_getElem? (i := 21) rfl)) (fun _ h9 => h9) rfl dX12_readItems_86 ?_
            refine lv_iconst (v := 1) hx hb dX12_readItems_89 kc_iconst_1 ?_
            refine lv_iadd hx hb dX12_readItems_90 ?_
            refine lv_topi (fun x_205 ex_205 => ?_)
            replace hEX := hEX.trans (exl_eq ex_205)
            have g_206 : RG x_205 1 240 := RG_add ex_205 g_j45b_h0_f10 (RG_k 1 1 rfl) (by decide +kernel)
            have q_207 : x_205.toInt = j45b_h0_f10.toInt + 1 := eq_add ex_205 g_j45b_h0_f10 (q := 1) rfl (by decide +kernel)
            refine va_put (D := (dC, dI)) (ci := 12) (v := .int x_205) (ty := .int) (C := RX12) (T := TX12) (N := 54) hx hb hts iw_c_X12_readItems_X12 tyX12 tyX12_ok nmX12 hown hK hP hD hS 0 rfl rfl 10 (by decide +kernel) (hts (.fieldLink RX12 134 "BuoyVoteModel" "at" "I") (List.mem_of_getElem? (i := 21) rfl)) (fun _ h9 => h9) rfl (by decide +kernel) rfl rfl (Nat.le_of_ble_eq_true rfl) dX12_readItems_91 (fun H locs hP hD hS => ?_)
            have hP : va_P (dC, dI) vwCl (wd_c_X12_readItems h0 h0_f0 h0_1 h0_2 h0_3 h0_4 h0_5 h0_f6 h0_f7 h0_f8 h0_f9 x_205 (-1) h0_f12 h0_f13 h0_f14 h0_15 h0_16 h0_f17 h0_18 h0_19 h0_20 h0_21 h0_22 h0_23 h0_24 h0_25 h0_f26 h0_f27 h0_f28 h0_f29 h0_f30 h0_f31 h0_32 h0_33 h0_f34 h0_35 h0_36 h0_37 h0_38 h0_39 h0_40 h0_f41 h0_f42 h0_f43 h0_f44 h0_45 h0_46 h0_47 h0_48 h0_49 h0_50 h0_f51 h0_52 h0_f53 h2 h2k j45b_h2c h0_5 h0_5k tN h0_5c) H := hP
            have hD : va_D A (wd_c_X12_readItems h0 h0_f0 h0_1 h0_2 h0_3 h0_4 h0_5 h0_f6 h0_f7 h0_f8 h0_f9 x_205 (-1) h0_f12 h0_f13 h0_f14 h0_15 h0_16 h0_f17 h0_18 h0_19 h0_20 h0_21 h0_22 h0_23 h0_24 h0_25 h0_f26 h0_f27 h0_f28 h0_f29 h0_f30 h0_f31 h0_32 h0_33 h0_f34 h0_35 h0_36 h0_37 h0_38 h0_39 h0_40 h0_f41 h0_f42 h0_f43 h0_f44 h0_45 h0_46 h0_47 h0_48 h0_49 h0_50 h0_f51 h0_52 h0_f53 h2 h2k j45b_h2c h0_5 h0_5k tN h0_5c) := hD
            refine lv_aload_n hx hb dX12_readItems_94 rfl (lv_at hl 4 rfl) ?_
            as_aux_lemma =>
            refine lv_iload_n hx hb dX12_readItems_95 rfl (lv_at hl 5 rfl) ?_
            refine lv_iload hx hb dX12_readItems_96 (lv_at hl 1 rfl) ?_
            refine lv_iadd hx hb dX12_readItems_98 ?_
            refine lv_topi (fun x_208 ex_208 => ?_)
            replace hEX := hEX.trans (exl_eq ex_208)
            have g_209 : RG x_208 2 10 := RG_add ex_208 g_p3 (RG_k 2 2 rfl) (by decide +kernel)
            refine lv_aload_n hx hb dX12_readItems_99 rfl (lv_at hl 2 rfl) ?_
            refine lv_iload_n hx hb dX12_readItems_100 rfl (lv_at hl 3 rfl) ?_
            refine lv_iload hx hb dX12_readItems_101 (lv_at hl 1 rfl) ?_
            obtain ⟨hPc, hDc, hFc, hqc⟩ := cl_cut (wc := []) hP hD hS hA [] (by decide +kernel) rfl
            have hKc := hK.sub (tys' := []) [] rfl
            refine va_calli (va_runS (As := [.int p1, .int 2]) (rest := [.ref h0, .int x_208, .ref h2]) ⟨hx, hb, hml, hown, hts⟩ (c_X12_leastOf_2 l dC dI H.size p1 2 g_p1 (RG_w (RG_k 2 2 rfl) (by decide +kernel))) (va_cwS 2 hts gf_c_X12_readItems_c_X12_leastOf_2 rfl rfl rfl md_X12_leastOf ⟨Nat.le_of_ble_eq_true rfl, Nat.le_of_ble_eq_true rfl⟩) ⟨fun a U g mk q => by obtain ⟨q0, q1, qP, qK, qD⟩ := q; exact ⟨q0, q1, qP, va_K.moved (u := U) (U := U.calling g mk a) (Vm.Alike.refl U.vm) qK, qD⟩, fun U hU hW => ⟨rfl, by rw [hU], by rw [hU]; exact hPc, va_K.moved hW.alike hKc, hDc.weaken (fun _ _ _ _ => trivial)⟩⟩ rfl rfl hl.1 rfl (lv_room (Nat.le_of_ble_eq_true rfl)) dX12_readItems_103 ⟨Nat.le_of_ble_eq_true rfl, Nat.le_of_ble_eq_true rfl⟩) hS (fun q _ h => hFc q h) hFc (fun r_210 u t H1 locs ht hvm hw hB hz1 hk1 hS => ?_)
            obtain ⟨hP1, hK1, hD1⟩ := hB
            rw [ht] at hP1
            have hP := bv_still hP hk1
            generalize H1 = H at hP hS ⊢
            as_aux_lemma =>
            rcases hw with ⟨h_211, h_212, h_213⟩ | ⟨h_214, h_215, h_216⟩
            · have h_213 : r_210 = _ := h_213
              replace hEX := hEX.trans (exc1_eq h_213)
              replace hEX := hEX.trans (if_pos (show r_210 = 0 from h_211))
              rw [h_211]
              exact RG_dead (RG_eq1 (RG_k 2 2 rfl) h_212 rfl (a' := 2) (b' := 1) (by decide +kernel)) (by decide +kernel)
            · have h_216 : r_210 = _ := h_216
              replace hEX := hEX.trans (exc1_eq h_216)
              replace hEX := hEX.trans (if_neg (fun q9 : r_210 = 0 => absurd ((show r_210 = 1 from h_214).symm.trans q9) (by decide +kernel)))
              rw [h_214]
              refine lv_iload_n hx hb dX12_readItems_106 rfl (lv_at hl 3 rfl) ?_
              refine lv_iload hx hb dX12_readItems_107 (lv_at hl 1 rfl) ?_
              obtain ⟨hPc, hDc, hFc, hqc⟩ := cl_cut (wc := []) hP hD hS hA [] (by decide +kernel) rfl
              have hKc := hK.sub (tys' := []) [] rfl
              refine va_calli (va_runS (As := [.int p1, .int 2]) (rest := [.int 1, .ref h0, .int x_208, .ref h2]) ⟨hx, hb, hml, hown, hts⟩ (c_X12_mostOf_2 l dC dI H.size p1 2 g_p1 (RG_w (RG_k 2 2 rfl) (by decide +kernel))) (va_cwS 2 hts gf_c_X12_readItems_c_X12_mostOf_2 rfl rfl rfl md_X12_mostOf ⟨Nat.le_of_ble_eq_true rfl, Nat.le_of_ble_eq_true rfl⟩) ⟨fun a U g mk q => by obtain ⟨q0, q1, qP, qK, qD⟩ := q; exact ⟨q0, q1, qP, va_K.moved (u := U) (U := U.calling g mk a) (Vm.Alike.refl U.vm) qK, qD⟩, fun U hU hW => ⟨rfl, by rw [hU], by rw [hU]; exact hPc, va_K.moved hW.alike hKc, hDc.weaken (fun _ _ _ _ => trivial)⟩⟩ rfl rfl hl.1 rfl (lv_room (Nat.le_of_ble_eq_true rfl)) dX12_readItems_109 ⟨Nat.le_of_ble_eq_true rfl, Nat.le_of_ble_eq_true rfl⟩) hS (fun q _ h => hFc q h) hFc (fun r_217 u t H1 locs ht hvm hw hB hz1 hk1 hS => ?_)
              as_aux_lemma =>
              obtain ⟨hP1, hK1, hD1⟩ := hB
              rw [ht] at hP1
              have hP := bv_still hP hk1
              generalize H1 = H at hP hS ⊢
              as_aux_lemma =>
              rcases hw with ⟨h_218, h_219, h_220⟩ | ⟨h_221, h_222, h_223⟩
              · have h_220 : r_217 = _ := h_220
                replace hEX := hEX.trans (exc1_eq h_220)
                replace hEX := hEX.trans (if_pos (show r_217 = 9 from h_218))
                rw [h_218]
                exact RG_dead (RG_eq1 (RG_k 2 2 rfl) h_219 rfl (a' := 2) (b' := 1) (by decide +kernel)) (by decide +kernel)
              · have h_223 : r_217 = _ := h_223
                replace hEX := hEX.trans (exc1_eq h_223)
                replace hEX := hEX.trans (if_neg (fun q9 : r_217 = 9 => absurd ((show r_217 = 4 from h_221).symm.trans q9) (by decide +kernel)))
                rw [h_221]
                obtain ⟨hPc, hDc, hFc, hqc⟩ := cl_cut (wc := (wd_c_X12_number_1 h0 h0_f0 h0_1 h0_2 h0_3 h0_4 h0_5 h0_f6 h0_f7 h0_f8 h0_f9 x_205 (-1) h0_f12 h0_f13 h0_f14 h0_15 h0_16 h0_f17 h0_18 h0_19 h0_20 h0_21 h0_22 h0_23 h0_24 h0_25 h0_f26 h0_f27 h0_f28 h0_f29 h0_f30 h0_f31 h0_32 h0_33 h0_f34 h0_35 h0_36 h0_37 h0_38 h0_39 h0_40 h0_f41 h0_f42 h0_f43 h0_f44 h0_45 h0_46 h0_47 h0_48 h0_49 h0_50 h0_f51 h0_52 h0_f53 h0_5 h0_5k tN h0_5c)) hP hD hS hA [0, 2] (by decide +kernel) rfl
                have hKc := hK.sub (tys' := [(h0_5k, .byte)]) [1] rfl
                have hrv := va_recv hKc hPc (ci := 12) (q0 := 0) rfl rfl
                refine va_calli (va_runV (As := [.int 1, .int 4]) (rest := [.int x_208, .ref h2]) ⟨hx, hb, hml, hown, hts⟩ (c_X12_number_1 l dC dI H.size h0 h0_f0 h0_1 h0_2 h0_3 h0_4 h0_5 h0_f6 h0_f7 h0_f8 h0_f9 x_205 h0_f12 h0_f13 h0_f14 h0_15 h0_16 h0_f17 h0_18 h0_19 h0_20 h0_21 h0_22 h0_23 h0_24 h0_25 h0_f26 h0_f27 h0_f28 h0_f29 h0_f30 h0_f31 h0_32 h0_33 h0_f34 h0_35 h0_36 h0_37 h0_38 h0_39 h0_40 h0_f41 h0_f42 h0_f43 h0_f44 h0_45 h0_46 h0_47 h0_48 h0_49 h0_50 h0_f51 h0_52 h0_f53 h0_5k h0_5c tN g_h0_f6 g_h0_f7 g_h0_f8 (RG_w g_h0_f9 (by decide +kernel)) (RG_w g_206 (by decide +kernel)) g_h0_f17 g_h0_f26 g_h0_f27 g_h0_f28 g_h0_f29 g_h0_f30 g_h0_f31 g_h0_f34 g_h0_f41 g_h0_f51 g_h0_f53 htN) (cwV 2 hts gf_c_X12_readItems_c_X12_number_1 rfl rfl rfl mdV_X12_number ⟨Nat.le_of_ble_eq_true rfl, Nat.le_of_ble_eq_true rfl⟩) ⟨fun a U g mk q => by obtain ⟨q0, q1, qP, qK, qD⟩ := q; exact ⟨q0, q1, qP, va_K.moved (u := U) (U := U.calling g mk a) (Vm.Alike.refl U.vm) qK, qD⟩, hrv, fun U hU hW => ⟨rfl, by rw [hU], by rw [hU]; exact hPc, va_K.moved hW.alike hKc, hDc.weaken (fun _ _ _ _ => trivial)⟩⟩ rfl rfl hl.1 rfl (lv_room (Nat.le_of_ble_eq_true rfl)) dX12_readItems_112 ⟨Nat.le_of_ble_eq_true rfl, Nat.le_of_ble_eq_true rfl⟩) hS (fun q _ h => hFc q h) hFc (fun r_224 u t H1 locs ht hvm hw hB hz1 hk1 hS => ?_)
                as_aux_lemma =>
                obtain ⟨x_225, x_226⟩ := u
                obtain ⟨hP1, hK1, hD1⟩ := hB
                rw [ht] at hP1
                obtain ⟨hP, hD⟩ := cl_put (w1 := (wd_c_X12_number_1 h0 h0_f0 h0_1 h0_2 h0_3 h0_4 h0_5 h0_f6 h0_f7 h0_f8 h0_f9 x_225 x_226 h0_f12 h0_f13 h0_f14 h0_15 h0_16 h0_f17 h0_18 h0_19 h0_20 h0_21 h0_22 h0_23 h0_24 h0_25 h0_f26 h0_f27 h0_f28 h0_f29 h0_f30 h0_f31 h0_32 h0_33 h0_f34 h0_35 h0_36 h0_37 h0_38 h0_39 h0_40 h0_f41 h0_f42 h0_f43 h0_f44 h0_45 h0_46 h0_47 h0_48 h0_49 h0_50 h0_f51 h0_52 h0_f53 h0_5 h0_5k tN h0_5c)) (nw := (wd_c_X12_readItems h0 h0_f0 h0_1 h0_2 h0_3 h0_4 h0_5 h0_f6 h0_f7 h0_f8 h0_f9 x_225 x_226 h0_f12 h0_f13 h0_f14 h0_15 h0_16 h0_f17 h0_18 h0_19 h0_20 h0_21 h0_22 h0_23 h0_24 h0_25 h0_f26 h0_f27 h0_f28 h0_f29 h0_f30 h0_f31 h0_32 h0_33 h0_f34 h0_35 h0_36 h0_37 h0_38 h0_39 h0_40 h0_f41 h0_f42 h0_f43 h0_f44 h0_45 h0_46 h0_47 h0_48 h0_49 h0_50 h0_f51 h0_52 h0_f53 h2 h2k j45b_h2c h0_5 h0_5k tN h0_5c)) hP hD [0, 2] [3, 1, 4] 3 rfl hqc (by decide +kernel) rfl hk1 hFc hP1 hD1
                generalize H1 = H at hP hS ⊢
                as_aux_lemma =>
                rcases hw with ⟨h_227, h_228, h_229, h_230, h_231, h_232⟩ | ⟨h_233, h_234, h_235, h_236⟩
                · have h_232 : (r_224, x_225, x_226) = _ := h_232
                  replace hEX := hEX.trans (exc3_eq h_232)
                  replace hEX := hEX.trans (if_pos (show x_226 = (-1) from h_229))
                  subst h_229
                  have h_231 : x_205.toInt + 1 ≤ x_225.toInt := h_231
                  refine va_iast hx hb hK hP hD hS 1 0 rfl rfl (RG_in g_209 (by decide +kernel)) dX12_readItems_115 (fun H locs hP hD hS => ?_)
                  have hP : va_P (dC, dI) vwCl (wd_c_X12_readItems h0 h0_f0 h0_1 h0_2 h0_3 h0_4 h0_5 h0_f6 h0_f7 h0_f8 h0_f9 x_225 (-1) h0_f12 h0_f13 h0_f14 h0_15 h0_16 h0_f17 h0_18 h0_19 h0_20 h0_21 h0_22 h0_23 h0_24 h0_25 h0_f26 h0_f27 h0_f28 h0_f29 h0_f30 h0_f31 h0_32 h0_33 h0_f34 h0_35 h0_36 h0_37 h0_38 h0_39 h0_40 h0_f41 h0_f42 h0_f43 h0_f44 h0_45 h0_46 h0_47 h0_48 h0_49 h0_50 h0_f51 h0_52 h0_f53 h2 h2k (upd j45b_h2c (x_208 : Int32).toNatClampNeg r_224) h0_5 h0_5k tN h0_5c) H := hP
                  have hD : va_D A (wd_c_X12_readItems h0 h0_f0 h0_1 h0_2 h0_3 h0_4 h0_5 h0_f6 h0_f7 h0_f8 h0_f9 x_225 (-1) h0_f12 h0_f13 h0_f14 h0_15 h0_16 h0_f17 h0_18 h0_19 h0_20 h0_21 h0_22 h0_23 h0_24 h0_25 h0_f26 h0_f27 h0_f28 h0_f29 h0_f30 h0_f31 h0_32 h0_33 h0_f34 h0_35 h0_36 h0_37 h0_38 h0_39 h0_40 h0_f41 h0_f42 h0_f43 h0_f44 h0_45 h0_46 h0_47 h0_48 h0_49 h0_50 h0_f51 h0_52 h0_f53 h2 h2k (upd j45b_h2c (x_208 : Int32).toNatClampNeg r_224) h0_5 h0_5k tN h0_5c) := hD
                  have l_238 : (upd j45b_h2c (x_208 : Int32).toNatClampNeg r_224) (x_208 : Int32).toNatClampNeg = r_224 := pk_us
                  have i_239 : BOi (p3.toInt + 4) (upd j45b_h2c (x_208 : Int32).toNatClampNeg r_224) := BOi_keep i_45b_h2 g_209 (by decide +kernel) (Or.inl (RG_w h_227 (by decide +kernel)))
                  have a_240 : AI (upd j45b_h2c (x_208 : Int32).toNatClampNeg r_224) 0 99 := AI_up a_j45b_h2c h_227 (by decide +kernel)
                  generalize huw_237 : (upd j45b_h2c (x_208 : Int32).toNatClampNeg r_224) = w_237 at hP hD a_240 l_238 i_239
                  replace hEX := hEX.trans (exl_eq huw_237.symm)
                  have hP : va_P (dC, dI) vwCl (wd_c_X12_readItems h0 h0_f0 h0_1 h0_2 h0_3 h0_4 h0_5 h0_f6 h0_f7 h0_f8 h0_f9 x_225 (-1) h0_f12 h0_f13 h0_f14 h0_15 h0_16 h0_f17 h0_18 h0_19 h0_20 h0_21 h0_22 h0_23 h0_24 h0_25 h0_f26 h0_f27 h0_f28 h0_f29 h0_f30 h0_f31 h0_32 h0_33 h0_f34 h0_35 h0_36 h0_37 h0_38 h0_39 h0_40 h0_f41 h0_f42 h0_f43 h0_f44 h0_45 h0_46 h0_47 h0_48 h0_49 h0_50 h0_f51 h0_52 h0_f53 h2 h2k w_237 h0_5 h0_5k tN h0_5c) H := hP
                  have hD : va_D A (wd_c_X12_readItems h0 h0_f0 h0_1 h0_2 h0_3 h0_4 h0_5 h0_f6 h0_f7 h0_f8 h0_f9 x_225 (-1) h0_f12 h0_f13 h0_f14 h0_15 h0_16 h0_f17 h0_18 h0_19 h0_20 h0_21 h0_22 h0_23 h0_24 h0_25 h0_f26 h0_f27 h0_f28 h0_f29 h0_f30 h0_f31 h0_32 h0_33 h0_f34 h0_35 h0_36 h0_37 h0_38 h0_39 h0_40 h0_f41 h0_f42 h0_f43 h0_f44 h0_45 h0_46 h0_47 h0_48 h0_49 h0_50 h0_f51 h0_52 h0_f53 h2 h2k w_237 h0_5 h0_5k tN h0_5c) := hD
                  refine lv_aload_n hx hb dX12_readItems_116 rfl (lv_at hl 2 rfl) ?_
                  as_aux_lemma =>
                  refine va_get (D := (dC, dI)) (ci := 12) (v := .int (-1)) (C := RX12) (T := TX12) (N := 54) hx hb hts iw_c_X12_readItems_X12 hown hK hP 0 rfl rfl 11 (by decide +kernel) (hts (.fieldLink RX12 143 "BuoyVoteModel" "fault" "I") (List.mem_of_getElem? (i := 48) rfl)) (fun _ h9 => h9) rfl dX12_readItems_117 ?_
                  refine lv_iconst (v := (-1)) hx hb dX12_readItems_120 kc_iconst_m1 ?_
                  refine lv_icmp_ne (tgt := 45) hx hb dX12_readItems_121 rfl (fun c_241 => absurd c_241 (by decide +kernel)) (fun c_241 => ?_)
                  refine lv_aload hx hb dX12_readItems_124 (lv_at hl 6 rfl) ?_
                  refine lv_aload_n hx hb dX12_readItems_126 rfl (lv_at hl 2 rfl) ?_
                  obtain ⟨hPc, hDc, hFc, hqc⟩ := cl_cut (wc := (wd_c_X12_look h0 h0_f0 h0_1 h0_2 h0_3 h0_4 h0_5 h0_f6 h0_f7 h0_f8 h0_f9 x_225 (-1) h0_f12 h0_f13 h0_f14 h0_15 h0_16 h0_f17 h0_18 h0_19 h0_20 h0_21 h0_22 h0_23 h0_24 h0_25 h0_f26 h0_f27 h0_f28 h0_f29 h0_f30 h0_f31 h0_32 h0_33 h0_f34 h0_35 h0_36 h0_37 h0_38 h0_39 h0_40 h0_f41 h0_f42 h0_f43 h0_f44 h0_45 h0_46 h0_47 h0_48 h0_49 h0_50 h0_f51 h0_52 h0_f53 h0_5 h0_5k tN h0_5c)) hP hD hS hA [0, 2] (by decide +kernel) rfl
                  have hKc := hK.sub (tys' := [(h0_5k, .byte)]) [1] rfl
                  have hrv := va_recv hKc hPc (ci := 12) (q0 := 0) rfl rfl
                  refine va_calli (va_runV (As := []) (rest := [.ref ts10]) ⟨hx, hb, hml, hown, hts⟩ (c_X12_look l dC dI H.size h0 h0_f0 h0_1 h0_2 h0_3 h0_4 h0_5 h0_f6 h0_f7 h0_f8 h0_f9 x_225 h0_f12 h0_f13 h0_f14 h0_15 h0_16 h0_f17 h0_18 h0_19 h0_20 h0_21 h0_22 h0_23 h0_24 h0_25 h0_f26 h0_f27 h0_f28 h0_f29 h0_f30 h0_f31 h0_32 h0_33 h0_f34 h0_35 h0_36 h0_37 h0_38 h0_39 h0_40 h0_f41 h0_f42 h0_f43 h0_f44 h0_45 h0_46 h0_47 h0_48 h0_49 h0_50 h0_f51 h0_52 h0_f53 h0_5k h0_5c tN g_h0_f6 g_h0_f7 g_h0_f8 (RG_w g_h0_f9 (by decide +kernel)) (RG_w h_228 (by decide +kernel)) g_h0_f17 g_h0_f26 g_h0_f27 g_h0_f28 g_h0_f29 g_h0_f30 g_h0_f31 g_h0_f34 g_h0_f41 g_h0_f51 g_h0_f53 htN) (cwV 0 hts gf_c_X12_readItems_c_X12_look rfl rfl rfl mdV_X12_look ⟨Nat.le_of_ble_eq_true rfl, Nat.le_of_ble_eq_true rfl⟩) ⟨fun a U g mk q => by obtain ⟨q0, q1, qP, qK, qD⟩ := q; exact ⟨q0, q1, qP, va_K.moved (u := U) (U := U.calling g mk a) (Vm.Alike.refl U.vm) qK, qD⟩, hrv, fun U hU hW => ⟨rfl, by rw [hU], by rw [hU]; exact hPc, va_K.moved hW.alike hKc, hDc.weaken (fun _ _ _ _ => trivial)⟩⟩ rfl rfl hl.1 rfl (lv_room (Nat.le_of_ble_eq_true rfl)) dX12_readItems_127 ⟨Nat.le_of_ble_eq_true rfl, Nat.le_of_ble_eq_true rfl⟩) hS (fun q _ h => hFc q h) hFc (fun r_242 x_243 t H1 locs ht hvm hw hB hz1 hk1 hS => ?_)
                  obtain ⟨hP1, hK1, hD1⟩ := hB
                  rw [ht] at hP1
                  obtain ⟨hP, hD⟩ := cl_put (w1 := (wd_c_X12_look h0 h0_f0 h0_1 h0_2 h0_3 h0_4 h0_5 h0_f6 h0_f7 h0_f8 h0_f9 x_243 (-1) h0_f12 h0_f13 h0_f14 h0_15 h0_16 h0_f17 h0_18 h0_19 h0_20 h0_21 h0_22 h0_23 h0_24 h0_25 h0_f26 h0_f27 h0_f28 h0_f29 h0_f30 h0_f31 h0_32 h0_33 h0_f34 h0_35 h0_36 h0_37 h0_38 h0_39 h0_40 h0_f41 h0_f42 h0_f43 h0_f44 h0_45 h0_46 h0_47 h0_48 h0_49 h0_50 h0_f51 h0_52 h0_f53 h0_5 h0_5k tN h0_5c)) (nw := (wd_c_X12_readItems h0 h0_f0 h0_1 h0_2 h0_3 h0_4 h0_5 h0_f6 h0_f7 h0_f8 h0_f9 x_243 (-1) h0_f12 h0_f13 h0_f14 h0_15 h0_16 h0_f17 h0_18 h0_19 h0_20 h0_21 h0_22 h0_23 h0_24 h0_25 h0_f26 h0_f27 h0_f28 h0_f29 h0_f30 h0_f31 h0_32 h0_33 h0_f34 h0_35 h0_36 h0_37 h0_38 h0_39 h0_40 h0_f41 h0_f42 h0_f43 h0_f44 h0_45 h0_46 h0_47 h0_48 h0_49 h0_50 h0_f51 h0_52 h0_f53 h2 h2k w_237 h0_5 h0_5k tN h0_5c)) hP hD [0, 2] [3, 1, 4] 3 rfl hqc (by decide +kernel) rfl hk1 hFc hP1 hD1
                  generalize H1 = H at hP hS ⊢
                  as_aux_lemma =>
                  rcases hw with ⟨h_244, h_245, h_246, h_247, h_248, h_249⟩ | ⟨h_250, h_251, h_252, h_253, h_254, h_255, h_256⟩
                  · have h_249 : (r_242, x_243) = _ := h_249
                    replace hEX := hEX.trans (exc2_eq h_249)
                    replace hEX := hEX.trans (if_pos (show r_242 = (-1) from h_244))
                    rw [h_244]
                    obtain ⟨hPc, hDc, hFc, hqc⟩ := cl_cut (wc := []) hP hD hS hA [] (by decide +kernel) rfl
                    have hKc := hK.sub (tys' := []) [] rfl
                    refine va_calli (va_runS (As := [.ref ts10, .int (-1)]) (rest := []) ⟨hx, hb, hml, hown, hts⟩ (c_X12_spotOf l dC dI H.size ts10 tv10) (va_cwS 2 hts gf_c_X12_readItems_c_X12_spotOf rfl rfl rfl md_X12_spotOf ⟨Nat.le_of_ble_eq_true rfl, Nat.le_of_ble_eq_true rfl⟩) ⟨fun a U g mk q => by obtain ⟨q0, q1, qP, qK, qD, qE0, qE1, qE2, qE3, qE4, qE5⟩ := q; exact ⟨q0, q1, qP, va_K.moved (u := U) (U := U.calling g mk a) (Vm.Alike.refl U.vm) qK, qD, va_OF.moved (u := U) (U := U.calling g mk a) (Vm.Alike.refl U.vm) qE0, va_T.moved (u := U) (U := U.calling g mk a) (Vm.Alike.refl U.vm) qE1, va_Z.moved (u := U) (U := U.calling g mk a) (Vm.Alike.refl U.vm) qE2, va_OF.moved (u := U) (U := U.calling g mk a) (Vm.Alike.refl U.vm) qE3, va_O.moved (u := U) (U := U.calling g mk a) (Vm.Alike.refl U.vm) qE4, va_Zq.moved (u := U) (U := U.calling g mk a) (Vm.Alike.refl U.vm) qE5⟩, fun U hU hW => ⟨rfl, by rw [hU], by rw [hU]; exact hPc, va_K.moved hW.alike hKc, hDc.weaken (fun _ _ _ _ => trivial), va_OF.moved hW.alike (by rw [hU]; exact (hE_65.kept hS.2.1).narrow hFc), va_T.moved hW.alike (by rw [hU]; exact (hE_66.kept hS.2.1).narrow hFc), va_Z.moved hW.alike (by rw [hU]; exact (hE_10.kept hS.2.1).narrow hFc), va_OF.moved hW.alike (by rw [hU]; exact (hE_64.kept hS.2.1).narrow hFc), va_O.moved hW.alike (by rw [hU]; exact (hE_63.kept hS.2.1).narrow hFc), va_Zq.moved hW.alike (by rw [hU]; exact (hE_11.kept hS.2.1).narrow hFc)⟩⟩ rfl rfl hl.1 rfl (lv_room (Nat.le_of_ble_eq_true rfl)) dX12_readItems_130 ⟨Nat.le_of_ble_eq_true rfl, Nat.le_of_ble_eq_true rfl⟩) hS (fun q _ h => hFc q h) hFc (fun r_257 u t H1 locs ht hvm hw hB hz1 hk1 hS => ?_)
                    obtain ⟨hP1, hK1, hD1⟩ := hB
                    rw [ht] at hP1
                    have hP := bv_still hP hk1
                    generalize H1 = H at hP hS ⊢
                    as_aux_lemma =>
                    rcases hw with ⟨h_258, h_259⟩
                    have h_259 : r_257 = _ := h_259
                    replace hEX := hEX.trans (exc1_eq h_259)
                    rw [h_258]
                    refine lv_istore (lv' := [(6, .int (-1)), (5, .int x_204), (0, .ref h0), (1, .int p1), (2, .ref h2), (3, .int p3), (4, .ref ts10)]) hx hb dX12_readItems_133 hl (Nat.le_of_ble_eq_true rfl) rfl (fun ls hl => ?_)
                    refine lv_goto (tgt := 45) hx hb dX12_readItems_135 rfl ?_
                    exact hU _ _ _ (J45 x_204 x_243 w_237 g_h0_f10 g_h0_f17 g_h0_f26 g_h0_f27 g_h0_f28 g_h0_f29 g_h0_f30 g_h0_f31 g_h0_f34 g_h0_f41 g_h0_f51 g_h0_f53 g_h0_f6 g_h0_f7 g_h0_f8 (RG_w g_h0_f9 (by decide +kernel)) h_245 g_p1 g_p3 a_240 i_239 (by have := r_h0_f10_j45b_h0_f10; have := q_207; have := h_231; have := h_246; omega) hEX _ _ _ hP hD hS (lv_sub hl [0, 1, 2, 3, 4, 5, 6] rfl))
                  · have h_256 : (r_242, x_243) = _ := h_256
                    replace hEX := hEX.trans (exc2_eq h_256)
                    replace hEX := hEX.trans (if_neg (RG_neq (x := r_242) (c := (-1)) (show RG r_242 0 255 from h_250) (by decide +kernel)))
                    have nb_260 := h_255.2.resolve_left (fun q => by have g9 := h_250; rw [q] at g9; exact absurd g9.1 (by decide +kernel))
                    obtain ⟨hPc, hDc, hFc, hqc⟩ := cl_cut (wc := []) hP hD hS hA [] (by decide +kernel) rfl
                    have hKc := hK.sub (tys' := []) [] rfl
                    refine va_calli (va_runS (As := [.ref ts10, .int r_242]) (rest := []) ⟨hx, hb, hml, hown, hts⟩ (c_X12_spotOf_1 l dC dI H.size ts10 r_242 tv10 h_250) (va_cwS 2 hts gf_c_X12_readItems_c_X12_spotOf_1 rfl rfl rfl md_X12_spotOf ⟨Nat.le_of_ble_eq_true rfl, Nat.le_of_ble_eq_true rfl⟩) ⟨fun a U g mk q => by obtain ⟨q0, q1, qP, qK, qD, qE0, qE1, qE2, qE3, qE4, qE5⟩ := q; exact ⟨q0, q1, qP, va_K.moved (u := U) (U := U.calling g mk a) (Vm.Alike.refl U.vm) qK, qD, va_OF.moved (u := U) (U := U.calling g mk a) (Vm.Alike.refl U.vm) qE0, va_T.moved (u := U) (U := U.calling g mk a) (Vm.Alike.refl U.vm) qE1, va_Z.moved (u := U) (U := U.calling g mk a) (Vm.Alike.refl U.vm) qE2, va_OF.moved (u := U) (U := U.calling g mk a) (Vm.Alike.refl U.vm) qE3, va_O.moved (u := U) (U := U.calling g mk a) (Vm.Alike.refl U.vm) qE4, va_Zq.moved (u := U) (U := U.calling g mk a) (Vm.Alike.refl U.vm) qE5⟩, fun U hU hW => ⟨rfl, by rw [hU], by rw [hU]; exact hPc, va_K.moved hW.alike hKc, hDc.weaken (fun _ _ _ _ => trivial), va_OF.moved hW.alike (by rw [hU]; exact (hE_65.kept hS.2.1).narrow hFc), va_T.moved hW.alike (by rw [hU]; exact (hE_66.kept hS.2.1).narrow hFc), va_Z.moved hW.alike (by rw [hU]; exact (hE_10.kept hS.2.1).narrow hFc), va_OF.moved hW.alike (by rw [hU]; exact (hE_64.kept hS.2.1).narrow hFc), va_O.moved hW.alike (by rw [hU]; exact (hE_63.kept hS.2.1).narrow hFc), va_Zq.moved hW.alike (by rw [hU]; exact (hE_11.kept hS.2.1).narrow hFc)⟩⟩ rfl rfl hl.1 rfl (lv_room (Nat.le_of_ble_eq_true rfl)) dX12_readItems_130 ⟨Nat.le_of_ble_eq_true rfl, Nat.le_of_ble_eq_true rfl⟩) hS (fun q _ h => hFc q h) hFc (fun r_261 u t H1 locs ht hvm hw hB hz1 hk1 hS => ?_)
                    as_aux_lemma =>
                    obtain ⟨hP1, hK1, hD1⟩ := hB
                    rw [ht] at hP1
                    have hP := bv_still hP hk1
                    generalize H1 = H at hP hS ⊢
                    as_aux_lemma =>
                    rcases hw with ⟨h_262, h_263⟩ | ⟨h_264, h_265, h_266⟩ | ⟨h_267, h_268, h_269⟩ | ⟨h_270, h_271, h_272⟩ | ⟨h_273, h_274, h_275⟩
                    · have h_263 : r_261 = _ := h_263
                      replace hEX := hEX.trans (exc1_eq h_263)
                      replace hEX := hEX.trans (if_pos (show r_261 = (-1) from h_262))
                      rw [h_262]
                      refine lv_istore (lv' := [(6, .int (-1)), (5, .int x_204), (0, .ref h0), (1, .int p1), (2, .ref h2), (3, .int p3), (4, .ref ts10)]) hx hb dX12_readItems_133 hl (Nat.le_of_ble_eq_true rfl) rfl (fun ls hl => ?_)
                      refine lv_goto (tgt := 45) hx hb dX12_readItems_135 rfl ?_
                      exact hU _ _ _ (J45 x_204 x_243 w_237 g_h0_f10 g_h0_f17 g_h0_f26 g_h0_f27 g_h0_f28 g_h0_f29 g_h0_f30 g_h0_f31 g_h0_f34 g_h0_f41 g_h0_f51 g_h0_f53 g_h0_f6 g_h0_f7 g_h0_f8 (RG_w g_h0_f9 (by decide +kernel)) (RG_w h_251 (by decide +kernel)) g_p1 g_p3 a_240 i_239 (by have := r_h0_f10_j45b_h0_f10; have := q_207; have := h_231; have := h_253; omega) hEX _ _ _ hP hD hS (lv_sub hl [0, 1, 2, 3, 4, 5, 6] rfl))
                    · have h_266 : r_261 = _ := h_266
                      replace hEX := hEX.trans (exc1_eq h_266)
                      replace hEX := hEX.trans (if_neg (fun q9 : r_261 = (-1) => absurd ((show r_261 = 3 from h_264).symm.trans q9) (by decide +kernel)))
                      replace hEX := hEX.trans (if_pos (show r_261 = 3 from h_264))
                      rw [h_264]
                      refine lv_istore (lv' := [(6, .int 3), (5, .int x_204), (0, .ref h0), (1, .int p1), (2, .ref h2), (3, .int p3), (4, .ref ts10)]) hx hb dX12_readItems_133 hl (Nat.le_of_ble_eq_true rfl) rfl (fun ls hl => ?_)
                      as_aux_lemma =>
                      refine lv_goto (tgt := 45) hx hb dX12_readItems_135 rfl ?_
                      exact hU _ _ _ (ih45b 3 x_204 x_243 w_237 (mu_s (MU_lt (by have := q_207; have := h_231; have := h_253; omega)) hM45b) g_h0_f10 g_h0_f17 g_h0_f26 g_h0_f27 g_h0_f28 g_h0_f29 g_h0_f30 g_h0_f31 g_h0_f34 g_h0_f41 g_h0_f51 g_h0_f53 g_h0_f6 g_h0_f7 g_h0_f8 g_h0_f9 h_251 (RG_w (RG_k 3 3 rfl) (by decide +kernel)) g_p1 g_p3 a_240 i_239 (by have := r_h0_f10_j45b_h0_f10; have := q_207; have := h_231; have := h_253; omega) hEX _ _ _ hP hD hS (lv_sub hl [0, 1, 2, 3, 4, 5, 6] rfl))
                    · have h_269 : r_261 = _ := h_269
                      replace hEX := hEX.trans (exc1_eq h_269)
                      replace hEX := hEX.trans (if_neg (fun q9 : r_261 = (-1) => absurd ((show r_261 = 2 from h_267).symm.trans q9) (by decide +kernel)))
                      replace hEX := hEX.trans (if_neg (fun q9 : r_261 = 3 => absurd ((show r_261 = 2 from h_267).symm.trans q9) (by decide +kernel)))
                      replace hEX := hEX.trans (if_pos (show r_261 = 2 from h_267))
                      rw [h_267]
                      refine lv_istore (lv' := [(6, .int 2), (5, .int x_204), (0, .ref h0), (1, .int p1), (2, .ref h2), (3, .int p3), (4, .ref ts10)]) hx hb dX12_readItems_133 hl (Nat.le_of_ble_eq_true rfl) rfl (fun ls hl => ?_)
                      refine lv_goto (tgt := 45) hx hb dX12_readItems_135 rfl ?_
                      exact hU _ _ _ (ih45b 2 x_204 x_243 w_237 (mu_s (MU_lt (by have := q_207; have := h_231; have := h_253; omega)) hM45b) g_h0_f10 g_h0_f17 g_h0_f26 g_h0_f27 g_h0_f28 g_h0_f29 g_h0_f30 g_h0_f31 g_h0_f34 g_h0_f41 g_h0_f51 g_h0_f53 g_h0_f6 g_h0_f7 g_h0_f8 g_h0_f9 h_251 (RG_w (RG_k 2 2 rfl) (by decide +kernel)) g_p1 g_p3 a_240 i_239 (by have := r_h0_f10_j45b_h0_f10; have := q_207; have := h_231; have := h_253; omega) hEX _ _ _ hP hD hS (lv_sub hl [0, 1, 2, 3, 4, 5, 6] rfl))
                    · have h_272 : r_261 = _ := h_272
                      replace hEX := hEX.trans (exc1_eq h_272)
                      replace hEX := hEX.trans (if_neg (fun q9 : r_261 = (-1) => absurd ((show r_261 = 1 from h_270).symm.trans q9) (by decide +kernel)))
                      replace hEX := hEX.trans (if_neg (fun q9 : r_261 = 3 => absurd ((show r_261 = 1 from h_270).symm.trans q9) (by decide +kernel)))
                      replace hEX := hEX.trans (if_neg (fun q9 : r_261 = 2 => absurd ((show r_261 = 1 from h_270).symm.trans q9) (by decide +kernel)))
                      replace hEX := hEX.trans (if_pos (show r_261 = 1 from h_270))
                      rw [h_270]
                      refine lv_istore (lv' := [(6, .int 1), (5, .int x_204), (0, .ref h0), (1, .int p1), (2, .ref h2), (3, .int p3), (4, .ref ts10)]) hx hb dX12_readItems_133 hl (Nat.le_of_ble_eq_true rfl) rfl (fun ls hl => ?_)
                      as_aux_lemma =>
                      refine lv_goto (tgt := 45) hx hb dX12_readItems_135 rfl ?_
                      exact hU _ _ _ (ih45b 1 x_204 x_243 w_237 (mu_s (MU_lt (by have := q_207; have := h_231; have := h_253; omega)) hM45b) g_h0_f10 g_h0_f17 g_h0_f26 g_h0_f27 g_h0_f28 g_h0_f29 g_h0_f30 g_h0_f31 g_h0_f34 g_h0_f41 g_h0_f51 g_h0_f53 g_h0_f6 g_h0_f7 g_h0_f8 g_h0_f9 h_251 (RG_w (RG_k 1 1 rfl) (by decide +kernel)) g_p1 g_p3 a_240 i_239 (by have := r_h0_f10_j45b_h0_f10; have := q_207; have := h_231; have := h_253; omega) hEX _ _ _ hP hD hS (lv_sub hl [0, 1, 2, 3, 4, 5, 6] rfl))
                    · have h_275 : r_261 = _ := h_275
                      replace hEX := hEX.trans (exc1_eq h_275)
                      replace hEX := hEX.trans (if_neg (fun q9 : r_261 = (-1) => absurd ((show r_261 = 0 from h_273).symm.trans q9) (by decide +kernel)))
                      replace hEX := hEX.trans (if_neg (fun q9 : r_261 = 3 => absurd ((show r_261 = 0 from h_273).symm.trans q9) (by decide +kernel)))
                      replace hEX := hEX.trans (if_neg (fun q9 : r_261 = 2 => absurd ((show r_261 = 0 from h_273).symm.trans q9) (by decide +kernel)))
                      replace hEX := hEX.trans (if_neg (fun q9 : r_261 = 1 => absurd ((show r_261 = 0 from h_273).symm.trans q9) (by decide +kernel)))
                      rw [h_273]
                      refine lv_istore (lv' := [(6, .int 0), (5, .int x_204), (0, .ref h0), (1, .int p1), (2, .ref h2), (3, .int p3), (4, .ref ts10)]) hx hb dX12_readItems_133 hl (Nat.le_of_ble_eq_true rfl) rfl (fun ls hl => ?_)
                      refine lv_goto (tgt := 45) hx hb dX12_readItems_135 rfl ?_
                      exact hU _ _ _ (ih45b 0 x_204 x_243 w_237 (mu_s (MU_lt (by have := q_207; have := h_231; have := h_253; omega)) hM45b) g_h0_f10 g_h0_f17 g_h0_f26 g_h0_f27 g_h0_f28 g_h0_f29 g_h0_f30 g_h0_f31 g_h0_f34 g_h0_f41 g_h0_f51 g_h0_f53 g_h0_f6 g_h0_f7 g_h0_f8 g_h0_f9 h_251 (RG_w (RG_k 0 0 rfl) (by decide +kernel)) g_p1 g_p3 a_240 i_239 (by have := r_h0_f10_j45b_h0_f10; have := q_207; have := h_231; have := h_253; omega) hEX _ _ _ hP hD hS (lv_sub hl [0, 1, 2, 3, 4, 5, 6] rfl))
                · have h_236 : (r_224, x_225, x_226) = _ := h_236
                  replace hEX := hEX.trans (exc3_eq h_236)
                  replace hEX := hEX.trans (if_neg (RG_neq (x := x_226) (c := (-1)) (show RG x_226 0 240 from h_235) (by decide +kernel)))
                  refine va_iast hx hb hK hP hD hS 1 0 rfl rfl (RG_in g_209 (by decide +kernel)) dX12_readItems_115 (fun H locs hP hD hS => ?_)
                  as_aux_lemma =>
                  have hP : va_P (dC, dI) vwCl (wd_c_X12_readItems h0 h0_f0 h0_1 h0_2 h0_3 h0_4 h0_5 h0_f6 h0_f7 h0_f8 h0_f9 x_225 x_226 h0_f12 h0_f13 h0_f14 h0_15 h0_16 h0_f17 h0_18 h0_19 h0_20 h0_21 h0_22 h0_23 h0_24 h0_25 h0_f26 h0_f27 h0_f28 h0_f29 h0_f30 h0_f31 h0_32 h0_33 h0_f34 h0_35 h0_36 h0_37 h0_38 h0_39 h0_40 h0_f41 h0_f42 h0_f43 h0_f44 h0_45 h0_46 h0_47 h0_48 h0_49 h0_50 h0_f51 h0_52 h0_f53 h2 h2k (upd j45b_h2c (x_208 : Int32).toNatClampNeg r_224) h0_5 h0_5k tN h0_5c) H := hP
                  have hD : va_D A (wd_c_X12_readItems h0 h0_f0 h0_1 h0_2 h0_3 h0_4 h0_5 h0_f6 h0_f7 h0_f8 h0_f9 x_225 x_226 h0_f12 h0_f13 h0_f14 h0_15 h0_16 h0_f17 h0_18 h0_19 h0_20 h0_21 h0_22 h0_23 h0_24 h0_25 h0_f26 h0_f27 h0_f28 h0_f29 h0_f30 h0_f31 h0_32 h0_33 h0_f34 h0_35 h0_36 h0_37 h0_38 h0_39 h0_40 h0_f41 h0_f42 h0_f43 h0_f44 h0_45 h0_46 h0_47 h0_48 h0_49 h0_50 h0_f51 h0_52 h0_f53 h2 h2k (upd j45b_h2c (x_208 : Int32).toNatClampNeg r_224) h0_5 h0_5k tN h0_5c) := hD
                  have l_277 : (upd j45b_h2c (x_208 : Int32).toNatClampNeg r_224) (x_208 : Int32).toNatClampNeg = r_224 := pk_us
                  have a_278 : AI (upd j45b_h2c (x_208 : Int32).toNatClampNeg r_224) 0 99 := AI_up a_j45b_h2c h_233 (by decide +kernel)
                  generalize huw_276 : (upd j45b_h2c (x_208 : Int32).toNatClampNeg r_224) = w_276 at hP hD a_278 l_277
                  replace hEX := hEX.trans (exl_eq huw_276.symm)
                  have hP : va_P (dC, dI) vwCl (wd_c_X12_readItems h0 h0_f0 h0_1 h0_2 h0_3 h0_4 h0_5 h0_f6 h0_f7 h0_f8 h0_f9 x_225 x_226 h0_f12 h0_f13 h0_f14 h0_15 h0_16 h0_f17 h0_18 h0_19 h0_20 h0_21 h0_22 h0_23 h0_24 h0_25 h0_f26 h0_f27 h0_f28 h0_f29 h0_f30 h0_f31 h0_32 h0_33 h0_f34 h0_35 h0_36 h0_37 h0_38 h0_39 h0_40 h0_f41 h0_f42 h0_f43 h0_f44 h0_45 h0_46 h0_47 h0_48 h0_49 h0_50 h0_f51 h0_52 h0_f53 h2 h2k w_276 h0_5 h0_5k tN h0_5c) H := hP
                  have hD : va_D A (wd_c_X12_readItems h0 h0_f0 h0_1 h0_2 h0_3 h0_4 h0_5 h0_f6 h0_f7 h0_f8 h0_f9 x_225 x_226 h0_f12 h0_f13 h0_f14 h0_15 h0_16 h0_f17 h0_18 h0_19 h0_20 h0_21 h0_22 h0_23 h0_24 h0_25 h0_f26 h0_f27 h0_f28 h0_f29 h0_f30 h0_f31 h0_32 h0_33 h0_f34 h0_35 h0_36 h0_37 h0_38 h0_39 h0_40 h0_f41 h0_f42 h0_f43 h0_f44 h0_45 h0_46 h0_47 h0_48 h0_49 h0_50 h0_f51 h0_52 h0_f53 h2 h2k w_276 h0_5 h0_5k tN h0_5c) := hD
                  refine lv_aload_n hx hb dX12_readItems_116 rfl (lv_at hl 2 rfl) ?_
                  refine va_get (D := (dC, dI)) (ci := 12) (v := .int x_226) (C := RX12) (T := TX12) (N := 54) hx hb hts iw_c_X12_readItems_X12 hown hK hP 0 rfl rfl 11 (by decide +kernel) (hts (.fieldLink RX12 143 "BuoyVoteModel" "fault" "I") (List.mem_of_getElem? (i := 48) rfl)) (fun _ h9 => h9) rfl dX12_readItems_117 ?_
                  refine lv_iconst (v := (-1)) hx hb dX12_readItems_120 kc_iconst_m1 ?_
                  refine lv_icmp_ne (tgt := 45) hx hb dX12_readItems_121 rfl (fun c_279 => ?_) (fun c_279 => ?_)
                  · replace hEX := hEX.trans (if_neg c_279)
                    exact hU _ _ _ (J45c x_204 2 x_225 x_226 w_276 g_h0_f10 g_h0_f17 g_h0_f26 g_h0_f27 g_h0_f28 g_h0_f29 g_h0_f30 g_h0_f31 g_h0_f34 g_h0_f41 g_h0_f51 g_h0_f53 g_h0_f6 g_h0_f7 g_h0_f8 g_h0_f9 h_234 h_235 (RG_w (RG_k 2 2 rfl) (by decide +kernel)) g_p1 g_p3 a_278 hEX _ _ _ hP hD hS (lv_sub hl [0, 1, 2, 3, 4, 5, 6] rfl))
                  · replace hEX := hEX.trans (if_pos c_279)
                    exact RG_dead (RG_eq1 h_235 (RG_k (-1) (-1) rfl) c_279 (a' := 0) (b' := (-1)) (by decide +kernel)) (by decide +kernel)
          · have h_201 : r_195 = _ := h_201
            replace hEX := hEX.trans (exc1_eq h_201)
            replace hEX := hEX.trans (if_neg (fun q9 : r_195 = 0 => absurd ((show r_195 = 1 from h_199).symm.trans q9) (by decide +kernel)))
            rw [h_199]
            refine lv_if_eq (tgt := 75) hx hb dX12_readItems_66 rfl (fun c_280 => absurd c_280 (by decide +kernel)) (fun c_280 => ?_)
            as_aux_lemma =>
            refine lv_aload_n hx hb dX12_readItems_69 rfl (lv_at hl 2 rfl) ?_
            obtain ⟨hPc, hDc, hFc, hqc⟩ := cl_cut (wc := (wd_c_X12_fails h0 h0_f0 h0_1 h0_2 h0_3 h0_4 h0_5 h0_f6 h0_f7 h0_f8 h0_f9 j45b_h0_f10 (-1) h0_f12 h0_f13 h0_f14 h0_15 h0_16 h0_f17 h0_18 h0_19 h0_20 h0_21 h0_22 h0_23 h0_24 h0_25 h0_f26 h0_f27 h0_f28 h0_f29 h0_f30 h0_f31 h0_32 h0_33 h0_f34 h0_35 h0_36 h0_37 h0_38 h0_39 h0_40 h0_f41 h0_f42 h0_f43 h0_f44 h0_45 h0_46 h0_47 h0_48 h0_49 h0_50 h0_f51 h0_52 h0_f53)) hP hD hS hA [0] (by decide +kernel) rfl
            have hKc := hK.sub (tys' := []) [] rfl
            have hrv := va_recv hKc hPc (ci := 12) (q0 := 0) rfl rfl
            refine va_calli (va_runV (As := []) (rest := []) ⟨hx, hb, hml, hown, hts⟩ (c_X12_fails l dC dI H.size h0 h0_f0 h0_1 h0_2 h0_3 h0_4 h0_5 h0_f6 h0_f7 h0_f8 h0_f9 j45b_h0_f10 h0_f12 h0_f13 h0_f14 h0_15 h0_16 h0_f17 h0_18 h0_19 h0_20 h0_21 h0_22 h0_23 h0_24 h0_25 h0_f26 h0_f27 h0_f28 h0_f29 h0_f30 h0_f31 h0_32 h0_33 h0_f34 h0_35 h0_36 h0_37 h0_38 h0_39 h0_40 h0_f41 h0_f42 h0_f43 h0_f44 h0_45 h0_46 h0_47 h0_48 h0_49 h0_50 h0_f51 h0_52 h0_f53 g_h0_f6 g_h0_f7 g_h0_f8 (RG_w g_h0_f9 (by decide +kernel)) (RG_w g_j45b_h0_f10 (by decide +kernel)) g_h0_f17 g_h0_f26 g_h0_f27 g_h0_f28 g_h0_f29 g_h0_f30 g_h0_f31 g_h0_f34 g_h0_f41 g_h0_f51 g_h0_f53) (cwV 0 hts gf_c_X12_readItems_c_X12_fails rfl rfl rfl mdV_X12_fails ⟨Nat.le_of_ble_eq_true rfl, Nat.le_of_ble_eq_true rfl⟩) ⟨fun a U g mk q => by obtain ⟨q0, q1, qP, qK, qD⟩ := q; exact ⟨q0, q1, qP, va_K.moved (u := U) (U := U.calling g mk a) (Vm.Alike.refl U.vm) qK, qD⟩, hrv, fun U hU hW => ⟨rfl, by rw [hU], by rw [hU]; exact hPc, va_K.moved hW.alike hKc, hDc.weaken (fun _ _ _ _ => trivial)⟩⟩ rfl rfl hl.1 rfl (lv_room (Nat.le_of_ble_eq_true rfl)) dX12_readItems_70 ⟨Nat.le_of_ble_eq_true rfl, Nat.le_of_ble_eq_true rfl⟩) hS (fun q _ h => hFc q h) hFc (fun r_281 u t H1 locs ht hvm hw hB hz1 hk1 hS => ?_)
            obtain ⟨hP1, hK1, hD1⟩ := hB
            rw [ht] at hP1
            obtain ⟨hP, hD⟩ := cl_put (w1 := (wd_c_X12_fails h0 h0_f0 h0_1 h0_2 h0_3 h0_4 h0_5 h0_f6 h0_f7 h0_f8 h0_f9 j45b_h0_f10 j45b_h0_f10 h0_f12 h0_f13 h0_f14 h0_15 h0_16 h0_f17 h0_18 h0_19 h0_20 h0_21 h0_22 h0_23 h0_24 h0_25 h0_f26 h0_f27 h0_f28 h0_f29 h0_f30 h0_f31 h0_32 h0_33 h0_f34 h0_35 h0_36 h0_37 h0_38 h0_39 h0_40 h0_f41 h0_f42 h0_f43 h0_f44 h0_45 h0_46 h0_47 h0_48 h0_49 h0_50 h0_f51 h0_52 h0_f53)) (nw := (wd_c_X12_readItems h0 h0_f0 h0_1 h0_2 h0_3 h0_4 h0_5 h0_f6 h0_f7 h0_f8 h0_f9 j45b_h0_f10 j45b_h0_f10 h0_f12 h0_f13 h0_f14 h0_15 h0_16 h0_f17 h0_18 h0_19 h0_20 h0_21 h0_22 h0_23 h0_24 h0_25 h0_f26 h0_f27 h0_f28 h0_f29 h0_f30 h0_f31 h0_32 h0_33 h0_f34 h0_35 h0_36 h0_37 h0_38 h0_39 h0_40 h0_f41 h0_f42 h0_f43 h0_f44 h0_45 h0_46 h0_47 h0_48 h0_49 h0_50 h0_f51 h0_52 h0_f53 h2 h2k j45b_h2c h0_5 h0_5k tN h0_5c)) hP hD [0] [3, 1, 2] 3 rfl hqc (by decide +kernel) rfl hk1 hFc hP1 hD1
            generalize H1 = H at hP hS ⊢
            as_aux_lemma =>
            rcases hw with ⟨h_282, h_283⟩
            have h_283 : r_281 = _ := h_283
            replace hEX := hEX.trans (exc1_eq h_283)
            rw [h_282]
            refine lv_pop hx hb dX12_readItems_73 rfl ?_
            have hK9 := hK.sub (tys' := []) [] rfl
            exact W.vret hx hb hr (fun t ht hW => ⟨⟨(j45b_h0_f10, j45b_h0_f10, j45b_h2c), rfl, (Or.inr ⟨(RG_w g_j45b_h0_f10 (by decide +kernel)), (RG_w g_j45b_h0_f10 (by decide +kernel)), a_j45b_h2c, g_h0_f9, (hR.trans hEX).symm⟩), by rw [ht]; exact hP, va_K.moved hW.alike hK9, hD⟩, hS.F ht⟩) hS.2.2 dX12_readItems_74
        replace hEX := hEX.trans (if_neg c_194)
        by_cases c_284 : j45b_l6 = 3
        · replace hEX := hEX.trans (if_pos c_284)
          subst c_284
          refine lv_iload hx hb dX12_readItems_59 (lv_at hl 1 rfl) ?_
          refine lv_iload hx hb dX12_readItems_61 (lv_at hl 0 rfl) ?_
          obtain ⟨hPc, hDc, hFc, hqc⟩ := cl_cut (wc := []) hP hD hS hA [] (by decide +kernel) rfl
          have hKc := hK.sub (tys' := []) [] rfl
          refine va_calli (va_runS (As := [.int j45b_l5, .int 3]) (rest := []) ⟨hx, hb, hml, hown, hts⟩ (c_X12_has_2 l dC dI H.size j45b_l5 3 (RG_w (RG_k 3 3 rfl) (by decide +kernel))) (va_cwS 2 hts gf_c_X12_readItems_c_X12_has_2 rfl rfl rfl md_X12_has ⟨Nat.le_of_ble_eq_true rfl, Nat.le_of_ble_eq_true rfl⟩) ⟨fun a U g mk q => by obtain ⟨q0, q1, qP, qK, qD⟩ := q; exact ⟨q0, q1, qP, va_K.moved (u := U) (U := U.calling g mk a) (Vm.Alike.refl U.vm) qK, qD⟩, fun U hU hW => ⟨rfl, by rw [hU], by rw [hU]; exact hPc, va_K.moved hW.alike hKc, hDc.weaken (fun _ _ _ _ => trivial)⟩⟩ rfl rfl hl.1 rfl (lv_room (Nat.le_of_ble_eq_true rfl)) dX12_readItems_63 ⟨Nat.le_of_ble_eq_true rfl, Nat.le_of_ble_eq_true rfl⟩) hS (fun q _ h => hFc q h) hFc (fun r_285 u t H1 locs ht hvm hw hB hz1 hk1 hS => ?_)
          as_aux_lemma =>
          obtain ⟨hP1, hK1, hD1⟩ := hB
          rw [ht] at hP1
          have hP := bv_still hP hk1
          generalize H1 = H at hP hS ⊢
          as_aux_lemma =>
          rcases hw with ⟨h_286, h_287, h_288⟩ | ⟨h_289, h_290, h_291⟩
          · have h_288 : r_285 = _ := h_288
            replace hEX := hEX.trans (exc1_eq h_288)
            replace hEX := hEX.trans (if_pos (show r_285 = 0 from h_286))
            rw [h_286]
            refine lv_if_eq (tgt := 75) hx hb dX12_readItems_66 rfl (fun c_292 => ?_) (fun c_292 => absurd c_292 (by decide +kernel))
            refine lv_iload hx hb dX12_readItems_75 (lv_at hl 1 rfl) ?_
            refine lv_iconst (v := 1) hx hb dX12_readItems_77 kc_iconst_1 ?_
            refine lv_iload hx hb dX12_readItems_78 (lv_at hl 0 rfl) ?_
            refine lv_ishl hx hb dX12_readItems_80 ?_
            refine lv_topi (fun x_293 ex_293 => ?_)
            obtain rfl : x_293 = 8 := ex_293.trans (by decide +kernel)
            refine lv_ior hx hb dX12_readItems_81 ?_
            refine lv_topi (fun x_294 ex_294 => ?_)
            as_aux_lemma =>
            replace hEX := hEX.trans (exl_eq ex_294)
            refine lv_istore (lv' := [(5, .int x_294), (6, .int 3), (0, .ref h0), (1, .int p1), (2, .ref h2), (3, .int p3), (4, .ref ts10)]) hx hb dX12_readItems_82 hl (Nat.le_of_ble_eq_true rfl) rfl (fun ls hl => ?_)
            refine lv_aload_n hx hb dX12_readItems_84 rfl (lv_at hl 2 rfl) ?_
            refine lv_dup hx hb dX12_readItems_85 rfl ?_
            refine va_get (D := (dC, dI)) (ci := 12) (v := .int j45b_h0_f10) (C := RX12) (T := TX12) (N := 54) hx hb hts iw_c_X12_readItems_X12 hown hK hP 0 rfl rfl 10 (by decide +kernel) (hts (.fieldLink RX12 134 "BuoyVoteModel" "at" "I") (List.mem_of_getElem? (i := 21) rfl)) (fun _ h9 => h9) rfl dX12_readItems_86 ?_
            refine lv_iconst (v := 1) hx hb dX12_readItems_89 kc_iconst_1 ?_
            refine lv_iadd hx hb dX12_readItems_90 ?_
            refine lv_topi (fun x_295 ex_295 => ?_)
            replace hEX := hEX.trans (exl_eq ex_295)
            have g_296 : RG x_295 1 240 := RG_add ex_295 g_j45b_h0_f10 (RG_k 1 1 rfl) (by decide +kernel)
            have q_297 : x_295.toInt = j45b_h0_f10.toInt + 1 := eq_add ex_295 g_j45b_h0_f10 (q := 1) rfl (by decide +kernel)
            refine va_put (D := (dC, dI)) (ci := 12) (v := .int x_295) (ty := .int) (C := RX12) (T := TX12) (N := 54) hx hb hts iw_c_X12_readItems_X12 tyX12 tyX12_ok nmX12 hown hK hP hD hS 0 rfl rfl 10 (by decide +kernel) (hts (.fieldLink RX12 134 "BuoyVoteModel" "at" "I") (List.mem_of_getElem? (i := 21) rfl)) (fun _ h9 => h9) rfl (by decide +kernel) rfl rfl (Nat.le_of_ble_eq_true rfl) dX12_readItems_91 (fun H locs hP hD hS => ?_)
            have hP : va_P (dC, dI) vwCl (wd_c_X12_readItems h0 h0_f0 h0_1 h0_2 h0_3 h0_4 h0_5 h0_f6 h0_f7 h0_f8 h0_f9 x_295 (-1) h0_f12 h0_f13 h0_f14 h0_15 h0_16 h0_f17 h0_18 h0_19 h0_20 h0_21 h0_22 h0_23 h0_24 h0_25 h0_f26 h0_f27 h0_f28 h0_f29 h0_f30 h0_f31 h0_32 h0_33 h0_f34 h0_35 h0_36 h0_37 h0_38 h0_39 h0_40 h0_f41 h0_f42 h0_f43 h0_f44 h0_45 h0_46 h0_47 h0_48 h0_49 h0_50 h0_f51 h0_52 h0_f53 h2 h2k j45b_h2c h0_5 h0_5k tN h0_5c) H := hP
            have hD : va_D A (wd_c_X12_readItems h0 h0_f0 h0_1 h0_2 h0_3 h0_4 h0_5 h0_f6 h0_f7 h0_f8 h0_f9 x_295 (-1) h0_f12 h0_f13 h0_f14 h0_15 h0_16 h0_f17 h0_18 h0_19 h0_20 h0_21 h0_22 h0_23 h0_24 h0_25 h0_f26 h0_f27 h0_f28 h0_f29 h0_f30 h0_f31 h0_32 h0_33 h0_f34 h0_35 h0_36 h0_37 h0_38 h0_39 h0_40 h0_f41 h0_f42 h0_f43 h0_f44 h0_45 h0_46 h0_47 h0_48 h0_49 h0_50 h0_f51 h0_52 h0_f53 h2 h2k j45b_h2c h0_5 h0_5k tN h0_5c) := hD
            refine lv_aload_n hx hb dX12_readItems_94 rfl (lv_at hl 4 rfl) ?_
            as_aux_lemma =>
            refine lv_iload_n hx hb dX12_readItems_95 rfl (lv_at hl 5 rfl) ?_
            refine lv_iload hx hb dX12_readItems_96 (lv_at hl 1 rfl) ?_
            refine lv_iadd hx hb dX12_readItems_98 ?_
            refine lv_topi (fun x_298 ex_298 => ?_)
            replace hEX := hEX.trans (exl_eq ex_298)
            have g_299 : RG x_298 3 11 := RG_add ex_298 g_p3 (RG_k 3 3 rfl) (by decide +kernel)
            refine lv_aload_n hx hb dX12_readItems_99 rfl (lv_at hl 2 rfl) ?_
            refine lv_iload_n hx hb dX12_readItems_100 rfl (lv_at hl 3 rfl) ?_
            refine lv_iload hx hb dX12_readItems_101 (lv_at hl 1 rfl) ?_
            obtain ⟨hPc, hDc, hFc, hqc⟩ := cl_cut (wc := []) hP hD hS hA [] (by decide +kernel) rfl
            have hKc := hK.sub (tys' := []) [] rfl
            refine va_calli (va_runS (As := [.int p1, .int 3]) (rest := [.ref h0, .int x_298, .ref h2]) ⟨hx, hb, hml, hown, hts⟩ (c_X12_leastOf_3 l dC dI H.size p1 3 g_p1 (RG_w (RG_k 3 3 rfl) (by decide +kernel))) (va_cwS 2 hts gf_c_X12_readItems_c_X12_leastOf_3 rfl rfl rfl md_X12_leastOf ⟨Nat.le_of_ble_eq_true rfl, Nat.le_of_ble_eq_true rfl⟩) ⟨fun a U g mk q => by obtain ⟨q0, q1, qP, qK, qD⟩ := q; exact ⟨q0, q1, qP, va_K.moved (u := U) (U := U.calling g mk a) (Vm.Alike.refl U.vm) qK, qD⟩, fun U hU hW => ⟨rfl, by rw [hU], by rw [hU]; exact hPc, va_K.moved hW.alike hKc, hDc.weaken (fun _ _ _ _ => trivial)⟩⟩ rfl rfl hl.1 rfl (lv_room (Nat.le_of_ble_eq_true rfl)) dX12_readItems_103 ⟨Nat.le_of_ble_eq_true rfl, Nat.le_of_ble_eq_true rfl⟩) hS (fun q _ h => hFc q h) hFc (fun r_300 u t H1 locs ht hvm hw hB hz1 hk1 hS => ?_)
            obtain ⟨hP1, hK1, hD1⟩ := hB
            rw [ht] at hP1
            have hP := bv_still hP hk1
            generalize H1 = H at hP hS ⊢
            as_aux_lemma =>
            rcases hw with ⟨h_301, h_302⟩ | ⟨h_303, h_304, h_305⟩
            · have h_302 : r_300 = _ := h_302
              replace hEX := hEX.trans (exc1_eq h_302)
              replace hEX := hEX.trans (if_pos (show r_300 = 0 from h_301))
              rw [h_301]
              refine lv_iload_n hx hb dX12_readItems_106 rfl (lv_at hl 3 rfl) ?_
              refine lv_iload hx hb dX12_readItems_107 (lv_at hl 1 rfl) ?_
              obtain ⟨hPc, hDc, hFc, hqc⟩ := cl_cut (wc := []) hP hD hS hA [] (by decide +kernel) rfl
              have hKc := hK.sub (tys' := []) [] rfl
              refine va_calli (va_runS (As := [.int p1, .int 3]) (rest := [.int 0, .ref h0, .int x_298, .ref h2]) ⟨hx, hb, hml, hown, hts⟩ (c_X12_mostOf_3 l dC dI H.size p1 3 g_p1 (RG_w (RG_k 3 3 rfl) (by decide +kernel))) (va_cwS 2 hts gf_c_X12_readItems_c_X12_mostOf_3 rfl rfl rfl md_X12_mostOf ⟨Nat.le_of_ble_eq_true rfl, Nat.le_of_ble_eq_true rfl⟩) ⟨fun a U g mk q => by obtain ⟨q0, q1, qP, qK, qD⟩ := q; exact ⟨q0, q1, qP, va_K.moved (u := U) (U := U.calling g mk a) (Vm.Alike.refl U.vm) qK, qD⟩, fun U hU hW => ⟨rfl, by rw [hU], by rw [hU]; exact hPc, va_K.moved hW.alike hKc, hDc.weaken (fun _ _ _ _ => trivial)⟩⟩ rfl rfl hl.1 rfl (lv_room (Nat.le_of_ble_eq_true rfl)) dX12_readItems_109 ⟨Nat.le_of_ble_eq_true rfl, Nat.le_of_ble_eq_true rfl⟩) hS (fun q _ h => hFc q h) hFc (fun r_306 u t H1 locs ht hvm hw hB hz1 hk1 hS => ?_)
              obtain ⟨hP1, hK1, hD1⟩ := hB
              rw [ht] at hP1
              have hP := bv_still hP hk1
              generalize H1 = H at hP hS ⊢
              as_aux_lemma =>
              rcases hw with ⟨h_307, h_308⟩ | ⟨h_309, h_310, h_311⟩
              · have h_308 : r_306 = _ := h_308
                replace hEX := hEX.trans (exc1_eq h_308)
                replace hEX := hEX.trans (if_pos (show r_306 = 9 from h_307))
                rw [h_307]
                obtain ⟨hPc, hDc, hFc, hqc⟩ := cl_cut (wc := (wd_c_X12_number h0 h0_f0 h0_1 h0_2 h0_3 h0_4 h0_5 h0_f6 h0_f7 h0_f8 h0_f9 x_295 (-1) h0_f12 h0_f13 h0_f14 h0_15 h0_16 h0_f17 h0_18 h0_19 h0_20 h0_21 h0_22 h0_23 h0_24 h0_25 h0_f26 h0_f27 h0_f28 h0_f29 h0_f30 h0_f31 h0_32 h0_33 h0_f34 h0_35 h0_36 h0_37 h0_38 h0_39 h0_40 h0_f41 h0_f42 h0_f43 h0_f44 h0_45 h0_46 h0_47 h0_48 h0_49 h0_50 h0_f51 h0_52 h0_f53 h0_5 h0_5k tN h0_5c)) hP hD hS hA [0, 2] (by decide +kernel) rfl
                have hKc := hK.sub (tys' := [(h0_5k, .byte)]) [1] rfl
                have hrv := va_recv hKc hPc (ci := 12) (q0 := 0) rfl rfl
                refine va_calli (va_runV (As := [.int 0, .int 9]) (rest := [.int x_298, .ref h2]) ⟨hx, hb, hml, hown, hts⟩ (c_X12_number l dC dI H.size h0 h0_f0 h0_1 h0_2 h0_3 h0_4 h0_5 h0_f6 h0_f7 h0_f8 h0_f9 x_295 h0_f12 h0_f13 h0_f14 h0_15 h0_16 h0_f17 h0_18 h0_19 h0_20 h0_21 h0_22 h0_23 h0_24 h0_25 h0_f26 h0_f27 h0_f28 h0_f29 h0_f30 h0_f31 h0_32 h0_33 h0_f34 h0_35 h0_36 h0_37 h0_38 h0_39 h0_40 h0_f41 h0_f42 h0_f43 h0_f44 h0_45 h0_46 h0_47 h0_48 h0_49 h0_50 h0_f51 h0_52 h0_f53 h0_5k h0_5c tN g_h0_f6 g_h0_f7 g_h0_f8 (RG_w g_h0_f9 (by decide +kernel)) (RG_w g_296 (by decide +kernel)) g_h0_f17 g_h0_f26 g_h0_f27 g_h0_f28 g_h0_f29 g_h0_f30 g_h0_f31 g_h0_f34 g_h0_f41 g_h0_f51 g_h0_f53 htN) (cwV 2 hts gf_c_X12_readItems_c_X12_number rfl rfl rfl mdV_X12_number ⟨Nat.le_of_ble_eq_true rfl, Nat.le_of_ble_eq_true rfl⟩) ⟨fun a U g mk q => by obtain ⟨q0, q1, qP, qK, qD⟩ := q; exact ⟨q0, q1, qP, va_K.moved (u := U) (U := U.calling g mk a) (Vm.Alike.refl U.vm) qK, qD⟩, hrv, fun U hU hW => ⟨rfl, by rw [hU], by rw [hU]; exact hPc, va_K.moved hW.alike hKc, hDc.weaken (fun _ _ _ _ => trivial)⟩⟩ rfl rfl hl.1 rfl (lv_room (Nat.le_of_ble_eq_true rfl)) dX12_readItems_112 ⟨Nat.le_of_ble_eq_true rfl, Nat.le_of_ble_eq_true rfl⟩) hS (fun q _ h => hFc q h) hFc (fun r_312 u t H1 locs ht hvm hw hB hz1 hk1 hS => ?_)
                obtain ⟨x_313, x_314⟩ := u
                obtain ⟨hP1, hK1, hD1⟩ := hB
                rw [ht] at hP1
                obtain ⟨hP, hD⟩ := cl_put (w1 := (wd_c_X12_number h0 h0_f0 h0_1 h0_2 h0_3 h0_4 h0_5 h0_f6 h0_f7 h0_f8 h0_f9 x_313 x_314 h0_f12 h0_f13 h0_f14 h0_15 h0_16 h0_f17 h0_18 h0_19 h0_20 h0_21 h0_22 h0_23 h0_24 h0_25 h0_f26 h0_f27 h0_f28 h0_f29 h0_f30 h0_f31 h0_32 h0_33 h0_f34 h0_35 h0_36 h0_37 h0_38 h0_39 h0_40 h0_f41 h0_f42 h0_f43 h0_f44 h0_45 h0_46 h0_47 h0_48 h0_49 h0_50 h0_f51 h0_52 h0_f53 h0_5 h0_5k tN h0_5c)) (nw := (wd_c_X12_readItems h0 h0_f0 h0_1 h0_2 h0_3 h0_4 h0_5 h0_f6 h0_f7 h0_f8 h0_f9 x_313 x_314 h0_f12 h0_f13 h0_f14 h0_15 h0_16 h0_f17 h0_18 h0_19 h0_20 h0_21 h0_22 h0_23 h0_24 h0_25 h0_f26 h0_f27 h0_f28 h0_f29 h0_f30 h0_f31 h0_32 h0_33 h0_f34 h0_35 h0_36 h0_37 h0_38 h0_39 h0_40 h0_f41 h0_f42 h0_f43 h0_f44 h0_45 h0_46 h0_47 h0_48 h0_49 h0_50 h0_f51 h0_52 h0_f53 h2 h2k j45b_h2c h0_5 h0_5k tN h0_5c)) hP hD [0, 2] [3, 1, 4] 3 rfl hqc (by decide +kernel) rfl hk1 hFc hP1 hD1
                generalize H1 = H at hP hS ⊢
                as_aux_lemma =>
                rcases hw with ⟨h_315, h_316, h_317, h_318, h_319, h_320⟩ | ⟨h_321, h_322, h_323, h_324, h_325⟩ | ⟨h_326, h_327, h_328, h_329, h_330⟩
                · have h_320 : (r_312, x_313, x_314) = _ := h_320
                  replace hEX := hEX.trans (exc3_eq h_320)
                  replace hEX := hEX.trans (if_pos (show x_314 = (-1) from h_317))
                  subst h_317
                  have h_319 : x_295.toInt + 1 ≤ x_313.toInt := h_319
                  refine va_iast hx hb hK hP hD hS 1 0 rfl rfl (RG_in g_299 (by decide +kernel)) dX12_readItems_115 (fun H locs hP hD hS => ?_)
                  have hP : va_P (dC, dI) vwCl (wd_c_X12_readItems h0 h0_f0 h0_1 h0_2 h0_3 h0_4 h0_5 h0_f6 h0_f7 h0_f8 h0_f9 x_313 (-1) h0_f12 h0_f13 h0_f14 h0_15 h0_16 h0_f17 h0_18 h0_19 h0_20 h0_21 h0_22 h0_23 h0_24 h0_25 h0_f26 h0_f27 h0_f28 h0_f29 h0_f30 h0_f31 h0_32 h0_33 h0_f34 h0_35 h0_36 h0_37 h0_38 h0_39 h0_40 h0_f41 h0_f42 h0_f43 h0_f44 h0_45 h0_46 h0_47 h0_48 h0_49 h0_50 h0_f51 h0_52 h0_f53 h2 h2k (upd j45b_h2c (x_298 : Int32).toNatClampNeg r_312) h0_5 h0_5k tN h0_5c) H := hP
                  have hD : va_D A (wd_c_X12_readItems h0 h0_f0 h0_1 h0_2 h0_3 h0_4 h0_5 h0_f6 h0_f7 h0_f8 h0_f9 x_313 (-1) h0_f12 h0_f13 h0_f14 h0_15 h0_16 h0_f17 h0_18 h0_19 h0_20 h0_21 h0_22 h0_23 h0_24 h0_25 h0_f26 h0_f27 h0_f28 h0_f29 h0_f30 h0_f31 h0_32 h0_33 h0_f34 h0_35 h0_36 h0_37 h0_38 h0_39 h0_40 h0_f41 h0_f42 h0_f43 h0_f44 h0_45 h0_46 h0_47 h0_48 h0_49 h0_50 h0_f51 h0_52 h0_f53 h2 h2k (upd j45b_h2c (x_298 : Int32).toNatClampNeg r_312) h0_5 h0_5k tN h0_5c) := hD
                  have l_332 : (upd j45b_h2c (x_298 : Int32).toNatClampNeg r_312) (x_298 : Int32).toNatClampNeg = r_312 := pk_us
                  have i_333 : BOi (p3.toInt + 4) (upd j45b_h2c (x_298 : Int32).toNatClampNeg r_312) := BOi_keep i_45b_h2 g_299 (by decide +kernel) (Or.inr (Or.inl (by have := hrow; have := eq_add ex_298 g_p3 (q := 3) rfl (by decide +kernel); omega)))
                  have a_334 : AI (upd j45b_h2c (x_298 : Int32).toNatClampNeg r_312) 0 99 := AI_up a_j45b_h2c h_315 (by decide +kernel)
                  generalize huw_331 : (upd j45b_h2c (x_298 : Int32).toNatClampNeg r_312) = w_331 at hP hD a_334 l_332 i_333
                  replace hEX := hEX.trans (exl_eq huw_331.symm)
                  have hP : va_P (dC, dI) vwCl (wd_c_X12_readItems h0 h0_f0 h0_1 h0_2 h0_3 h0_4 h0_5 h0_f6 h0_f7 h0_f8 h0_f9 x_313 (-1) h0_f12 h0_f13 h0_f14 h0_15 h0_16 h0_f17 h0_18 h0_19 h0_20 h0_21 h0_22 h0_23 h0_24 h0_25 h0_f26 h0_f27 h0_f28 h0_f29 h0_f30 h0_f31 h0_32 h0_33 h0_f34 h0_35 h0_36 h0_37 h0_38 h0_39 h0_40 h0_f41 h0_f42 h0_f43 h0_f44 h0_45 h0_46 h0_47 h0_48 h0_49 h0_50 h0_f51 h0_52 h0_f53 h2 h2k w_331 h0_5 h0_5k tN h0_5c) H := hP
                  have hD : va_D A (wd_c_X12_readItems h0 h0_f0 h0_1 h0_2 h0_3 h0_4 h0_5 h0_f6 h0_f7 h0_f8 h0_f9 x_313 (-1) h0_f12 h0_f13 h0_f14 h0_15 h0_16 h0_f17 h0_18 h0_19 h0_20 h0_21 h0_22 h0_23 h0_24 h0_25 h0_f26 h0_f27 h0_f28 h0_f29 h0_f30 h0_f31 h0_32 h0_33 h0_f34 h0_35 h0_36 h0_37 h0_38 h0_39 h0_40 h0_f41 h0_f42 h0_f43 h0_f44 h0_45 h0_46 h0_47 h0_48 h0_49 h0_50 h0_f51 h0_52 h0_f53 h2 h2k w_331 h0_5 h0_5k tN h0_5c) := hD
                  refine lv_aload_n hx hb dX12_readItems_116 rfl (lv_at hl 2 rfl) ?_
                  as_aux_lemma =>
                  refine va_get (D := (dC, dI)) (ci := 12) (v := .int (-1)) (C := RX12) (T := TX12) (N := 54) hx hb hts iw_c_X12_readItems_X12 hown hK hP 0 rfl rfl 11 (by decide +kernel) (hts (.fieldLink RX12 143 "BuoyVoteModel" "fault" "I") (List.mem_of_getElem? (i := 48) rfl)) (fun _ h9 => h9) rfl dX12_readItems_117 ?_
                  refine lv_iconst (v := (-1)) hx hb dX12_readItems_120 kc_iconst_m1 ?_
                  refine lv_icmp_ne (tgt := 45) hx hb dX12_readItems_121 rfl (fun c_335 => absurd c_335 (by decide +kernel)) (fun c_335 => ?_)
                  refine lv_aload hx hb dX12_readItems_124 (lv_at hl 6 rfl) ?_
                  refine lv_aload_n hx hb dX12_readItems_126 rfl (lv_at hl 2 rfl) ?_
                  obtain ⟨hPc, hDc, hFc, hqc⟩ := cl_cut (wc := (wd_c_X12_look h0 h0_f0 h0_1 h0_2 h0_3 h0_4 h0_5 h0_f6 h0_f7 h0_f8 h0_f9 x_313 (-1) h0_f12 h0_f13 h0_f14 h0_15 h0_16 h0_f17 h0_18 h0_19 h0_20 h0_21 h0_22 h0_23 h0_24 h0_25 h0_f26 h0_f27 h0_f28 h0_f29 h0_f30 h0_f31 h0_32 h0_33 h0_f34 h0_35 h0_36 h0_37 h0_38 h0_39 h0_40 h0_f41 h0_f42 h0_f43 h0_f44 h0_45 h0_46 h0_47 h0_48 h0_49 h0_50 h0_f51 h0_52 h0_f53 h0_5 h0_5k tN h0_5c)) hP hD hS hA [0, 2] (by decide +kernel) rfl
                  have hKc := hK.sub (tys' := [(h0_5k, .byte)]) [1] rfl
                  have hrv := va_recv hKc hPc (ci := 12) (q0 := 0) rfl rfl
                  refine va_calli (va_runV (As := []) (rest := [.ref ts10]) ⟨hx, hb, hml, hown, hts⟩ (c_X12_look l dC dI H.size h0 h0_f0 h0_1 h0_2 h0_3 h0_4 h0_5 h0_f6 h0_f7 h0_f8 h0_f9 x_313 h0_f12 h0_f13 h0_f14 h0_15 h0_16 h0_f17 h0_18 h0_19 h0_20 h0_21 h0_22 h0_23 h0_24 h0_25 h0_f26 h0_f27 h0_f28 h0_f29 h0_f30 h0_f31 h0_32 h0_33 h0_f34 h0_35 h0_36 h0_37 h0_38 h0_39 h0_40 h0_f41 h0_f42 h0_f43 h0_f44 h0_45 h0_46 h0_47 h0_48 h0_49 h0_50 h0_f51 h0_52 h0_f53 h0_5k h0_5c tN g_h0_f6 g_h0_f7 g_h0_f8 (RG_w g_h0_f9 (by decide +kernel)) (RG_w h_316 (by decide +kernel)) g_h0_f17 g_h0_f26 g_h0_f27 g_h0_f28 g_h0_f29 g_h0_f30 g_h0_f31 g_h0_f34 g_h0_f41 g_h0_f51 g_h0_f53 htN) (cwV 0 hts gf_c_X12_readItems_c_X12_look rfl rfl rfl mdV_X12_look ⟨Nat.le_of_ble_eq_true rfl, Nat.le_of_ble_eq_true rfl⟩) ⟨fun a U g mk q => by obtain ⟨q0, q1, qP, qK, qD⟩ := q; exact ⟨q0, q1, qP, va_K.moved (u := U) (U := U.calling g mk a) (Vm.Alike.refl U.vm) qK, qD⟩, hrv, fun U hU hW => ⟨rfl, by rw [hU], by rw [hU]; exact hPc, va_K.moved hW.alike hKc, hDc.weaken (fun _ _ _ _ => trivial)⟩⟩ rfl rfl hl.1 rfl (lv_room (Nat.le_of_ble_eq_true rfl)) dX12_readItems_127 ⟨Nat.le_of_ble_eq_true rfl, Nat.le_of_ble_eq_true rfl⟩) hS (fun q _ h => hFc q h) hFc (fun r_336 x_337 t H1 locs ht hvm hw hB hz1 hk1 hS => ?_)
                  obtain ⟨hP1, hK1, hD1⟩ := hB
                  rw [ht] at hP1
                  obtain ⟨hP, hD⟩ := cl_put (w1 := (wd_c_X12_look h0 h0_f0 h0_1 h0_2 h0_3 h0_4 h0_5 h0_f6 h0_f7 h0_f8 h0_f9 x_337 (-1) h0_f12 h0_f13 h0_f14 h0_15 h0_16 h0_f17 h0_18 h0_19 h0_20 h0_21 h0_22 h0_23 h0_24 h0_25 h0_f26 h0_f27 h0_f28 h0_f29 h0_f30 h0_f31 h0_32 h0_33 h0_f34 h0_35 h0_36 h0_37 h0_38 h0_39 h0_40 h0_f41 h0_f42 h0_f43 h0_f44 h0_45 h0_46 h0_47 h0_48 h0_49 h0_50 h0_f51 h0_52 h0_f53 h0_5 h0_5k tN h0_5c)) (nw := (wd_c_X12_readItems h0 h0_f0 h0_1 h0_2 h0_3 h0_4 h0_5 h0_f6 h0_f7 h0_f8 h0_f9 x_337 (-1) h0_f12 h0_f13 h0_f14 h0_15 h0_16 h0_f17 h0_18 h0_19 h0_20 h0_21 h0_22 h0_23 h0_24 h0_25 h0_f26 h0_f27 h0_f28 h0_f29 h0_f30 h0_f31 h0_32 h0_33 h0_f34 h0_35 h0_36 h0_37 h0_38 h0_39 h0_40 h0_f41 h0_f42 h0_f43 h0_f44 h0_45 h0_46 h0_47 h0_48 h0_49 h0_50 h0_f51 h0_52 h0_f53 h2 h2k w_331 h0_5 h0_5k tN h0_5c)) hP hD [0, 2] [3, 1, 4] 3 rfl hqc (by decide +kernel) rfl hk1 hFc hP1 hD1
                  generalize H1 = H at hP hS ⊢
                  as_aux_lemma =>
                  rcases hw with ⟨h_338, h_339, h_340, h_341, h_342, h_343⟩ | ⟨h_344, h_345, h_346, h_347, h_348, h_349, h_350⟩
                  · have h_343 : (r_336, x_337) = _ := h_343
                    replace hEX := hEX.trans (exc2_eq h_343)
                    replace hEX := hEX.trans (if_pos (show r_336 = (-1) from h_338))
                    rw [h_338]
                    obtain ⟨hPc, hDc, hFc, hqc⟩ := cl_cut (wc := []) hP hD hS hA [] (by decide +kernel) rfl
                    have hKc := hK.sub (tys' := []) [] rfl
                    refine va_calli (va_runS (As := [.ref ts10, .int (-1)]) (rest := []) ⟨hx, hb, hml, hown, hts⟩ (c_X12_spotOf l dC dI H.size ts10 tv10) (va_cwS 2 hts gf_c_X12_readItems_c_X12_spotOf rfl rfl rfl md_X12_spotOf ⟨Nat.le_of_ble_eq_true rfl, Nat.le_of_ble_eq_true rfl⟩) ⟨fun a U g mk q => by obtain ⟨q0, q1, qP, qK, qD, qE0, qE1, qE2, qE3, qE4, qE5⟩ := q; exact ⟨q0, q1, qP, va_K.moved (u := U) (U := U.calling g mk a) (Vm.Alike.refl U.vm) qK, qD, va_OF.moved (u := U) (U := U.calling g mk a) (Vm.Alike.refl U.vm) qE0, va_T.moved (u := U) (U := U.calling g mk a) (Vm.Alike.refl U.vm) qE1, va_Z.moved (u := U) (U := U.calling g mk a) (Vm.Alike.refl U.vm) qE2, va_OF.moved (u := U) (U := U.calling g mk a) (Vm.Alike.refl U.vm) qE3, va_O.moved (u := U) (U := U.calling g mk a) (Vm.Alike.refl U.vm) qE4, va_Zq.moved (u := U) (U := U.calling g mk a) (Vm.Alike.refl U.vm) qE5⟩, fun U hU hW => ⟨rfl, by rw [hU], by rw [hU]; exact hPc, va_K.moved hW.alike hKc, hDc.weaken (fun _ _ _ _ => trivial), va_OF.moved hW.alike (by rw [hU]; exact (hE_65.kept hS.2.1).narrow hFc), va_T.moved hW.alike (by rw [hU]; exact (hE_66.kept hS.2.1).narrow hFc), va_Z.moved hW.alike (by rw [hU]; exact (hE_10.kept hS.2.1).narrow hFc), va_OF.moved hW.alike (by rw [hU]; exact (hE_64.kept hS.2.1).narrow hFc), va_O.moved hW.alike (by rw [hU]; exact (hE_63.kept hS.2.1).narrow hFc), va_Zq.moved hW.alike (by rw [hU]; exact (hE_11.kept hS.2.1).narrow hFc)⟩⟩ rfl rfl hl.1 rfl (lv_room (Nat.le_of_ble_eq_true rfl)) dX12_readItems_130 ⟨Nat.le_of_ble_eq_true rfl, Nat.le_of_ble_eq_true rfl⟩) hS (fun q _ h => hFc q h) hFc (fun r_351 u t H1 locs ht hvm hw hB hz1 hk1 hS => ?_)
                    obtain ⟨hP1, hK1, hD1⟩ := hB
                    rw [ht] at hP1
                    have hP := bv_still hP hk1
                    generalize H1 = H at hP hS ⊢
                    as_aux_lemma =>
                    rcases hw with ⟨h_352, h_353⟩
                    have h_353 : r_351 = _ := h_353
                    replace hEX := hEX.trans (exc1_eq h_353)
                    rw [h_352]
                    refine lv_istore (lv' := [(6, .int (-1)), (5, .int x_294), (0, .ref h0), (1, .int p1), (2, .ref h2), (3, .int p3), (4, .ref ts10)]) hx hb dX12_readItems_133 hl (Nat.le_of_ble_eq_true rfl) rfl (fun ls hl => ?_)
                    refine lv_goto (tgt := 45) hx hb dX12_readItems_135 rfl ?_
                    exact hU _ _ _ (J45 x_294 x_337 w_331 g_h0_f10 g_h0_f17 g_h0_f26 g_h0_f27 g_h0_f28 g_h0_f29 g_h0_f30 g_h0_f31 g_h0_f34 g_h0_f41 g_h0_f51 g_h0_f53 g_h0_f6 g_h0_f7 g_h0_f8 (RG_w g_h0_f9 (by decide +kernel)) h_339 g_p1 g_p3 a_334 i_333 (by have := r_h0_f10_j45b_h0_f10; have := q_297; have := h_319; have := h_340; omega) hEX _ _ _ hP hD hS (lv_sub hl [0, 1, 2, 3, 4, 5, 6] rfl))
                  · have h_350 : (r_336, x_337) = _ := h_350
                    replace hEX := hEX.trans (exc2_eq h_350)
                    replace hEX := hEX.trans (if_neg (RG_neq (x := r_336) (c := (-1)) (show RG r_336 0 255 from h_344) (by decide +kernel)))
                    have nb_354 := h_349.2.resolve_left (fun q => by have g9 := h_344; rw [q] at g9; exact absurd g9.1 (by decide +kernel))
                    obtain ⟨hPc, hDc, hFc, hqc⟩ := cl_cut (wc := []) hP hD hS hA [] (by decide +kernel) rfl
                    have hKc := hK.sub (tys' := []) [] rfl
                    refine va_calli (va_runS (As := [.ref ts10, .int r_336]) (rest := []) ⟨hx, hb, hml, hown, hts⟩ (c_X12_spotOf_1 l dC dI H.size ts10 r_336 tv10 h_344) (va_cwS 2 hts gf_c_X12_readItems_c_X12_spotOf_1 rfl rfl rfl md_X12_spotOf ⟨Nat.le_of_ble_eq_true rfl, Nat.le_of_ble_eq_true rfl⟩) ⟨fun a U g mk q => by obtain ⟨q0, q1, qP, qK, qD, qE0, qE1, qE2, qE3, qE4, qE5⟩ := q; exact ⟨q0, q1, qP, va_K.moved (u := U) (U := U.calling g mk a) (Vm.Alike.refl U.vm) qK, qD, va_OF.moved (u := U) (U := U.calling g mk a) (Vm.Alike.refl U.vm) qE0, va_T.moved (u := U) (U := U.calling g mk a) (Vm.Alike.refl U.vm) qE1, va_Z.moved (u := U) (U := U.calling g mk a) (Vm.Alike.refl U.vm) qE2, va_OF.moved (u := U) (U := U.calling g mk a) (Vm.Alike.refl U.vm) qE3, va_O.moved (u := U) (U := U.calling g mk a) (Vm.Alike.refl U.vm) qE4, va_Zq.moved (u := U) (U := U.calling g mk a) (Vm.Alike.refl U.vm) qE5⟩, fun U hU hW => ⟨rfl, by rw [hU], by rw [hU]; exact hPc, va_K.moved hW.alike hKc, hDc.weaken (fun _ _ _ _ => trivial), va_OF.moved hW.alike (by rw [hU]; exact (hE_65.kept hS.2.1).narrow hFc), va_T.moved hW.alike (by rw [hU]; exact (hE_66.kept hS.2.1).narrow hFc), va_Z.moved hW.alike (by rw [hU]; exact (hE_10.kept hS.2.1).narrow hFc), va_OF.moved hW.alike (by rw [hU]; exact (hE_64.kept hS.2.1).narrow hFc), va_O.moved hW.alike (by rw [hU]; exact (hE_63.kept hS.2.1).narrow hFc), va_Zq.moved hW.alike (by rw [hU]; exact (hE_11.kept hS.2.1).narrow hFc)⟩⟩ rfl rfl hl.1 rfl (lv_room (Nat.le_of_ble_eq_true rfl)) dX12_readItems_130 ⟨Nat.le_of_ble_eq_true rfl, Nat.le_of_ble_eq_true rfl⟩) hS (fun q _ h => hFc q h) hFc (fun r_355 u t H1 locs ht hvm hw hB hz1 hk1 hS => ?_)
                    as_aux_lemma =>
                    obtain ⟨hP1, hK1, hD1⟩ := hB
                    rw [ht] at hP1
                    have hP := bv_still hP hk1
                    generalize H1 = H at hP hS ⊢
                    as_aux_lemma =>
                    rcases hw with ⟨h_356, h_357⟩ | ⟨h_358, h_359, h_360⟩ | ⟨h_361, h_362, h_363⟩ | ⟨h_364, h_365, h_366⟩ | ⟨h_367, h_368, h_369⟩
                    · have h_357 : r_355 = _ := h_357
                      replace hEX := hEX.trans (exc1_eq h_357)
                      replace hEX := hEX.trans (if_pos (show r_355 = (-1) from h_356))
                      rw [h_356]
                      refine lv_istore (lv' := [(6, .int (-1)), (5, .int x_294), (0, .ref h0), (1, .int p1), (2, .ref h2), (3, .int p3), (4, .ref ts10)]) hx hb dX12_readItems_133 hl (Nat.le_of_ble_eq_true rfl) rfl (fun ls hl => ?_)
                      refine lv_goto (tgt := 45) hx hb dX12_readItems_135 rfl ?_
                      exact hU _ _ _ (J45 x_294 x_337 w_331 g_h0_f10 g_h0_f17 g_h0_f26 g_h0_f27 g_h0_f28 g_h0_f29 g_h0_f30 g_h0_f31 g_h0_f34 g_h0_f41 g_h0_f51 g_h0_f53 g_h0_f6 g_h0_f7 g_h0_f8 (RG_w g_h0_f9 (by decide +kernel)) (RG_w h_345 (by decide +kernel)) g_p1 g_p3 a_334 i_333 (by have := r_h0_f10_j45b_h0_f10; have := q_297; have := h_319; have := h_347; omega) hEX _ _ _ hP hD hS (lv_sub hl [0, 1, 2, 3, 4, 5, 6] rfl))
                    · have h_360 : r_355 = _ := h_360
                      replace hEX := hEX.trans (exc1_eq h_360)
                      replace hEX := hEX.trans (if_neg (fun q9 : r_355 = (-1) => absurd ((show r_355 = 3 from h_358).symm.trans q9) (by decide +kernel)))
                      replace hEX := hEX.trans (if_pos (show r_355 = 3 from h_358))
                      rw [h_358]
                      refine lv_istore (lv' := [(6, .int 3), (5, .int x_294), (0, .ref h0), (1, .int p1), (2, .ref h2), (3, .int p3), (4, .ref ts10)]) hx hb dX12_readItems_133 hl (Nat.le_of_ble_eq_true rfl) rfl (fun ls hl => ?_)
                      as_aux_lemma =>
                      refine lv_goto (tgt := 45) hx hb dX12_readItems_135 rfl ?_
                      exact hU _ _ _ (ih45b 3 x_294 x_337 w_331 (mu_s (MU_lt (by have := q_297; have := h_319; have := h_347; omega)) hM45b) g_h0_f10 g_h0_f17 g_h0_f26 g_h0_f27 g_h0_f28 g_h0_f29 g_h0_f30 g_h0_f31 g_h0_f34 g_h0_f41 g_h0_f51 g_h0_f53 g_h0_f6 g_h0_f7 g_h0_f8 g_h0_f9 h_345 (RG_w (RG_k 3 3 rfl) (by decide +kernel)) g_p1 g_p3 a_334 i_333 (by have := r_h0_f10_j45b_h0_f10; have := q_297; have := h_319; have := h_347; omega) hEX _ _ _ hP hD hS (lv_sub hl [0, 1, 2, 3, 4, 5, 6] rfl))
                    · have h_363 : r_355 = _ := h_363
                      replace hEX := hEX.trans (exc1_eq h_363)
                      replace hEX := hEX.trans (if_neg (fun q9 : r_355 = (-1) => absurd ((show r_355 = 2 from h_361).symm.trans q9) (by decide +kernel)))
                      replace hEX := hEX.trans (if_neg (fun q9 : r_355 = 3 => absurd ((show r_355 = 2 from h_361).symm.trans q9) (by decide +kernel)))
                      replace hEX := hEX.trans (if_pos (show r_355 = 2 from h_361))
                      rw [h_361]
                      refine lv_istore (lv' := [(6, .int 2), (5, .int x_294), (0, .ref h0), (1, .int p1), (2, .ref h2), (3, .int p3), (4, .ref ts10)]) hx hb dX12_readItems_133 hl (Nat.le_of_ble_eq_true rfl) rfl (fun ls hl => ?_)
                      refine lv_goto (tgt := 45) hx hb dX12_readItems_135 rfl ?_
                      exact hU _ _ _ (ih45b 2 x_294 x_337 w_331 (mu_s (MU_lt (by have := q_297; have := h_319; have := h_347; omega)) hM45b) g_h0_f10 g_h0_f17 g_h0_f26 g_h0_f27 g_h0_f28 g_h0_f29 g_h0_f30 g_h0_f31 g_h0_f34 g_h0_f41 g_h0_f51 g_h0_f53 g_h0_f6 g_h0_f7 g_h0_f8 g_h0_f9 h_345 (RG_w (RG_k 2 2 rfl) (by decide +kernel)) g_p1 g_p3 a_334 i_333 (by have := r_h0_f10_j45b_h0_f10; have := q_297; have := h_319; have := h_347; omega) hEX _ _ _ hP hD hS (lv_sub hl [0, 1, 2, 3, 4, 5, 6] rfl))
                    · have h_366 : r_355 = _ := h_366
                      replace hEX := hEX.trans (exc1_eq h_366)
                      replace hEX := hEX.trans (if_neg (fun q9 : r_355 = (-1) => absurd ((show r_355 = 1 from h_364).symm.trans q9) (by decide +kernel)))
                      replace hEX := hEX.trans (if_neg (fun q9 : r_355 = 3 => absurd ((show r_355 = 1 from h_364).symm.trans q9) (by decide +kernel)))
                      replace hEX := hEX.trans (if_neg (fun q9 : r_355 = 2 => absurd ((show r_355 = 1 from h_364).symm.trans q9) (by decide +kernel)))
                      replace hEX := hEX.trans (if_pos (show r_355 = 1 from h_364))
                      rw [h_364]
                      refine lv_istore (lv' := [(6, .int 1), (5, .int x_294), (0, .ref h0), (1, .int p1), (2, .ref h2), (3, .int p3), (4, .ref ts10)]) hx hb dX12_readItems_133 hl (Nat.le_of_ble_eq_true rfl) rfl (fun ls hl => ?_)
                      as_aux_lemma =>
                      refine lv_goto (tgt := 45) hx hb dX12_readItems_135 rfl ?_
                      exact hU _ _ _ (ih45b 1 x_294 x_337 w_331 (mu_s (MU_lt (by have := q_297; have := h_319; have := h_347; omega)) hM45b) g_h0_f10 g_h0_f17 g_h0_f26 g_h0_f27 g_h0_f28 g_h0_f29 g_h0_f30 g_h0_f31 g_h0_f34 g_h0_f41 g_h0_f51 g_h0_f53 g_h0_f6 g_h0_f7 g_h0_f8 g_h0_f9 h_345 (RG_w (RG_k 1 1 rfl) (by decide +kernel)) g_p1 g_p3 a_334 i_333 (by have := r_h0_f10_j45b_h0_f10; have := q_297; have := h_319; have := h_347; omega) hEX _ _ _ hP hD hS (lv_sub hl [0, 1, 2, 3, 4, 5, 6] rfl))
                    · have h_369 : r_355 = _ := h_369
                      replace hEX := hEX.trans (exc1_eq h_369)
                      replace hEX := hEX.trans (if_neg (fun q9 : r_355 = (-1) => absurd ((show r_355 = 0 from h_367).symm.trans q9) (by decide +kernel)))
                      replace hEX := hEX.trans (if_neg (fun q9 : r_355 = 3 => absurd ((show r_355 = 0 from h_367).symm.trans q9) (by decide +kernel)))
                      replace hEX := hEX.trans (if_neg (fun q9 : r_355 = 2 => absurd ((show r_355 = 0 from h_367).symm.trans q9) (by decide +kernel)))
                      replace hEX := hEX.trans (if_neg (fun q9 : r_355 = 1 => absurd ((show r_355 = 0 from h_367).symm.trans q9) (by decide +kernel)))
                      rw [h_367]
                      refine lv_istore (lv' := [(6, .int 0), (5, .int x_294), (0, .ref h0), (1, .int p1), (2, .ref h2), (3, .int p3), (4, .ref ts10)]) hx hb dX12_readItems_133 hl (Nat.le_of_ble_eq_true rfl) rfl (fun ls hl => ?_)
                      refine lv_goto (tgt := 45) hx hb dX12_readItems_135 rfl ?_
                      exact hU _ _ _ (ih45b 0 x_294 x_337 w_331 (mu_s (MU_lt (by have := q_297; have := h_319; have := h_347; omega)) hM45b) g_h0_f10 g_h0_f17 g_h0_f26 g_h0_f27 g_h0_f28 g_h0_f29 g_h0_f30 g_h0_f31 g_h0_f34 g_h0_f41 g_h0_f51 g_h0_f53 g_h0_f6 g_h0_f7 g_h0_f8 g_h0_f9 h_345 (RG_w (RG_k 0 0 rfl) (by decide +kernel)) g_p1 g_p3 a_334 i_333 (by have := r_h0_f10_j45b_h0_f10; have := q_297; have := h_319; have := h_347; omega) hEX _ _ _ hP hD hS (lv_sub hl [0, 1, 2, 3, 4, 5, 6] rfl))
                · have h_325 : (r_312, x_313, x_314) = _ := h_325
                  replace hEX := hEX.trans (exc3_eq h_325)
                  replace hEX := hEX.trans (if_neg (RG_neq (x := x_314) (c := (-1)) (show RG x_314 0 240 from h_323) (by decide +kernel)))
                  replace hEX := hEX.trans (if_pos (show r_312 = 0 from h_321))
                  rw [h_321]
                  have h_324 : x_295.toInt + 0 ≤ x_313.toInt := h_324
                  refine va_iast hx hb hK hP hD hS 1 0 rfl rfl (RG_in g_299 (by decide +kernel)) dX12_readItems_115 (fun H locs hP hD hS => ?_)
                  as_aux_lemma =>
                  have hP : va_P (dC, dI) vwCl (wd_c_X12_readItems h0 h0_f0 h0_1 h0_2 h0_3 h0_4 h0_5 h0_f6 h0_f7 h0_f8 h0_f9 x_313 x_314 h0_f12 h0_f13 h0_f14 h0_15 h0_16 h0_f17 h0_18 h0_19 h0_20 h0_21 h0_22 h0_23 h0_24 h0_25 h0_f26 h0_f27 h0_f28 h0_f29 h0_f30 h0_f31 h0_32 h0_33 h0_f34 h0_35 h0_36 h0_37 h0_38 h0_39 h0_40 h0_f41 h0_f42 h0_f43 h0_f44 h0_45 h0_46 h0_47 h0_48 h0_49 h0_50 h0_f51 h0_52 h0_f53 h2 h2k (upd j45b_h2c (x_298 : Int32).toNatClampNeg 0) h0_5 h0_5k tN h0_5c) H := hP
                  have hD : va_D A (wd_c_X12_readItems h0 h0_f0 h0_1 h0_2 h0_3 h0_4 h0_5 h0_f6 h0_f7 h0_f8 h0_f9 x_313 x_314 h0_f12 h0_f13 h0_f14 h0_15 h0_16 h0_f17 h0_18 h0_19 h0_20 h0_21 h0_22 h0_23 h0_24 h0_25 h0_f26 h0_f27 h0_f28 h0_f29 h0_f30 h0_f31 h0_32 h0_33 h0_f34 h0_35 h0_36 h0_37 h0_38 h0_39 h0_40 h0_f41 h0_f42 h0_f43 h0_f44 h0_45 h0_46 h0_47 h0_48 h0_49 h0_50 h0_f51 h0_52 h0_f53 h2 h2k (upd j45b_h2c (x_298 : Int32).toNatClampNeg 0) h0_5 h0_5k tN h0_5c) := hD
                  have l_371 : (upd j45b_h2c (x_298 : Int32).toNatClampNeg 0) (x_298 : Int32).toNatClampNeg = 0 := pk_us
                  have i_372 : BOi (p3.toInt + 4) (upd j45b_h2c (x_298 : Int32).toNatClampNeg 0) := BOi_keep i_45b_h2 g_299 (by decide +kernel) (Or.inr (Or.inl (by have := hrow; have := eq_add ex_298 g_p3 (q := 3) rfl (by decide +kernel); omega)))
                  have a_373 : AI (upd j45b_h2c (x_298 : Int32).toNatClampNeg 0) 0 99 := AI_up a_j45b_h2c (RG_k 0 0 rfl) (by decide +kernel)
                  generalize huw_370 : (upd j45b_h2c (x_298 : Int32).toNatClampNeg 0) = w_370 at hP hD a_373 l_371 i_372
                  replace hEX := hEX.trans (exl_eq huw_370.symm)
                  have hP : va_P (dC, dI) vwCl (wd_c_X12_readItems h0 h0_f0 h0_1 h0_2 h0_3 h0_4 h0_5 h0_f6 h0_f7 h0_f8 h0_f9 x_313 x_314 h0_f12 h0_f13 h0_f14 h0_15 h0_16 h0_f17 h0_18 h0_19 h0_20 h0_21 h0_22 h0_23 h0_24 h0_25 h0_f26 h0_f27 h0_f28 h0_f29 h0_f30 h0_f31 h0_32 h0_33 h0_f34 h0_35 h0_36 h0_37 h0_38 h0_39 h0_40 h0_f41 h0_f42 h0_f43 h0_f44 h0_45 h0_46 h0_47 h0_48 h0_49 h0_50 h0_f51 h0_52 h0_f53 h2 h2k w_370 h0_5 h0_5k tN h0_5c) H := hP
                  have hD : va_D A (wd_c_X12_readItems h0 h0_f0 h0_1 h0_2 h0_3 h0_4 h0_5 h0_f6 h0_f7 h0_f8 h0_f9 x_313 x_314 h0_f12 h0_f13 h0_f14 h0_15 h0_16 h0_f17 h0_18 h0_19 h0_20 h0_21 h0_22 h0_23 h0_24 h0_25 h0_f26 h0_f27 h0_f28 h0_f29 h0_f30 h0_f31 h0_32 h0_33 h0_f34 h0_35 h0_36 h0_37 h0_38 h0_39 h0_40 h0_f41 h0_f42 h0_f43 h0_f44 h0_45 h0_46 h0_47 h0_48 h0_49 h0_50 h0_f51 h0_52 h0_f53 h2 h2k w_370 h0_5 h0_5k tN h0_5c) := hD
                  refine lv_aload_n hx hb dX12_readItems_116 rfl (lv_at hl 2 rfl) ?_
                  refine va_get (D := (dC, dI)) (ci := 12) (v := .int x_314) (C := RX12) (T := TX12) (N := 54) hx hb hts iw_c_X12_readItems_X12 hown hK hP 0 rfl rfl 11 (by decide +kernel) (hts (.fieldLink RX12 143 "BuoyVoteModel" "fault" "I") (List.mem_of_getElem? (i := 48) rfl)) (fun _ h9 => h9) rfl dX12_readItems_117 ?_
                  refine lv_iconst (v := (-1)) hx hb dX12_readItems_120 kc_iconst_m1 ?_
                  refine lv_icmp_ne (tgt := 45) hx hb dX12_readItems_121 rfl (fun c_374 => ?_) (fun c_374 => ?_)
                  · replace hEX := hEX.trans (if_neg c_374)
                    exact hU _ _ _ (J45c x_294 3 x_313 x_314 w_370 g_h0_f10 g_h0_f17 g_h0_f26 g_h0_f27 g_h0_f28 g_h0_f29 g_h0_f30 g_h0_f31 g_h0_f34 g_h0_f41 g_h0_f51 g_h0_f53 g_h0_f6 g_h0_f7 g_h0_f8 g_h0_f9 h_322 h_323 (RG_w (RG_k 3 3 rfl) (by decide +kernel)) g_p1 g_p3 a_373 hEX _ _ _ hP hD hS (lv_sub hl [0, 1, 2, 3, 4, 5, 6] rfl))
                  · replace hEX := hEX.trans (if_pos c_374)
                    exact RG_dead (RG_eq1 h_323 (RG_k (-1) (-1) rfl) c_374 (a' := 0) (b' := (-1)) (by decide +kernel)) (by decide +kernel)
                · have h_330 : (r_312, x_313, x_314) = _ := h_330
                  replace hEX := hEX.trans (exc3_eq h_330)
                  replace hEX := hEX.trans (if_neg (RG_neq (x := x_314) (c := (-1)) (show RG x_314 0 239 from h_328) (by decide +kernel)))
                  replace hEX := hEX.trans (if_neg (RG_neq (x := r_312) (c := 0) (show RG r_312 10 99 from h_326) (by decide +kernel)))
                  refine va_iast hx hb hK hP hD hS 1 0 rfl rfl (RG_in g_299 (by decide +kernel)) dX12_readItems_115 (fun H locs hP hD hS => ?_)
                  as_aux_lemma =>
                  have hP : va_P (dC, dI) vwCl (wd_c_X12_readItems h0 h0_f0 h0_1 h0_2 h0_3 h0_4 h0_5 h0_f6 h0_f7 h0_f8 h0_f9 x_313 x_314 h0_f12 h0_f13 h0_f14 h0_15 h0_16 h0_f17 h0_18 h0_19 h0_20 h0_21 h0_22 h0_23 h0_24 h0_25 h0_f26 h0_f27 h0_f28 h0_f29 h0_f30 h0_f31 h0_32 h0_33 h0_f34 h0_35 h0_36 h0_37 h0_38 h0_39 h0_40 h0_f41 h0_f42 h0_f43 h0_f44 h0_45 h0_46 h0_47 h0_48 h0_49 h0_50 h0_f51 h0_52 h0_f53 h2 h2k (upd j45b_h2c (x_298 : Int32).toNatClampNeg r_312) h0_5 h0_5k tN h0_5c) H := hP
                  have hD : va_D A (wd_c_X12_readItems h0 h0_f0 h0_1 h0_2 h0_3 h0_4 h0_5 h0_f6 h0_f7 h0_f8 h0_f9 x_313 x_314 h0_f12 h0_f13 h0_f14 h0_15 h0_16 h0_f17 h0_18 h0_19 h0_20 h0_21 h0_22 h0_23 h0_24 h0_25 h0_f26 h0_f27 h0_f28 h0_f29 h0_f30 h0_f31 h0_32 h0_33 h0_f34 h0_35 h0_36 h0_37 h0_38 h0_39 h0_40 h0_f41 h0_f42 h0_f43 h0_f44 h0_45 h0_46 h0_47 h0_48 h0_49 h0_50 h0_f51 h0_52 h0_f53 h2 h2k (upd j45b_h2c (x_298 : Int32).toNatClampNeg r_312) h0_5 h0_5k tN h0_5c) := hD
                  have l_376 : (upd j45b_h2c (x_298 : Int32).toNatClampNeg r_312) (x_298 : Int32).toNatClampNeg = r_312 := pk_us
                  have i_377 : BOi (p3.toInt + 4) (upd j45b_h2c (x_298 : Int32).toNatClampNeg r_312) := BOi_keep i_45b_h2 g_299 (by decide +kernel) (Or.inl (RG_w h_326 (by decide +kernel)))
                  have a_378 : AI (upd j45b_h2c (x_298 : Int32).toNatClampNeg r_312) 0 99 := AI_up a_j45b_h2c h_326 (by decide +kernel)
                  generalize huw_375 : (upd j45b_h2c (x_298 : Int32).toNatClampNeg r_312) = w_375 at hP hD a_378 l_376 i_377
                  replace hEX := hEX.trans (exl_eq huw_375.symm)
                  have hP : va_P (dC, dI) vwCl (wd_c_X12_readItems h0 h0_f0 h0_1 h0_2 h0_3 h0_4 h0_5 h0_f6 h0_f7 h0_f8 h0_f9 x_313 x_314 h0_f12 h0_f13 h0_f14 h0_15 h0_16 h0_f17 h0_18 h0_19 h0_20 h0_21 h0_22 h0_23 h0_24 h0_25 h0_f26 h0_f27 h0_f28 h0_f29 h0_f30 h0_f31 h0_32 h0_33 h0_f34 h0_35 h0_36 h0_37 h0_38 h0_39 h0_40 h0_f41 h0_f42 h0_f43 h0_f44 h0_45 h0_46 h0_47 h0_48 h0_49 h0_50 h0_f51 h0_52 h0_f53 h2 h2k w_375 h0_5 h0_5k tN h0_5c) H := hP
                  have hD : va_D A (wd_c_X12_readItems h0 h0_f0 h0_1 h0_2 h0_3 h0_4 h0_5 h0_f6 h0_f7 h0_f8 h0_f9 x_313 x_314 h0_f12 h0_f13 h0_f14 h0_15 h0_16 h0_f17 h0_18 h0_19 h0_20 h0_21 h0_22 h0_23 h0_24 h0_25 h0_f26 h0_f27 h0_f28 h0_f29 h0_f30 h0_f31 h0_32 h0_33 h0_f34 h0_35 h0_36 h0_37 h0_38 h0_39 h0_40 h0_f41 h0_f42 h0_f43 h0_f44 h0_45 h0_46 h0_47 h0_48 h0_49 h0_50 h0_f51 h0_52 h0_f53 h2 h2k w_375 h0_5 h0_5k tN h0_5c) := hD
                  refine lv_aload_n hx hb dX12_readItems_116 rfl (lv_at hl 2 rfl) ?_
                  refine va_get (D := (dC, dI)) (ci := 12) (v := .int x_314) (C := RX12) (T := TX12) (N := 54) hx hb hts iw_c_X12_readItems_X12 hown hK hP 0 rfl rfl 11 (by decide +kernel) (hts (.fieldLink RX12 143 "BuoyVoteModel" "fault" "I") (List.mem_of_getElem? (i := 48) rfl)) (fun _ h9 => h9) rfl dX12_readItems_117 ?_
                  refine lv_iconst (v := (-1)) hx hb dX12_readItems_120 kc_iconst_m1 ?_
                  refine lv_icmp_ne (tgt := 45) hx hb dX12_readItems_121 rfl (fun c_379 => ?_) (fun c_379 => ?_)
                  · replace hEX := hEX.trans (if_neg c_379)
                    exact hU _ _ _ (J45c x_294 3 x_313 x_314 w_375 g_h0_f10 g_h0_f17 g_h0_f26 g_h0_f27 g_h0_f28 g_h0_f29 g_h0_f30 g_h0_f31 g_h0_f34 g_h0_f41 g_h0_f51 g_h0_f53 g_h0_f6 g_h0_f7 g_h0_f8 g_h0_f9 (RG_w h_327 (by decide +kernel)) (RG_w h_328 (by decide +kernel)) (RG_w (RG_k 3 3 rfl) (by decide +kernel)) g_p1 g_p3 a_378 hEX _ _ _ hP hD hS (lv_sub hl [0, 1, 2, 3, 4, 5, 6] rfl))
                  · replace hEX := hEX.trans (if_pos c_379)
                    exact RG_dead (RG_eq1 h_328 (RG_k (-1) (-1) rfl) c_379 (a' := 0) (b' := (-1)) (by decide +kernel)) (by decide +kernel)
              · have h_311 : r_306 = _ := h_311
                replace hEX := hEX.trans (exc1_eq h_311)
                replace hEX := hEX.trans (if_neg (fun q9 : r_306 = 9 => absurd ((show r_306 = 4 from h_309).symm.trans q9) (by decide +kernel)))
                rw [h_309]
                exact RG_dead (RG_eq1 (RG_k 3 3 rfl) h_310 rfl (a' := 3) (b' := 2) (by decide +kernel)) (by decide +kernel)
            · have h_305 : r_300 = _ := h_305
              replace hEX := hEX.trans (exc1_eq h_305)
              replace hEX := hEX.trans (if_neg (fun q9 : r_300 = 0 => absurd ((show r_300 = 1 from h_303).symm.trans q9) (by decide +kernel)))
              rw [h_303]
              exact RG_dead (RG_eq1 (RG_k 3 3 rfl) h_304 rfl (a' := 3) (b' := 2) (by decide +kernel)) (by decide +kernel)
          · have h_291 : r_285 = _ := h_291
            replace hEX := hEX.trans (exc1_eq h_291)
            replace hEX := hEX.trans (if_neg (fun q9 : r_285 = 0 => absurd ((show r_285 = 1 from h_289).symm.trans q9) (by decide +kernel)))
            rw [h_289]
            refine lv_if_eq (tgt := 75) hx hb dX12_readItems_66 rfl (fun c_380 => absurd c_380 (by decide +kernel)) (fun c_380 => ?_)
            as_aux_lemma =>
            refine lv_aload_n hx hb dX12_readItems_69 rfl (lv_at hl 2 rfl) ?_
            obtain ⟨hPc, hDc, hFc, hqc⟩ := cl_cut (wc := (wd_c_X12_fails h0 h0_f0 h0_1 h0_2 h0_3 h0_4 h0_5 h0_f6 h0_f7 h0_f8 h0_f9 j45b_h0_f10 (-1) h0_f12 h0_f13 h0_f14 h0_15 h0_16 h0_f17 h0_18 h0_19 h0_20 h0_21 h0_22 h0_23 h0_24 h0_25 h0_f26 h0_f27 h0_f28 h0_f29 h0_f30 h0_f31 h0_32 h0_33 h0_f34 h0_35 h0_36 h0_37 h0_38 h0_39 h0_40 h0_f41 h0_f42 h0_f43 h0_f44 h0_45 h0_46 h0_47 h0_48 h0_49 h0_50 h0_f51 h0_52 h0_f53)) hP hD hS hA [0] (by decide +kernel) rfl
            have hKc := hK.sub (tys' := []) [] rfl
            have hrv := va_recv hKc hPc (ci := 12) (q0 := 0) rfl rfl
            refine va_calli (va_runV (As := []) (rest := []) ⟨hx, hb, hml, hown, hts⟩ (c_X12_fails l dC dI H.size h0 h0_f0 h0_1 h0_2 h0_3 h0_4 h0_5 h0_f6 h0_f7 h0_f8 h0_f9 j45b_h0_f10 h0_f12 h0_f13 h0_f14 h0_15 h0_16 h0_f17 h0_18 h0_19 h0_20 h0_21 h0_22 h0_23 h0_24 h0_25 h0_f26 h0_f27 h0_f28 h0_f29 h0_f30 h0_f31 h0_32 h0_33 h0_f34 h0_35 h0_36 h0_37 h0_38 h0_39 h0_40 h0_f41 h0_f42 h0_f43 h0_f44 h0_45 h0_46 h0_47 h0_48 h0_49 h0_50 h0_f51 h0_52 h0_f53 g_h0_f6 g_h0_f7 g_h0_f8 (RG_w g_h0_f9 (by decide +kernel)) (RG_w g_j45b_h0_f10 (by decide +kernel)) g_h0_f17 g_h0_f26 g_h0_f27 g_h0_f28 g_h0_f29 g_h0_f30 g_h0_f31 g_h0_f34 g_h0_f41 g_h0_f51 g_h0_f53) (cwV 0 hts gf_c_X12_readItems_c_X12_fails rfl rfl rfl mdV_X12_fails ⟨Nat.le_of_ble_eq_true rfl, Nat.le_of_ble_eq_true rfl⟩) ⟨fun a U g mk q => by obtain ⟨q0, q1, qP, qK, qD⟩ := q; exact ⟨q0, q1, qP, va_K.moved (u := U) (U := U.calling g mk a) (Vm.Alike.refl U.vm) qK, qD⟩, hrv, fun U hU hW => ⟨rfl, by rw [hU], by rw [hU]; exact hPc, va_K.moved hW.alike hKc, hDc.weaken (fun _ _ _ _ => trivial)⟩⟩ rfl rfl hl.1 rfl (lv_room (Nat.le_of_ble_eq_true rfl)) dX12_readItems_70 ⟨Nat.le_of_ble_eq_true rfl, Nat.le_of_ble_eq_true rfl⟩) hS (fun q _ h => hFc q h) hFc (fun r_381 u t H1 locs ht hvm hw hB hz1 hk1 hS => ?_)
            obtain ⟨hP1, hK1, hD1⟩ := hB
            rw [ht] at hP1
            obtain ⟨hP, hD⟩ := cl_put (w1 := (wd_c_X12_fails h0 h0_f0 h0_1 h0_2 h0_3 h0_4 h0_5 h0_f6 h0_f7 h0_f8 h0_f9 j45b_h0_f10 j45b_h0_f10 h0_f12 h0_f13 h0_f14 h0_15 h0_16 h0_f17 h0_18 h0_19 h0_20 h0_21 h0_22 h0_23 h0_24 h0_25 h0_f26 h0_f27 h0_f28 h0_f29 h0_f30 h0_f31 h0_32 h0_33 h0_f34 h0_35 h0_36 h0_37 h0_38 h0_39 h0_40 h0_f41 h0_f42 h0_f43 h0_f44 h0_45 h0_46 h0_47 h0_48 h0_49 h0_50 h0_f51 h0_52 h0_f53)) (nw := (wd_c_X12_readItems h0 h0_f0 h0_1 h0_2 h0_3 h0_4 h0_5 h0_f6 h0_f7 h0_f8 h0_f9 j45b_h0_f10 j45b_h0_f10 h0_f12 h0_f13 h0_f14 h0_15 h0_16 h0_f17 h0_18 h0_19 h0_20 h0_21 h0_22 h0_23 h0_24 h0_25 h0_f26 h0_f27 h0_f28 h0_f29 h0_f30 h0_f31 h0_32 h0_33 h0_f34 h0_35 h0_36 h0_37 h0_38 h0_39 h0_40 h0_f41 h0_f42 h0_f43 h0_f44 h0_45 h0_46 h0_47 h0_48 h0_49 h0_50 h0_f51 h0_52 h0_f53 h2 h2k j45b_h2c h0_5 h0_5k tN h0_5c)) hP hD [0] [3, 1, 2] 3 rfl hqc (by decide +kernel) rfl hk1 hFc hP1 hD1
            generalize H1 = H at hP hS ⊢
            as_aux_lemma =>
            rcases hw with ⟨h_382, h_383⟩
            have h_383 : r_381 = _ := h_383
            replace hEX := hEX.trans (exc1_eq h_383)
            rw [h_382]
            refine lv_pop hx hb dX12_readItems_73 rfl ?_
            have hK9 := hK.sub (tys' := []) [] rfl
            exact W.vret hx hb hr (fun t ht hW => ⟨⟨(j45b_h0_f10, j45b_h0_f10, j45b_h2c), rfl, (Or.inr ⟨(RG_w g_j45b_h0_f10 (by decide +kernel)), (RG_w g_j45b_h0_f10 (by decide +kernel)), a_j45b_h2c, g_h0_f9, (hR.trans hEX).symm⟩), by rw [ht]; exact hP, va_K.moved hW.alike hK9, hD⟩, hS.F ht⟩) hS.2.2 dX12_readItems_74
        replace hEX := hEX.trans (if_neg c_284)
        exfalso
        have zc_6 := lv_neT c_6 (a := 0) (by decide +kernel)
        have zc_100 := lv_neT c_100 (a := 1) (by decide +kernel)
        have zc_194 := lv_neT c_194 (a := 2) (by decide +kernel)
        have zc_284 := lv_neT c_284 (a := 3) (by decide +kernel)
        have zg1 := (g_j45b_l6).1
        have zg2 := (g_j45b_l6).2
        omega
  refine hG _ _ _ ?_
  as_aux_lemma =>
  refine lv_iconst (v := 0) hx hb dX12_readItems_0 kc_iconst_0 ?_
  refine lv_istore (lv' := [(5, .int 0), (0, .ref h0), (1, .int p1), (2, .ref h2), (3, .int p3), (4, .ref ts10)]) hx hb dX12_readItems_1 hl (Nat.le_of_ble_eq_true rfl) rfl (fun ls hl => ?_)
  refine lv_iload hx hb dX12_readItems_3 (lv_at hl 0 rfl) ?_
  refine lv_aload hx hb dX12_readItems_5 (lv_at hl 5 rfl) ?_
  obtain ⟨hPc, hDc, hFc, hqc⟩ := cl_cut (wc := []) hP hD hS hA [] (by decide +kernel) rfl
  have hKc := hK.sub (tys' := []) [] rfl
  have hrv := bv_Orecv hE_63 hS
  refine va_calli (va_runV (As := []) (rest := [.int 0]) ⟨hx, hb, hml, hown, hts⟩ (c_J0_length_8abf5_6 l dC dI H.size ts10 tv10) (cwV 0 hts gf_c_X12_readItems_c_J0_length_8abf5_6 rfl rfl rfl mdV_J0_length_8abf5 ⟨Nat.le_of_ble_eq_true rfl, Nat.le_of_ble_eq_true rfl⟩) ⟨fun a U g mk q => by obtain ⟨q0, q1, qP, qK, qD, qE0, qE1, qE2, qE3, qE4⟩ := q; exact ⟨q0, q1, qP, va_K.moved (u := U) (U := U.calling g mk a) (Vm.Alike.refl U.vm) qK, qD, va_OF.moved (u := U) (U := U.calling g mk a) (Vm.Alike.refl U.vm) qE0, va_T.moved (u := U) (U := U.calling g mk a) (Vm.Alike.refl U.vm) qE1, va_Z.moved (u := U) (U := U.calling g mk a) (Vm.Alike.refl U.vm) qE2, va_OF.moved (u := U) (U := U.calling g mk a) (Vm.Alike.refl U.vm) qE3, va_O.moved (u := U) (U := U.calling g mk a) (Vm.Alike.refl U.vm) qE4⟩, hrv, fun U hU hW => ⟨rfl, by rw [hU], by rw [hU]; exact hPc, va_K.moved hW.alike hKc, hDc.weaken (fun _ _ _ _ => trivial), va_OF.moved hW.alike (by rw [hU]; exact (hE_65.kept hS.2.1).narrow hFc), va_T.moved hW.alike (by rw [hU]; exact (hE_66.kept hS.2.1).narrow hFc), va_Z.moved hW.alike (by rw [hU]; exact (hE_10.kept hS.2.1).narrow hFc), va_OF.moved hW.alike (by rw [hU]; exact (hE_64.kept hS.2.1).narrow hFc), va_O.moved hW.alike (by rw [hU]; exact (hE_63.kept hS.2.1).narrow hFc)⟩⟩ rfl rfl hl.1 rfl (lv_room (Nat.le_of_ble_eq_true rfl)) dX12_readItems_7 ⟨Nat.le_of_ble_eq_true rfl, Nat.le_of_ble_eq_true rfl⟩) hS (fun q _ h => hFc q h) hFc (fun r_384 u t H1 locs ht hvm hw hB hz1 hk1 hS => ?_)
  obtain ⟨hP1, hK1, hD1⟩ := hB
  rw [ht] at hP1
  have hP := bv_still hP hk1
  generalize H1 = H at hP hS ⊢
  as_aux_lemma =>
  rcases hw with ⟨h_385, h_386⟩
  have h_386 : r_384 = _ := h_386
  replace hEX := hEX.trans (exc1_eq h_386)
  rw [h_385]
  refine lv_icmp_ge (tgt := 31) hx hb dX12_readItems_10 rfl (fun c_387 => absurd c_387 (by decide +kernel)) (fun c_387 => ?_)
  refine lv_aload_n hx hb dX12_readItems_13 rfl (lv_at hl 3 rfl) ?_
  refine lv_iload_n hx hb dX12_readItems_14 rfl (lv_at hl 4 rfl) ?_
  refine lv_iload hx hb dX12_readItems_15 (lv_at hl 0 rfl) ?_
  refine lv_iadd hx hb dX12_readItems_17 ?_
  refine lv_topi (fun x_388 ex_388 => ?_)
  replace hEX := hEX.trans (exl_eq ex_388)
  have g_389 : RG x_388 0 8 := RG_add ex_388 g_p3 (RG_k 0 0 rfl) (by decide +kernel)
  refine lv_iload_n hx hb dX12_readItems_18 rfl (lv_at hl 2 rfl) ?_
  refine lv_iload hx hb dX12_readItems_19 (lv_at hl 0 rfl) ?_
  as_aux_lemma =>
  obtain ⟨hPc, hDc, hFc, hqc⟩ := cl_cut (wc := []) hP hD hS hA [] (by decide +kernel) rfl
  have hKc := hK.sub (tys' := []) [] rfl
  refine va_calli (va_runS (As := [.int p1, .int 0]) (rest := [.int x_388, .ref h2]) ⟨hx, hb, hml, hown, hts⟩ (c_X12_usual_4 l dC dI H.size p1 0 g_p1 (RG_k 0 0 rfl)) (va_cwS 2 hts gf_c_X12_readItems_c_X12_usual_4 rfl rfl rfl md_X12_usual ⟨Nat.le_of_ble_eq_true rfl, Nat.le_of_ble_eq_true rfl⟩) ⟨fun a U g mk q => by obtain ⟨q0, q1, qP, qK, qD⟩ := q; exact ⟨q0, q1, qP, va_K.moved (u := U) (U := U.calling g mk a) (Vm.Alike.refl U.vm) qK, qD⟩, fun U hU hW => ⟨rfl, by rw [hU], by rw [hU]; exact hPc, va_K.moved hW.alike hKc, hDc.weaken (fun _ _ _ _ => trivial)⟩⟩ rfl rfl hl.1 rfl (lv_room (Nat.le_of_ble_eq_true rfl)) dX12_readItems_21 ⟨Nat.le_of_ble_eq_true rfl, Nat.le_of_ble_eq_true rfl⟩) hS (fun q _ h => hFc q h) hFc (fun r_390 u t H1 locs ht hvm hw hB hz1 hk1 hS => ?_)
  obtain ⟨hP1, hK1, hD1⟩ := hB
  rw [ht] at hP1
  have hP := bv_still hP hk1
  generalize H1 = H at hP hS ⊢
  as_aux_lemma =>
  rcases hw with ⟨h_391, h_392⟩
  have h_392 : r_390 = _ := h_392
  replace hEX := hEX.trans (exc1_eq h_392)
  rw [h_391]
  refine va_iast hx hb hK hP hD hS 1 0 rfl rfl (RG_in g_389 (by decide +kernel)) dX12_readItems_24 (fun H locs hP hD hS => ?_)
  have hP : va_P (dC, dI) vwCl (wd_c_X12_readItems h0 h0_f0 h0_1 h0_2 h0_3 h0_4 h0_5 h0_f6 h0_f7 h0_f8 h0_f9 h0_f10 (-1) h0_f12 h0_f13 h0_f14 h0_15 h0_16 h0_f17 h0_18 h0_19 h0_20 h0_21 h0_22 h0_23 h0_24 h0_25 h0_f26 h0_f27 h0_f28 h0_f29 h0_f30 h0_f31 h0_32 h0_33 h0_f34 h0_35 h0_36 h0_37 h0_38 h0_39 h0_40 h0_f41 h0_f42 h0_f43 h0_f44 h0_45 h0_46 h0_47 h0_48 h0_49 h0_50 h0_f51 h0_52 h0_f53 h2 h2k (upd h2c (x_388 : Int32).toNatClampNeg 0) h0_5 h0_5k tN h0_5c) H := hP
  have hD : va_D A (wd_c_X12_readItems h0 h0_f0 h0_1 h0_2 h0_3 h0_4 h0_5 h0_f6 h0_f7 h0_f8 h0_f9 h0_f10 (-1) h0_f12 h0_f13 h0_f14 h0_15 h0_16 h0_f17 h0_18 h0_19 h0_20 h0_21 h0_22 h0_23 h0_24 h0_25 h0_f26 h0_f27 h0_f28 h0_f29 h0_f30 h0_f31 h0_32 h0_33 h0_f34 h0_35 h0_36 h0_37 h0_38 h0_39 h0_40 h0_f41 h0_f42 h0_f43 h0_f44 h0_45 h0_46 h0_47 h0_48 h0_49 h0_50 h0_f51 h0_52 h0_f53 h2 h2k (upd h2c (x_388 : Int32).toNatClampNeg 0) h0_5 h0_5k tN h0_5c) := hD
  have l_394 : (upd h2c (x_388 : Int32).toNatClampNeg 0) (x_388 : Int32).toNatClampNeg = 0 := pk_us
  have i_395 : BOi (p3.toInt) (upd h2c (x_388 : Int32).toNatClampNeg 0) := BOi_keep i_h2c g_389 (by decide +kernel) (Or.inr (Or.inl (by have := hrow; have := eq_add ex_388 g_p3 (q := 0) rfl (by decide +kernel); omega)))
  have a_396 : AI (upd h2c (x_388 : Int32).toNatClampNeg 0) 0 99 := AI_up a_h2c (RG_k 0 0 rfl) (by decide +kernel)
  generalize huw_393 : (upd h2c (x_388 : Int32).toNatClampNeg 0) = w_393 at hP hD a_396 l_394 i_395
  replace hEX := hEX.trans (exl_eq huw_393.symm)
  have hP : va_P (dC, dI) vwCl (wd_c_X12_readItems h0 h0_f0 h0_1 h0_2 h0_3 h0_4 h0_5 h0_f6 h0_f7 h0_f8 h0_f9 h0_f10 (-1) h0_f12 h0_f13 h0_f14 h0_15 h0_16 h0_f17 h0_18 h0_19 h0_20 h0_21 h0_22 h0_23 h0_24 h0_25 h0_f26 h0_f27 h0_f28 h0_f29 h0_f30 h0_f31 h0_32 h0_33 h0_f34 h0_35 h0_36 h0_37 h0_38 h0_39 h0_40 h0_f41 h0_f42 h0_f43 h0_f44 h0_45 h0_46 h0_47 h0_48 h0_49 h0_50 h0_f51 h0_52 h0_f53 h2 h2k w_393 h0_5 h0_5k tN h0_5c) H := hP
  have hD : va_D A (wd_c_X12_readItems h0 h0_f0 h0_1 h0_2 h0_3 h0_4 h0_5 h0_f6 h0_f7 h0_f8 h0_f9 h0_f10 (-1) h0_f12 h0_f13 h0_f14 h0_15 h0_16 h0_f17 h0_18 h0_19 h0_20 h0_21 h0_22 h0_23 h0_24 h0_25 h0_f26 h0_f27 h0_f28 h0_f29 h0_f30 h0_f31 h0_32 h0_33 h0_f34 h0_35 h0_36 h0_37 h0_38 h0_39 h0_40 h0_f41 h0_f42 h0_f43 h0_f44 h0_45 h0_46 h0_47 h0_48 h0_49 h0_50 h0_f51 h0_52 h0_f53 h2 h2k w_393 h0_5 h0_5k tN h0_5c) := hD
  refine lv_iinc (v := 1) (lv' := [(5, .int 1), (0, .ref h0), (1, .int p1), (2, .ref h2), (3, .int p3), (4, .ref ts10)]) hx hb dX12_readItems_25 hl (k := 0) rfl (by decide +kernel) (Nat.le_of_ble_eq_true rfl) rfl (fun ls hl => ?_)
  as_aux_lemma =>
  refine lv_goto (tgt := 3) hx hb dX12_readItems_28 rfl ?_
  refine lv_iload hx hb dX12_readItems_3 (lv_at hl 0 rfl) ?_
  refine lv_aload hx hb dX12_readItems_5 (lv_at hl 5 rfl) ?_
  obtain ⟨hPc, hDc, hFc, hqc⟩ := cl_cut (wc := []) hP hD hS hA [] (by decide +kernel) rfl
  have hKc := hK.sub (tys' := []) [] rfl
  have hrv := bv_Orecv hE_63 hS
  refine va_calli (va_runV (As := []) (rest := [.int 1]) ⟨hx, hb, hml, hown, hts⟩ (c_J0_length_8abf5_6 l dC dI H.size ts10 tv10) (cwV 0 hts gf_c_X12_readItems_c_J0_length_8abf5_6 rfl rfl rfl mdV_J0_length_8abf5 ⟨Nat.le_of_ble_eq_true rfl, Nat.le_of_ble_eq_true rfl⟩) ⟨fun a U g mk q => by obtain ⟨q0, q1, qP, qK, qD, qE0, qE1, qE2, qE3, qE4⟩ := q; exact ⟨q0, q1, qP, va_K.moved (u := U) (U := U.calling g mk a) (Vm.Alike.refl U.vm) qK, qD, va_OF.moved (u := U) (U := U.calling g mk a) (Vm.Alike.refl U.vm) qE0, va_T.moved (u := U) (U := U.calling g mk a) (Vm.Alike.refl U.vm) qE1, va_Z.moved (u := U) (U := U.calling g mk a) (Vm.Alike.refl U.vm) qE2, va_OF.moved (u := U) (U := U.calling g mk a) (Vm.Alike.refl U.vm) qE3, va_O.moved (u := U) (U := U.calling g mk a) (Vm.Alike.refl U.vm) qE4⟩, hrv, fun U hU hW => ⟨rfl, by rw [hU], by rw [hU]; exact hPc, va_K.moved hW.alike hKc, hDc.weaken (fun _ _ _ _ => trivial), va_OF.moved hW.alike (by rw [hU]; exact (hE_65.kept hS.2.1).narrow hFc), va_T.moved hW.alike (by rw [hU]; exact (hE_66.kept hS.2.1).narrow hFc), va_Z.moved hW.alike (by rw [hU]; exact (hE_10.kept hS.2.1).narrow hFc), va_OF.moved hW.alike (by rw [hU]; exact (hE_64.kept hS.2.1).narrow hFc), va_O.moved hW.alike (by rw [hU]; exact (hE_63.kept hS.2.1).narrow hFc)⟩⟩ rfl rfl hl.1 rfl (lv_room (Nat.le_of_ble_eq_true rfl)) dX12_readItems_7 ⟨Nat.le_of_ble_eq_true rfl, Nat.le_of_ble_eq_true rfl⟩) hS (fun q _ h => hFc q h) hFc (fun r_397 u t H1 locs ht hvm hw hB hz1 hk1 hS => ?_)
  obtain ⟨hP1, hK1, hD1⟩ := hB
  rw [ht] at hP1
  have hP := bv_still hP hk1
  generalize H1 = H at hP hS ⊢
  as_aux_lemma =>
  rcases hw with ⟨h_398, h_399⟩
  have h_399 : r_397 = _ := h_399
  replace hEX := hEX.trans (exc1_eq h_399)
  rw [h_398]
  refine lv_icmp_ge (tgt := 31) hx hb dX12_readItems_10 rfl (fun c_400 => absurd c_400 (by decide +kernel)) (fun c_400 => ?_)
  refine lv_aload_n hx hb dX12_readItems_13 rfl (lv_at hl 3 rfl) ?_
  refine lv_iload_n hx hb dX12_readItems_14 rfl (lv_at hl 4 rfl) ?_
  refine lv_iload hx hb dX12_readItems_15 (lv_at hl 0 rfl) ?_
  refine lv_iadd hx hb dX12_readItems_17 ?_
  refine lv_topi (fun x_401 ex_401 => ?_)
  replace hEX := hEX.trans (exl_eq ex_401)
  have g_402 : RG x_401 1 9 := RG_add ex_401 g_p3 (RG_k 1 1 rfl) (by decide +kernel)
  refine lv_iload_n hx hb dX12_readItems_18 rfl (lv_at hl 2 rfl) ?_
  refine lv_iload hx hb dX12_readItems_19 (lv_at hl 0 rfl) ?_
  as_aux_lemma =>
  obtain ⟨hPc, hDc, hFc, hqc⟩ := cl_cut (wc := []) hP hD hS hA [] (by decide +kernel) rfl
  have hKc := hK.sub (tys' := []) [] rfl
  refine va_calli (va_runS (As := [.int p1, .int 1]) (rest := [.int x_401, .ref h2]) ⟨hx, hb, hml, hown, hts⟩ (c_X12_usual_5 l dC dI H.size p1 1 g_p1 (RG_w (RG_k 1 1 rfl) (by decide +kernel))) (va_cwS 2 hts gf_c_X12_readItems_c_X12_usual_5 rfl rfl rfl md_X12_usual ⟨Nat.le_of_ble_eq_true rfl, Nat.le_of_ble_eq_true rfl⟩) ⟨fun a U g mk q => by obtain ⟨q0, q1, qP, qK, qD⟩ := q; exact ⟨q0, q1, qP, va_K.moved (u := U) (U := U.calling g mk a) (Vm.Alike.refl U.vm) qK, qD⟩, fun U hU hW => ⟨rfl, by rw [hU], by rw [hU]; exact hPc, va_K.moved hW.alike hKc, hDc.weaken (fun _ _ _ _ => trivial)⟩⟩ rfl rfl hl.1 rfl (lv_room (Nat.le_of_ble_eq_true rfl)) dX12_readItems_21 ⟨Nat.le_of_ble_eq_true rfl, Nat.le_of_ble_eq_true rfl⟩) hS (fun q _ h => hFc q h) hFc (fun r_403 u t H1 locs ht hvm hw hB hz1 hk1 hS => ?_)
  obtain ⟨hP1, hK1, hD1⟩ := hB
  rw [ht] at hP1
  have hP := bv_still hP hk1
  generalize H1 = H at hP hS ⊢
  as_aux_lemma =>
  rcases hw with ⟨h_404, h_405⟩
  have h_405 : r_403 = _ := h_405
  replace hEX := hEX.trans (exc1_eq h_405)
  rw [h_404]
  refine va_iast hx hb hK hP hD hS 1 0 rfl rfl (RG_in g_402 (by decide +kernel)) dX12_readItems_24 (fun H locs hP hD hS => ?_)
  have hP : va_P (dC, dI) vwCl (wd_c_X12_readItems h0 h0_f0 h0_1 h0_2 h0_3 h0_4 h0_5 h0_f6 h0_f7 h0_f8 h0_f9 h0_f10 (-1) h0_f12 h0_f13 h0_f14 h0_15 h0_16 h0_f17 h0_18 h0_19 h0_20 h0_21 h0_22 h0_23 h0_24 h0_25 h0_f26 h0_f27 h0_f28 h0_f29 h0_f30 h0_f31 h0_32 h0_33 h0_f34 h0_35 h0_36 h0_37 h0_38 h0_39 h0_40 h0_f41 h0_f42 h0_f43 h0_f44 h0_45 h0_46 h0_47 h0_48 h0_49 h0_50 h0_f51 h0_52 h0_f53 h2 h2k (upd w_393 (x_401 : Int32).toNatClampNeg 0) h0_5 h0_5k tN h0_5c) H := hP
  have hD : va_D A (wd_c_X12_readItems h0 h0_f0 h0_1 h0_2 h0_3 h0_4 h0_5 h0_f6 h0_f7 h0_f8 h0_f9 h0_f10 (-1) h0_f12 h0_f13 h0_f14 h0_15 h0_16 h0_f17 h0_18 h0_19 h0_20 h0_21 h0_22 h0_23 h0_24 h0_25 h0_f26 h0_f27 h0_f28 h0_f29 h0_f30 h0_f31 h0_32 h0_33 h0_f34 h0_35 h0_36 h0_37 h0_38 h0_39 h0_40 h0_f41 h0_f42 h0_f43 h0_f44 h0_45 h0_46 h0_47 h0_48 h0_49 h0_50 h0_f51 h0_52 h0_f53 h2 h2k (upd w_393 (x_401 : Int32).toNatClampNeg 0) h0_5 h0_5k tN h0_5c) := hD
  have l_407 : (upd w_393 (x_401 : Int32).toNatClampNeg 0) (x_401 : Int32).toNatClampNeg = 0 := pk_us
  have i_408 : BOi (p3.toInt) (upd w_393 (x_401 : Int32).toNatClampNeg 0) := BOi_keep i_395 g_402 (by decide +kernel) (Or.inr (Or.inl (by have := hrow; have := eq_add ex_401 g_p3 (q := 1) rfl (by decide +kernel); omega)))
  have a_409 : AI (upd w_393 (x_401 : Int32).toNatClampNeg 0) 0 99 := AI_up a_396 (RG_k 0 0 rfl) (by decide +kernel)
  generalize huw_406 : (upd w_393 (x_401 : Int32).toNatClampNeg 0) = w_406 at hP hD a_409 l_407 i_408
  replace hEX := hEX.trans (exl_eq huw_406.symm)
  have hP : va_P (dC, dI) vwCl (wd_c_X12_readItems h0 h0_f0 h0_1 h0_2 h0_3 h0_4 h0_5 h0_f6 h0_f7 h0_f8 h0_f9 h0_f10 (-1) h0_f12 h0_f13 h0_f14 h0_15 h0_16 h0_f17 h0_18 h0_19 h0_20 h0_21 h0_22 h0_23 h0_24 h0_25 h0_f26 h0_f27 h0_f28 h0_f29 h0_f30 h0_f31 h0_32 h0_33 h0_f34 h0_35 h0_36 h0_37 h0_38 h0_39 h0_40 h0_f41 h0_f42 h0_f43 h0_f44 h0_45 h0_46 h0_47 h0_48 h0_49 h0_50 h0_f51 h0_52 h0_f53 h2 h2k w_406 h0_5 h0_5k tN h0_5c) H := hP
  have hD : va_D A (wd_c_X12_readItems h0 h0_f0 h0_1 h0_2 h0_3 h0_4 h0_5 h0_f6 h0_f7 h0_f8 h0_f9 h0_f10 (-1) h0_f12 h0_f13 h0_f14 h0_15 h0_16 h0_f17 h0_18 h0_19 h0_20 h0_21 h0_22 h0_23 h0_24 h0_25 h0_f26 h0_f27 h0_f28 h0_f29 h0_f30 h0_f31 h0_32 h0_33 h0_f34 h0_35 h0_36 h0_37 h0_38 h0_39 h0_40 h0_f41 h0_f42 h0_f43 h0_f44 h0_45 h0_46 h0_47 h0_48 h0_49 h0_50 h0_f51 h0_52 h0_f53 h2 h2k w_406 h0_5 h0_5k tN h0_5c) := hD
  refine lv_iinc (v := 2) (lv' := [(5, .int 2), (0, .ref h0), (1, .int p1), (2, .ref h2), (3, .int p3), (4, .ref ts10)]) hx hb dX12_readItems_25 hl (k := 0) rfl (by decide +kernel) (Nat.le_of_ble_eq_true rfl) rfl (fun ls hl => ?_)
  as_aux_lemma =>
  refine lv_goto (tgt := 3) hx hb dX12_readItems_28 rfl ?_
  refine lv_iload hx hb dX12_readItems_3 (lv_at hl 0 rfl) ?_
  refine lv_aload hx hb dX12_readItems_5 (lv_at hl 5 rfl) ?_
  obtain ⟨hPc, hDc, hFc, hqc⟩ := cl_cut (wc := []) hP hD hS hA [] (by decide +kernel) rfl
  have hKc := hK.sub (tys' := []) [] rfl
  have hrv := bv_Orecv hE_63 hS
  refine va_calli (va_runV (As := []) (rest := [.int 2]) ⟨hx, hb, hml, hown, hts⟩ (c_J0_length_8abf5_6 l dC dI H.size ts10 tv10) (cwV 0 hts gf_c_X12_readItems_c_J0_length_8abf5_6 rfl rfl rfl mdV_J0_length_8abf5 ⟨Nat.le_of_ble_eq_true rfl, Nat.le_of_ble_eq_true rfl⟩) ⟨fun a U g mk q => by obtain ⟨q0, q1, qP, qK, qD, qE0, qE1, qE2, qE3, qE4⟩ := q; exact ⟨q0, q1, qP, va_K.moved (u := U) (U := U.calling g mk a) (Vm.Alike.refl U.vm) qK, qD, va_OF.moved (u := U) (U := U.calling g mk a) (Vm.Alike.refl U.vm) qE0, va_T.moved (u := U) (U := U.calling g mk a) (Vm.Alike.refl U.vm) qE1, va_Z.moved (u := U) (U := U.calling g mk a) (Vm.Alike.refl U.vm) qE2, va_OF.moved (u := U) (U := U.calling g mk a) (Vm.Alike.refl U.vm) qE3, va_O.moved (u := U) (U := U.calling g mk a) (Vm.Alike.refl U.vm) qE4⟩, hrv, fun U hU hW => ⟨rfl, by rw [hU], by rw [hU]; exact hPc, va_K.moved hW.alike hKc, hDc.weaken (fun _ _ _ _ => trivial), va_OF.moved hW.alike (by rw [hU]; exact (hE_65.kept hS.2.1).narrow hFc), va_T.moved hW.alike (by rw [hU]; exact (hE_66.kept hS.2.1).narrow hFc), va_Z.moved hW.alike (by rw [hU]; exact (hE_10.kept hS.2.1).narrow hFc), va_OF.moved hW.alike (by rw [hU]; exact (hE_64.kept hS.2.1).narrow hFc), va_O.moved hW.alike (by rw [hU]; exact (hE_63.kept hS.2.1).narrow hFc)⟩⟩ rfl rfl hl.1 rfl (lv_room (Nat.le_of_ble_eq_true rfl)) dX12_readItems_7 ⟨Nat.le_of_ble_eq_true rfl, Nat.le_of_ble_eq_true rfl⟩) hS (fun q _ h => hFc q h) hFc (fun r_410 u t H1 locs ht hvm hw hB hz1 hk1 hS => ?_)
  obtain ⟨hP1, hK1, hD1⟩ := hB
  rw [ht] at hP1
  have hP := bv_still hP hk1
  generalize H1 = H at hP hS ⊢
  as_aux_lemma =>
  rcases hw with ⟨h_411, h_412⟩
  have h_412 : r_410 = _ := h_412
  replace hEX := hEX.trans (exc1_eq h_412)
  rw [h_411]
  refine lv_icmp_ge (tgt := 31) hx hb dX12_readItems_10 rfl (fun c_413 => absurd c_413 (by decide +kernel)) (fun c_413 => ?_)
  refine lv_aload_n hx hb dX12_readItems_13 rfl (lv_at hl 3 rfl) ?_
  refine lv_iload_n hx hb dX12_readItems_14 rfl (lv_at hl 4 rfl) ?_
  refine lv_iload hx hb dX12_readItems_15 (lv_at hl 0 rfl) ?_
  refine lv_iadd hx hb dX12_readItems_17 ?_
  refine lv_topi (fun x_414 ex_414 => ?_)
  replace hEX := hEX.trans (exl_eq ex_414)
  have g_415 : RG x_414 2 10 := RG_add ex_414 g_p3 (RG_k 2 2 rfl) (by decide +kernel)
  refine lv_iload_n hx hb dX12_readItems_18 rfl (lv_at hl 2 rfl) ?_
  refine lv_iload hx hb dX12_readItems_19 (lv_at hl 0 rfl) ?_
  as_aux_lemma =>
  obtain ⟨hPc, hDc, hFc, hqc⟩ := cl_cut (wc := []) hP hD hS hA [] (by decide +kernel) rfl
  have hKc := hK.sub (tys' := []) [] rfl
  refine va_calli (va_runS (As := [.int p1, .int 2]) (rest := [.int x_414, .ref h2]) ⟨hx, hb, hml, hown, hts⟩ (c_X12_usual_6 l dC dI H.size p1 2 g_p1 (RG_w (RG_k 2 2 rfl) (by decide +kernel))) (va_cwS 2 hts gf_c_X12_readItems_c_X12_usual_6 rfl rfl rfl md_X12_usual ⟨Nat.le_of_ble_eq_true rfl, Nat.le_of_ble_eq_true rfl⟩) ⟨fun a U g mk q => by obtain ⟨q0, q1, qP, qK, qD⟩ := q; exact ⟨q0, q1, qP, va_K.moved (u := U) (U := U.calling g mk a) (Vm.Alike.refl U.vm) qK, qD⟩, fun U hU hW => ⟨rfl, by rw [hU], by rw [hU]; exact hPc, va_K.moved hW.alike hKc, hDc.weaken (fun _ _ _ _ => trivial)⟩⟩ rfl rfl hl.1 rfl (lv_room (Nat.le_of_ble_eq_true rfl)) dX12_readItems_21 ⟨Nat.le_of_ble_eq_true rfl, Nat.le_of_ble_eq_true rfl⟩) hS (fun q _ h => hFc q h) hFc (fun r_416 u t H1 locs ht hvm hw hB hz1 hk1 hS => ?_)
  obtain ⟨hP1, hK1, hD1⟩ := hB
  rw [ht] at hP1
  have hP := bv_still hP hk1
  generalize H1 = H at hP hS ⊢
  as_aux_lemma =>
  rcases hw with ⟨h_417, h_418, h_419⟩ | ⟨h_420, h_421, h_422⟩
  · have h_419 : r_416 = _ := h_419
    replace hEX := hEX.trans (exc1_eq h_419)
    replace hEX := hEX.trans (if_pos (show r_416 = 0 from h_417))
    rw [h_417]
    exact RG_dead (RG_eq1 (RG_k 2 2 rfl) h_418 rfl (a' := 2) (b' := 1) (by decide +kernel)) (by decide +kernel)
  · have h_422 : r_416 = _ := h_422
    replace hEX := hEX.trans (exc1_eq h_422)
    replace hEX := hEX.trans (if_neg (fun q9 : r_416 = 0 => absurd ((show r_416 = 2 from h_420).symm.trans q9) (by decide +kernel)))
    rw [h_420]
    refine va_iast hx hb hK hP hD hS 1 0 rfl rfl (RG_in g_415 (by decide +kernel)) dX12_readItems_24 (fun H locs hP hD hS => ?_)
    have hP : va_P (dC, dI) vwCl (wd_c_X12_readItems h0 h0_f0 h0_1 h0_2 h0_3 h0_4 h0_5 h0_f6 h0_f7 h0_f8 h0_f9 h0_f10 (-1) h0_f12 h0_f13 h0_f14 h0_15 h0_16 h0_f17 h0_18 h0_19 h0_20 h0_21 h0_22 h0_23 h0_24 h0_25 h0_f26 h0_f27 h0_f28 h0_f29 h0_f30 h0_f31 h0_32 h0_33 h0_f34 h0_35 h0_36 h0_37 h0_38 h0_39 h0_40 h0_f41 h0_f42 h0_f43 h0_f44 h0_45 h0_46 h0_47 h0_48 h0_49 h0_50 h0_f51 h0_52 h0_f53 h2 h2k (upd w_406 (x_414 : Int32).toNatClampNeg 2) h0_5 h0_5k tN h0_5c) H := hP
    have hD : va_D A (wd_c_X12_readItems h0 h0_f0 h0_1 h0_2 h0_3 h0_4 h0_5 h0_f6 h0_f7 h0_f8 h0_f9 h0_f10 (-1) h0_f12 h0_f13 h0_f14 h0_15 h0_16 h0_f17 h0_18 h0_19 h0_20 h0_21 h0_22 h0_23 h0_24 h0_25 h0_f26 h0_f27 h0_f28 h0_f29 h0_f30 h0_f31 h0_32 h0_33 h0_f34 h0_35 h0_36 h0_37 h0_38 h0_39 h0_40 h0_f41 h0_f42 h0_f43 h0_f44 h0_45 h0_46 h0_47 h0_48 h0_49 h0_50 h0_f51 h0_52 h0_f53 h2 h2k (upd w_406 (x_414 : Int32).toNatClampNeg 2) h0_5 h0_5k tN h0_5c) := hD
    have l_424 : (upd w_406 (x_414 : Int32).toNatClampNeg 2) (x_414 : Int32).toNatClampNeg = 2 := pk_us
    have i_425 : BOi (p3.toInt + 4) (upd w_406 (x_414 : Int32).toNatClampNeg 2) := BOi_st i_408 (by have := eq_add ex_414 g_p3 (q := 2) rfl (by decide +kernel); omega) (RG_w (RG_k 2 2 rfl) (by decide +kernel)) hrow (by have := (g_p3).1; omega)
    have a_426 : AI (upd w_406 (x_414 : Int32).toNatClampNeg 2) 0 99 := AI_up a_409 (RG_k 2 2 rfl) (by decide +kernel)
    generalize huw_423 : (upd w_406 (x_414 : Int32).toNatClampNeg 2) = w_423 at hP hD a_426 l_424 i_425
    replace hEX := hEX.trans (exl_eq huw_423.symm)
    have hP : va_P (dC, dI) vwCl (wd_c_X12_readItems h0 h0_f0 h0_1 h0_2 h0_3 h0_4 h0_5 h0_f6 h0_f7 h0_f8 h0_f9 h0_f10 (-1) h0_f12 h0_f13 h0_f14 h0_15 h0_16 h0_f17 h0_18 h0_19 h0_20 h0_21 h0_22 h0_23 h0_24 h0_25 h0_f26 h0_f27 h0_f28 h0_f29 h0_f30 h0_f31 h0_32 h0_33 h0_f34 h0_35 h0_36 h0_37 h0_38 h0_39 h0_40 h0_f41 h0_f42 h0_f43 h0_f44 h0_45 h0_46 h0_47 h0_48 h0_49 h0_50 h0_f51 h0_52 h0_f53 h2 h2k w_423 h0_5 h0_5k tN h0_5c) H := hP
    have hD : va_D A (wd_c_X12_readItems h0 h0_f0 h0_1 h0_2 h0_3 h0_4 h0_5 h0_f6 h0_f7 h0_f8 h0_f9 h0_f10 (-1) h0_f12 h0_f13 h0_f14 h0_15 h0_16 h0_f17 h0_18 h0_19 h0_20 h0_21 h0_22 h0_23 h0_24 h0_25 h0_f26 h0_f27 h0_f28 h0_f29 h0_f30 h0_f31 h0_32 h0_33 h0_f34 h0_35 h0_36 h0_37 h0_38 h0_39 h0_40 h0_f41 h0_f42 h0_f43 h0_f44 h0_45 h0_46 h0_47 h0_48 h0_49 h0_50 h0_f51 h0_52 h0_f53 h2 h2k w_423 h0_5 h0_5k tN h0_5c) := hD
    refine lv_iinc (v := 3) (lv' := [(5, .int 3), (0, .ref h0), (1, .int p1), (2, .ref h2), (3, .int p3), (4, .ref ts10)]) hx hb dX12_readItems_25 hl (k := 0) rfl (by decide +kernel) (Nat.le_of_ble_eq_true rfl) rfl (fun ls hl => ?_)
    as_aux_lemma =>
    refine lv_goto (tgt := 3) hx hb dX12_readItems_28 rfl ?_
    refine lv_iload hx hb dX12_readItems_3 (lv_at hl 0 rfl) ?_
    refine lv_aload hx hb dX12_readItems_5 (lv_at hl 5 rfl) ?_
    obtain ⟨hPc, hDc, hFc, hqc⟩ := cl_cut (wc := []) hP hD hS hA [] (by decide +kernel) rfl
    have hKc := hK.sub (tys' := []) [] rfl
    have hrv := bv_Orecv hE_63 hS
    refine va_calli (va_runV (As := []) (rest := [.int 3]) ⟨hx, hb, hml, hown, hts⟩ (c_J0_length_8abf5_6 l dC dI H.size ts10 tv10) (cwV 0 hts gf_c_X12_readItems_c_J0_length_8abf5_6 rfl rfl rfl mdV_J0_length_8abf5 ⟨Nat.le_of_ble_eq_true rfl, Nat.le_of_ble_eq_true rfl⟩) ⟨fun a U g mk q => by obtain ⟨q0, q1, qP, qK, qD, qE0, qE1, qE2, qE3, qE4⟩ := q; exact ⟨q0, q1, qP, va_K.moved (u := U) (U := U.calling g mk a) (Vm.Alike.refl U.vm) qK, qD, va_OF.moved (u := U) (U := U.calling g mk a) (Vm.Alike.refl U.vm) qE0, va_T.moved (u := U) (U := U.calling g mk a) (Vm.Alike.refl U.vm) qE1, va_Z.moved (u := U) (U := U.calling g mk a) (Vm.Alike.refl U.vm) qE2, va_OF.moved (u := U) (U := U.calling g mk a) (Vm.Alike.refl U.vm) qE3, va_O.moved (u := U) (U := U.calling g mk a) (Vm.Alike.refl U.vm) qE4⟩, hrv, fun U hU hW => ⟨rfl, by rw [hU], by rw [hU]; exact hPc, va_K.moved hW.alike hKc, hDc.weaken (fun _ _ _ _ => trivial), va_OF.moved hW.alike (by rw [hU]; exact (hE_65.kept hS.2.1).narrow hFc), va_T.moved hW.alike (by rw [hU]; exact (hE_66.kept hS.2.1).narrow hFc), va_Z.moved hW.alike (by rw [hU]; exact (hE_10.kept hS.2.1).narrow hFc), va_OF.moved hW.alike (by rw [hU]; exact (hE_64.kept hS.2.1).narrow hFc), va_O.moved hW.alike (by rw [hU]; exact (hE_63.kept hS.2.1).narrow hFc)⟩⟩ rfl rfl hl.1 rfl (lv_room (Nat.le_of_ble_eq_true rfl)) dX12_readItems_7 ⟨Nat.le_of_ble_eq_true rfl, Nat.le_of_ble_eq_true rfl⟩) hS (fun q _ h => hFc q h) hFc (fun r_427 u t H1 locs ht hvm hw hB hz1 hk1 hS => ?_)
    obtain ⟨hP1, hK1, hD1⟩ := hB
    rw [ht] at hP1
    have hP := bv_still hP hk1
    generalize H1 = H at hP hS ⊢
    as_aux_lemma =>
    rcases hw with ⟨h_428, h_429⟩
    have h_429 : r_427 = _ := h_429
    replace hEX := hEX.trans (exc1_eq h_429)
    rw [h_428]
    refine lv_icmp_ge (tgt := 31) hx hb dX12_readItems_10 rfl (fun c_430 => absurd c_430 (by decide +kernel)) (fun c_430 => ?_)
    refine lv_aload_n hx hb dX12_readItems_13 rfl (lv_at hl 3 rfl) ?_
    refine lv_iload_n hx hb dX12_readItems_14 rfl (lv_at hl 4 rfl) ?_
    refine lv_iload hx hb dX12_readItems_15 (lv_at hl 0 rfl) ?_
    refine lv_iadd hx hb dX12_readItems_17 ?_
    refine lv_topi (fun x_431 ex_431 => ?_)
    replace hEX := hEX.trans (exl_eq ex_431)
    have g_432 : RG x_431 3 11 := RG_add ex_431 g_p3 (RG_k 3 3 rfl) (by decide +kernel)
    refine lv_iload_n hx hb dX12_readItems_18 rfl (lv_at hl 2 rfl) ?_
    refine lv_iload hx hb dX12_readItems_19 (lv_at hl 0 rfl) ?_
    as_aux_lemma =>
    obtain ⟨hPc, hDc, hFc, hqc⟩ := cl_cut (wc := []) hP hD hS hA [] (by decide +kernel) rfl
    have hKc := hK.sub (tys' := []) [] rfl
    refine va_calli (va_runS (As := [.int p1, .int 3]) (rest := [.int x_431, .ref h2]) ⟨hx, hb, hml, hown, hts⟩ (c_X12_usual_7 l dC dI H.size p1 3 g_p1 (RG_w (RG_k 3 3 rfl) (by decide +kernel))) (va_cwS 2 hts gf_c_X12_readItems_c_X12_usual_7 rfl rfl rfl md_X12_usual ⟨Nat.le_of_ble_eq_true rfl, Nat.le_of_ble_eq_true rfl⟩) ⟨fun a U g mk q => by obtain ⟨q0, q1, qP, qK, qD⟩ := q; exact ⟨q0, q1, qP, va_K.moved (u := U) (U := U.calling g mk a) (Vm.Alike.refl U.vm) qK, qD⟩, fun U hU hW => ⟨rfl, by rw [hU], by rw [hU]; exact hPc, va_K.moved hW.alike hKc, hDc.weaken (fun _ _ _ _ => trivial)⟩⟩ rfl rfl hl.1 rfl (lv_room (Nat.le_of_ble_eq_true rfl)) dX12_readItems_21 ⟨Nat.le_of_ble_eq_true rfl, Nat.le_of_ble_eq_true rfl⟩) hS (fun q _ h => hFc q h) hFc (fun r_433 u t H1 locs ht hvm hw hB hz1 hk1 hS => ?_)
    obtain ⟨hP1, hK1, hD1⟩ := hB
    rw [ht] at hP1
    have hP := bv_still hP hk1
    generalize H1 = H at hP hS ⊢
    as_aux_lemma =>
    rcases hw with ⟨h_434, h_435, h_436⟩ | ⟨h_437, h_438, h_439⟩ | ⟨h_440, h_441, h_442⟩
    · have h_436 : r_433 = _ := h_436
      replace hEX := hEX.trans (exc1_eq h_436)
      replace hEX := hEX.trans (if_pos (show r_433 = 0 from h_434))
      rw [h_434]
      exact RG_dead (RG_eq1 (RG_k 3 3 rfl) h_435 rfl (a' := 3) (b' := 2) (by decide +kernel)) (by decide +kernel)
    · have h_439 : r_433 = _ := h_439
      replace hEX := hEX.trans (exc1_eq h_439)
      replace hEX := hEX.trans (if_neg (fun q9 : r_433 = 0 => absurd ((show r_433 = 3 from h_437).symm.trans q9) (by decide +kernel)))
      replace hEX := hEX.trans (if_pos (show r_433 = 3 from h_437))
      rw [h_437]
      refine va_iast hx hb hK hP hD hS 1 0 rfl rfl (RG_in g_432 (by decide +kernel)) dX12_readItems_24 (fun H locs hP hD hS => ?_)
      have hP : va_P (dC, dI) vwCl (wd_c_X12_readItems h0 h0_f0 h0_1 h0_2 h0_3 h0_4 h0_5 h0_f6 h0_f7 h0_f8 h0_f9 h0_f10 (-1) h0_f12 h0_f13 h0_f14 h0_15 h0_16 h0_f17 h0_18 h0_19 h0_20 h0_21 h0_22 h0_23 h0_24 h0_25 h0_f26 h0_f27 h0_f28 h0_f29 h0_f30 h0_f31 h0_32 h0_33 h0_f34 h0_35 h0_36 h0_37 h0_38 h0_39 h0_40 h0_f41 h0_f42 h0_f43 h0_f44 h0_45 h0_46 h0_47 h0_48 h0_49 h0_50 h0_f51 h0_52 h0_f53 h2 h2k (upd w_423 (x_431 : Int32).toNatClampNeg 3) h0_5 h0_5k tN h0_5c) H := hP
      have hD : va_D A (wd_c_X12_readItems h0 h0_f0 h0_1 h0_2 h0_3 h0_4 h0_5 h0_f6 h0_f7 h0_f8 h0_f9 h0_f10 (-1) h0_f12 h0_f13 h0_f14 h0_15 h0_16 h0_f17 h0_18 h0_19 h0_20 h0_21 h0_22 h0_23 h0_24 h0_25 h0_f26 h0_f27 h0_f28 h0_f29 h0_f30 h0_f31 h0_32 h0_33 h0_f34 h0_35 h0_36 h0_37 h0_38 h0_39 h0_40 h0_f41 h0_f42 h0_f43 h0_f44 h0_45 h0_46 h0_47 h0_48 h0_49 h0_50 h0_f51 h0_52 h0_f53 h2 h2k (upd w_423 (x_431 : Int32).toNatClampNeg 3) h0_5 h0_5k tN h0_5c) := hD
      have l_444 : (upd w_423 (x_431 : Int32).toNatClampNeg 3) (x_431 : Int32).toNatClampNeg = 3 := pk_us
      have i_445 : BOi (p3.toInt + 4) (upd w_423 (x_431 : Int32).toNatClampNeg 3) := BOi_keep i_425 g_432 (by decide +kernel) (Or.inl (RG_w (RG_k 3 3 rfl) (by decide +kernel)))
      have a_446 : AI (upd w_423 (x_431 : Int32).toNatClampNeg 3) 0 99 := AI_up a_426 (RG_k 3 3 rfl) (by decide +kernel)
      generalize huw_443 : (upd w_423 (x_431 : Int32).toNatClampNeg 3) = w_443 at hP hD a_446 l_444 i_445
      replace hEX := hEX.trans (exl_eq huw_443.symm)
      have hP : va_P (dC, dI) vwCl (wd_c_X12_readItems h0 h0_f0 h0_1 h0_2 h0_3 h0_4 h0_5 h0_f6 h0_f7 h0_f8 h0_f9 h0_f10 (-1) h0_f12 h0_f13 h0_f14 h0_15 h0_16 h0_f17 h0_18 h0_19 h0_20 h0_21 h0_22 h0_23 h0_24 h0_25 h0_f26 h0_f27 h0_f28 h0_f29 h0_f30 h0_f31 h0_32 h0_33 h0_f34 h0_35 h0_36 h0_37 h0_38 h0_39 h0_40 h0_f41 h0_f42 h0_f43 h0_f44 h0_45 h0_46 h0_47 h0_48 h0_49 h0_50 h0_f51 h0_52 h0_f53 h2 h2k w_443 h0_5 h0_5k tN h0_5c) H := hP
      have hD : va_D A (wd_c_X12_readItems h0 h0_f0 h0_1 h0_2 h0_3 h0_4 h0_5 h0_f6 h0_f7 h0_f8 h0_f9 h0_f10 (-1) h0_f12 h0_f13 h0_f14 h0_15 h0_16 h0_f17 h0_18 h0_19 h0_20 h0_21 h0_22 h0_23 h0_24 h0_25 h0_f26 h0_f27 h0_f28 h0_f29 h0_f30 h0_f31 h0_32 h0_33 h0_f34 h0_35 h0_36 h0_37 h0_38 h0_39 h0_40 h0_f41 h0_f42 h0_f43 h0_f44 h0_45 h0_46 h0_47 h0_48 h0_49 h0_50 h0_f51 h0_52 h0_f53 h2 h2k w_443 h0_5 h0_5k tN h0_5c) := hD
      refine lv_iinc (v := 4) (lv' := [(5, .int 4), (0, .ref h0), (1, .int p1), (2, .ref h2), (3, .int p3), (4, .ref ts10)]) hx hb dX12_readItems_25 hl (k := 0) rfl (by decide +kernel) (Nat.le_of_ble_eq_true rfl) rfl (fun ls hl => ?_)
      as_aux_lemma =>
      refine lv_goto (tgt := 3) hx hb dX12_readItems_28 rfl ?_
      refine lv_iload hx hb dX12_readItems_3 (lv_at hl 0 rfl) ?_
      refine lv_aload hx hb dX12_readItems_5 (lv_at hl 5 rfl) ?_
      obtain ⟨hPc, hDc, hFc, hqc⟩ := cl_cut (wc := []) hP hD hS hA [] (by decide +kernel) rfl
      have hKc := hK.sub (tys' := []) [] rfl
      have hrv := bv_Orecv hE_63 hS
      refine va_calli (va_runV (As := []) (rest := [.int 4]) ⟨hx, hb, hml, hown, hts⟩ (c_J0_length_8abf5_6 l dC dI H.size ts10 tv10) (cwV 0 hts gf_c_X12_readItems_c_J0_length_8abf5_6 rfl rfl rfl mdV_J0_length_8abf5 ⟨Nat.le_of_ble_eq_true rfl, Nat.le_of_ble_eq_true rfl⟩) ⟨fun a U g mk q => by obtain ⟨q0, q1, qP, qK, qD, qE0, qE1, qE2, qE3, qE4⟩ := q; exact ⟨q0, q1, qP, va_K.moved (u := U) (U := U.calling g mk a) (Vm.Alike.refl U.vm) qK, qD, va_OF.moved (u := U) (U := U.calling g mk a) (Vm.Alike.refl U.vm) qE0, va_T.moved (u := U) (U := U.calling g mk a) (Vm.Alike.refl U.vm) qE1, va_Z.moved (u := U) (U := U.calling g mk a) (Vm.Alike.refl U.vm) qE2, va_OF.moved (u := U) (U := U.calling g mk a) (Vm.Alike.refl U.vm) qE3, va_O.moved (u := U) (U := U.calling g mk a) (Vm.Alike.refl U.vm) qE4⟩, hrv, fun U hU hW => ⟨rfl, by rw [hU], by rw [hU]; exact hPc, va_K.moved hW.alike hKc, hDc.weaken (fun _ _ _ _ => trivial), va_OF.moved hW.alike (by rw [hU]; exact (hE_65.kept hS.2.1).narrow hFc), va_T.moved hW.alike (by rw [hU]; exact (hE_66.kept hS.2.1).narrow hFc), va_Z.moved hW.alike (by rw [hU]; exact (hE_10.kept hS.2.1).narrow hFc), va_OF.moved hW.alike (by rw [hU]; exact (hE_64.kept hS.2.1).narrow hFc), va_O.moved hW.alike (by rw [hU]; exact (hE_63.kept hS.2.1).narrow hFc)⟩⟩ rfl rfl hl.1 rfl (lv_room (Nat.le_of_ble_eq_true rfl)) dX12_readItems_7 ⟨Nat.le_of_ble_eq_true rfl, Nat.le_of_ble_eq_true rfl⟩) hS (fun q _ h => hFc q h) hFc (fun r_447 u t H1 locs ht hvm hw hB hz1 hk1 hS => ?_)
      obtain ⟨hP1, hK1, hD1⟩ := hB
      rw [ht] at hP1
      have hP := bv_still hP hk1
      generalize H1 = H at hP hS ⊢
      as_aux_lemma =>
      rcases hw with ⟨h_448, h_449⟩
      have h_449 : r_447 = _ := h_449
      replace hEX := hEX.trans (exc1_eq h_449)
      rw [h_448]
      refine lv_icmp_ge (tgt := 31) hx hb dX12_readItems_10 rfl (fun c_450 => ?_) (fun c_450 => absurd c_450 (by decide +kernel))
      refine lv_iconst (v := 0) hx hb dX12_readItems_31 kc_iconst_0 ?_
      refine lv_istore (lv' := [(5, .int 0), (0, .ref h0), (1, .int p1), (2, .ref h2), (3, .int p3), (4, .ref ts10)]) hx hb dX12_readItems_32 hl (Nat.le_of_ble_eq_true rfl) rfl (fun ls hl => ?_)
      refine lv_aload hx hb dX12_readItems_34 (lv_at hl 5 rfl) ?_
      refine lv_aload_n hx hb dX12_readItems_36 rfl (lv_at hl 1 rfl) ?_
      obtain ⟨hPc, hDc, hFc, hqc⟩ := cl_cut (wc := (wd_c_X12_look h0 h0_f0 h0_1 h0_2 h0_3 h0_4 h0_5 h0_f6 h0_f7 h0_f8 h0_f9 h0_f10 (-1) h0_f12 h0_f13 h0_f14 h0_15 h0_16 h0_f17 h0_18 h0_19 h0_20 h0_21 h0_22 h0_23 h0_24 h0_25 h0_f26 h0_f27 h0_f28 h0_f29 h0_f30 h0_f31 h0_32 h0_33 h0_f34 h0_35 h0_36 h0_37 h0_38 h0_39 h0_40 h0_f41 h0_f42 h0_f43 h0_f44 h0_45 h0_46 h0_47 h0_48 h0_49 h0_50 h0_f51 h0_52 h0_f53 h0_5 h0_5k tN h0_5c)) hP hD hS hA [0, 2] (by decide +kernel) rfl
      have hKc := hK.sub (tys' := [(h0_5k, .byte)]) [1] rfl
      have hrv := va_recv hKc hPc (ci := 12) (q0 := 0) rfl rfl
      refine va_calli (va_runV (As := []) (rest := [.ref ts10]) ⟨hx, hb, hml, hown, hts⟩ (c_X12_look l dC dI H.size h0 h0_f0 h0_1 h0_2 h0_3 h0_4 h0_5 h0_f6 h0_f7 h0_f8 h0_f9 h0_f10 h0_f12 h0_f13 h0_f14 h0_15 h0_16 h0_f17 h0_18 h0_19 h0_20 h0_21 h0_22 h0_23 h0_24 h0_25 h0_f26 h0_f27 h0_f28 h0_f29 h0_f30 h0_f31 h0_32 h0_33 h0_f34 h0_35 h0_36 h0_37 h0_38 h0_39 h0_40 h0_f41 h0_f42 h0_f43 h0_f44 h0_45 h0_46 h0_47 h0_48 h0_49 h0_50 h0_f51 h0_52 h0_f53 h0_5k h0_5c tN g_h0_f6 g_h0_f7 g_h0_f8 g_h0_f9 g_h0_f10 g_h0_f17 g_h0_f26 g_h0_f27 g_h0_f28 g_h0_f29 g_h0_f30 g_h0_f31 g_h0_f34 g_h0_f41 g_h0_f51 g_h0_f53 htN) (cwV 0 hts gf_c_X12_readItems_c_X12_look rfl rfl rfl mdV_X12_look ⟨Nat.le_of_ble_eq_true rfl, Nat.le_of_ble_eq_true rfl⟩) ⟨fun a U g mk q => by obtain ⟨q0, q1, qP, qK, qD⟩ := q; exact ⟨q0, q1, qP, va_K.moved (u := U) (U := U.calling g mk a) (Vm.Alike.refl U.vm) qK, qD⟩, hrv, fun U hU hW => ⟨rfl, by rw [hU], by rw [hU]; exact hPc, va_K.moved hW.alike hKc, hDc.weaken (fun _ _ _ _ => trivial)⟩⟩ rfl rfl hl.1 rfl (lv_room (Nat.le_of_ble_eq_true rfl)) dX12_readItems_37 ⟨Nat.le_of_ble_eq_true rfl, Nat.le_of_ble_eq_true rfl⟩) hS (fun q _ h => hFc q h) hFc (fun r_451 x_452 t H1 locs ht hvm hw hB hz1 hk1 hS => ?_)
      obtain ⟨hP1, hK1, hD1⟩ := hB
      rw [ht] at hP1
      obtain ⟨hP, hD⟩ := cl_put (w1 := (wd_c_X12_look h0 h0_f0 h0_1 h0_2 h0_3 h0_4 h0_5 h0_f6 h0_f7 h0_f8 h0_f9 x_452 (-1) h0_f12 h0_f13 h0_f14 h0_15 h0_16 h0_f17 h0_18 h0_19 h0_20 h0_21 h0_22 h0_23 h0_24 h0_25 h0_f26 h0_f27 h0_f28 h0_f29 h0_f30 h0_f31 h0_32 h0_33 h0_f34 h0_35 h0_36 h0_37 h0_38 h0_39 h0_40 h0_f41 h0_f42 h0_f43 h0_f44 h0_45 h0_46 h0_47 h0_48 h0_49 h0_50 h0_f51 h0_52 h0_f53 h0_5 h0_5k tN h0_5c)) (nw := (wd_c_X12_readItems h0 h0_f0 h0_1 h0_2 h0_3 h0_4 h0_5 h0_f6 h0_f7 h0_f8 h0_f9 x_452 (-1) h0_f12 h0_f13 h0_f14 h0_15 h0_16 h0_f17 h0_18 h0_19 h0_20 h0_21 h0_22 h0_23 h0_24 h0_25 h0_f26 h0_f27 h0_f28 h0_f29 h0_f30 h0_f31 h0_32 h0_33 h0_f34 h0_35 h0_36 h0_37 h0_38 h0_39 h0_40 h0_f41 h0_f42 h0_f43 h0_f44 h0_45 h0_46 h0_47 h0_48 h0_49 h0_50 h0_f51 h0_52 h0_f53 h2 h2k w_443 h0_5 h0_5k tN h0_5c)) hP hD [0, 2] [3, 1, 4] 3 rfl hqc (by decide +kernel) rfl hk1 hFc hP1 hD1
      generalize H1 = H at hP hS ⊢
      as_aux_lemma =>
      rcases hw with ⟨h_453, h_454, h_455, h_456, h_457, h_458⟩ | ⟨h_459, h_460, h_461, h_462, h_463, h_464, h_465⟩
      · have h_458 : (r_451, x_452) = _ := h_458
        replace hEX := hEX.trans (exc2_eq h_458)
        replace hEX := hEX.trans (if_pos (show r_451 = (-1) from h_453))
        rw [h_453]
        obtain ⟨hPc, hDc, hFc, hqc⟩ := cl_cut (wc := []) hP hD hS hA [] (by decide +kernel) rfl
        have hKc := hK.sub (tys' := []) [] rfl
        refine va_calli (va_runS (As := [.ref ts10, .int (-1)]) (rest := []) ⟨hx, hb, hml, hown, hts⟩ (c_X12_spotOf l dC dI H.size ts10 tv10) (va_cwS 2 hts gf_c_X12_readItems_c_X12_spotOf rfl rfl rfl md_X12_spotOf ⟨Nat.le_of_ble_eq_true rfl, Nat.le_of_ble_eq_true rfl⟩) ⟨fun a U g mk q => by obtain ⟨q0, q1, qP, qK, qD, qE0, qE1, qE2, qE3, qE4, qE5⟩ := q; exact ⟨q0, q1, qP, va_K.moved (u := U) (U := U.calling g mk a) (Vm.Alike.refl U.vm) qK, qD, va_OF.moved (u := U) (U := U.calling g mk a) (Vm.Alike.refl U.vm) qE0, va_T.moved (u := U) (U := U.calling g mk a) (Vm.Alike.refl U.vm) qE1, va_Z.moved (u := U) (U := U.calling g mk a) (Vm.Alike.refl U.vm) qE2, va_OF.moved (u := U) (U := U.calling g mk a) (Vm.Alike.refl U.vm) qE3, va_O.moved (u := U) (U := U.calling g mk a) (Vm.Alike.refl U.vm) qE4, va_Zq.moved (u := U) (U := U.calling g mk a) (Vm.Alike.refl U.vm) qE5⟩, fun U hU hW => ⟨rfl, by rw [hU], by rw [hU]; exact hPc, va_K.moved hW.alike hKc, hDc.weaken (fun _ _ _ _ => trivial), va_OF.moved hW.alike (by rw [hU]; exact (hE_65.kept hS.2.1).narrow hFc), va_T.moved hW.alike (by rw [hU]; exact (hE_66.kept hS.2.1).narrow hFc), va_Z.moved hW.alike (by rw [hU]; exact (hE_10.kept hS.2.1).narrow hFc), va_OF.moved hW.alike (by rw [hU]; exact (hE_64.kept hS.2.1).narrow hFc), va_O.moved hW.alike (by rw [hU]; exact (hE_63.kept hS.2.1).narrow hFc), va_Zq.moved hW.alike (by rw [hU]; exact (hE_11.kept hS.2.1).narrow hFc)⟩⟩ rfl rfl hl.1 rfl (lv_room (Nat.le_of_ble_eq_true rfl)) dX12_readItems_40 ⟨Nat.le_of_ble_eq_true rfl, Nat.le_of_ble_eq_true rfl⟩) hS (fun q _ h => hFc q h) hFc (fun r_466 u t H1 locs ht hvm hw hB hz1 hk1 hS => ?_)
        obtain ⟨hP1, hK1, hD1⟩ := hB
        rw [ht] at hP1
        have hP := bv_still hP hk1
        generalize H1 = H at hP hS ⊢
        as_aux_lemma =>
        rcases hw with ⟨h_467, h_468⟩
        have h_468 : r_466 = _ := h_468
        replace hEX := hEX.trans (exc1_eq h_468)
        rw [h_467]
        refine lv_istore (lv' := [(6, .int (-1)), (5, .int 0), (0, .ref h0), (1, .int p1), (2, .ref h2), (3, .int p3), (4, .ref ts10)]) hx hb dX12_readItems_43 hl (Nat.le_of_ble_eq_true rfl) rfl (fun ls hl => ?_)
        exact hU _ _ _ (J45 0 x_452 w_443 g_h0_f10 g_h0_f17 g_h0_f26 g_h0_f27 g_h0_f28 g_h0_f29 g_h0_f30 g_h0_f31 g_h0_f34 g_h0_f41 g_h0_f51 g_h0_f53 g_h0_f6 g_h0_f7 g_h0_f8 g_h0_f9 h_454 g_p1 g_p3 a_446 i_445 (by have := h_455; omega) hEX _ _ _ hP hD hS (lv_sub hl [0, 1, 2, 3, 4, 5, 6] rfl))
      · have h_465 : (r_451, x_452) = _ := h_465
        replace hEX := hEX.trans (exc2_eq h_465)
        replace hEX := hEX.trans (if_neg (RG_neq (x := r_451) (c := (-1)) (show RG r_451 0 255 from h_459) (by decide +kernel)))
        have nb_469 := h_464.2.resolve_left (fun q => by have g9 := h_459; rw [q] at g9; exact absurd g9.1 (by decide +kernel))
        obtain ⟨hPc, hDc, hFc, hqc⟩ := cl_cut (wc := []) hP hD hS hA [] (by decide +kernel) rfl
        have hKc := hK.sub (tys' := []) [] rfl
        refine va_calli (va_runS (As := [.ref ts10, .int r_451]) (rest := []) ⟨hx, hb, hml, hown, hts⟩ (c_X12_spotOf_1 l dC dI H.size ts10 r_451 tv10 h_459) (va_cwS 2 hts gf_c_X12_readItems_c_X12_spotOf_1 rfl rfl rfl md_X12_spotOf ⟨Nat.le_of_ble_eq_true rfl, Nat.le_of_ble_eq_true rfl⟩) ⟨fun a U g mk q => by obtain ⟨q0, q1, qP, qK, qD, qE0, qE1, qE2, qE3, qE4, qE5⟩ := q; exact ⟨q0, q1, qP, va_K.moved (u := U) (U := U.calling g mk a) (Vm.Alike.refl U.vm) qK, qD, va_OF.moved (u := U) (U := U.calling g mk a) (Vm.Alike.refl U.vm) qE0, va_T.moved (u := U) (U := U.calling g mk a) (Vm.Alike.refl U.vm) qE1, va_Z.moved (u := U) (U := U.calling g mk a) (Vm.Alike.refl U.vm) qE2, va_OF.moved (u := U) (U := U.calling g mk a) (Vm.Alike.refl U.vm) qE3, va_O.moved (u := U) (U := U.calling g mk a) (Vm.Alike.refl U.vm) qE4, va_Zq.moved (u := U) (U := U.calling g mk a) (Vm.Alike.refl U.vm) qE5⟩, fun U hU hW => ⟨rfl, by rw [hU], by rw [hU]; exact hPc, va_K.moved hW.alike hKc, hDc.weaken (fun _ _ _ _ => trivial), va_OF.moved hW.alike (by rw [hU]; exact (hE_65.kept hS.2.1).narrow hFc), va_T.moved hW.alike (by rw [hU]; exact (hE_66.kept hS.2.1).narrow hFc), va_Z.moved hW.alike (by rw [hU]; exact (hE_10.kept hS.2.1).narrow hFc), va_OF.moved hW.alike (by rw [hU]; exact (hE_64.kept hS.2.1).narrow hFc), va_O.moved hW.alike (by rw [hU]; exact (hE_63.kept hS.2.1).narrow hFc), va_Zq.moved hW.alike (by rw [hU]; exact (hE_11.kept hS.2.1).narrow hFc)⟩⟩ rfl rfl hl.1 rfl (lv_room (Nat.le_of_ble_eq_true rfl)) dX12_readItems_40 ⟨Nat.le_of_ble_eq_true rfl, Nat.le_of_ble_eq_true rfl⟩) hS (fun q _ h => hFc q h) hFc (fun r_470 u t H1 locs ht hvm hw hB hz1 hk1 hS => ?_)
        obtain ⟨hP1, hK1, hD1⟩ := hB
        rw [ht] at hP1
        have hP := bv_still hP hk1
        generalize H1 = H at hP hS ⊢
        as_aux_lemma =>
        rcases hw with ⟨h_471, h_472⟩ | ⟨h_473, h_474, h_475⟩ | ⟨h_476, h_477, h_478⟩ | ⟨h_479, h_480, h_481⟩ | ⟨h_482, h_483, h_484⟩
        · have h_472 : r_470 = _ := h_472
          replace hEX := hEX.trans (exc1_eq h_472)
          replace hEX := hEX.trans (if_pos (show r_470 = (-1) from h_471))
          rw [h_471]
          refine lv_istore (lv' := [(6, .int (-1)), (5, .int 0), (0, .ref h0), (1, .int p1), (2, .ref h2), (3, .int p3), (4, .ref ts10)]) hx hb dX12_readItems_43 hl (Nat.le_of_ble_eq_true rfl) rfl (fun ls hl => ?_)
          exact hU _ _ _ (J45 0 x_452 w_443 g_h0_f10 g_h0_f17 g_h0_f26 g_h0_f27 g_h0_f28 g_h0_f29 g_h0_f30 g_h0_f31 g_h0_f34 g_h0_f41 g_h0_f51 g_h0_f53 g_h0_f6 g_h0_f7 g_h0_f8 (RG_w h_461 (by decide +kernel)) (RG_w h_460 (by decide +kernel)) g_p1 g_p3 a_446 i_445 (by have := h_462; omega) hEX _ _ _ hP hD hS (lv_sub hl [0, 1, 2, 3, 4, 5, 6] rfl))
        · have h_475 : r_470 = _ := h_475
          replace hEX := hEX.trans (exc1_eq h_475)
          replace hEX := hEX.trans (if_neg (fun q9 : r_470 = (-1) => absurd ((show r_470 = 3 from h_473).symm.trans q9) (by decide +kernel)))
          replace hEX := hEX.trans (if_pos (show r_470 = 3 from h_473))
          rw [h_473]
          refine lv_istore (lv' := [(6, .int 3), (5, .int 0), (0, .ref h0), (1, .int p1), (2, .ref h2), (3, .int p3), (4, .ref ts10)]) hx hb dX12_readItems_43 hl (Nat.le_of_ble_eq_true rfl) rfl (fun ls hl => ?_)
          exact hU _ _ _ (J45b exF 3 0 x_452 w_443 MU_F g_h0_f10 g_h0_f17 g_h0_f26 g_h0_f27 g_h0_f28 g_h0_f29 g_h0_f30 g_h0_f31 g_h0_f34 g_h0_f41 g_h0_f51 g_h0_f53 g_h0_f6 g_h0_f7 g_h0_f8 h_461 h_460 (RG_w (RG_k 3 3 rfl) (by decide +kernel)) g_p1 g_p3 a_446 i_445 (by have := h_462; omega) hEX _ _ _ hP hD hS (lv_sub hl [0, 1, 2, 3, 4, 5, 6] rfl))
        · have h_478 : r_470 = _ := h_478
          replace hEX := hEX.trans (exc1_eq h_478)
          replace hEX := hEX.trans (if_neg (fun q9 : r_470 = (-1) => absurd ((show r_470 = 2 from h_476).symm.trans q9) (by decide +kernel)))
          replace hEX := hEX.trans (if_neg (fun q9 : r_470 = 3 => absurd ((show r_470 = 2 from h_476).symm.trans q9) (by decide +kernel)))
          replace hEX := hEX.trans (if_pos (show r_470 = 2 from h_476))
          rw [h_476]
          refine lv_istore (lv' := [(6, .int 2), (5, .int 0), (0, .ref h0), (1, .int p1), (2, .ref h2), (3, .int p3), (4, .ref ts10)]) hx hb dX12_readItems_43 hl (Nat.le_of_ble_eq_true rfl) rfl (fun ls hl => ?_)
          as_aux_lemma =>
          exact hU _ _ _ (J45b exF 2 0 x_452 w_443 MU_F g_h0_f10 g_h0_f17 g_h0_f26 g_h0_f27 g_h0_f28 g_h0_f29 g_h0_f30 g_h0_f31 g_h0_f34 g_h0_f41 g_h0_f51 g_h0_f53 g_h0_f6 g_h0_f7 g_h0_f8 h_461 h_460 (RG_w (RG_k 2 2 rfl) (by decide +kernel)) g_p1 g_p3 a_446 i_445 (by have := h_462; omega) hEX _ _ _ hP hD hS (lv_sub hl [0, 1, 2, 3, 4, 5, 6] rfl))
        · have h_481 : r_470 = _ := h_481
          replace hEX := hEX.trans (exc1_eq h_481)
          replace hEX := hEX.trans (if_neg (fun q9 : r_470 = (-1) => absurd ((show r_470 = 1 from h_479).symm.trans q9) (by decide +kernel)))
          replace hEX := hEX.trans (if_neg (fun q9 : r_470 = 3 => absurd ((show r_470 = 1 from h_479).symm.trans q9) (by decide +kernel)))
          replace hEX := hEX.trans (if_neg (fun q9 : r_470 = 2 => absurd ((show r_470 = 1 from h_479).symm.trans q9) (by decide +kernel)))
          replace hEX := hEX.trans (if_pos (show r_470 = 1 from h_479))
          rw [h_479]
          refine lv_istore (lv' := [(6, .int 1), (5, .int 0), (0, .ref h0), (1, .int p1), (2, .ref h2), (3, .int p3), (4, .ref ts10)]) hx hb dX12_readItems_43 hl (Nat.le_of_ble_eq_true rfl) rfl (fun ls hl => ?_)
          exact hU _ _ _ (J45b exF 1 0 x_452 w_443 MU_F g_h0_f10 g_h0_f17 g_h0_f26 g_h0_f27 g_h0_f28 g_h0_f29 g_h0_f30 g_h0_f31 g_h0_f34 g_h0_f41 g_h0_f51 g_h0_f53 g_h0_f6 g_h0_f7 g_h0_f8 h_461 h_460 (RG_w (RG_k 1 1 rfl) (by decide +kernel)) g_p1 g_p3 a_446 i_445 (by have := h_462; omega) hEX _ _ _ hP hD hS (lv_sub hl [0, 1, 2, 3, 4, 5, 6] rfl))
        · have h_484 : r_470 = _ := h_484
          replace hEX := hEX.trans (exc1_eq h_484)
          replace hEX := hEX.trans (if_neg (fun q9 : r_470 = (-1) => absurd ((show r_470 = 0 from h_482).symm.trans q9) (by decide +kernel)))
          replace hEX := hEX.trans (if_neg (fun q9 : r_470 = 3 => absurd ((show r_470 = 0 from h_482).symm.trans q9) (by decide +kernel)))
          replace hEX := hEX.trans (if_neg (fun q9 : r_470 = 2 => absurd ((show r_470 = 0 from h_482).symm.trans q9) (by decide +kernel)))
          replace hEX := hEX.trans (if_neg (fun q9 : r_470 = 1 => absurd ((show r_470 = 0 from h_482).symm.trans q9) (by decide +kernel)))
          rw [h_482]
          refine lv_istore (lv' := [(6, .int 0), (5, .int 0), (0, .ref h0), (1, .int p1), (2, .ref h2), (3, .int p3), (4, .ref ts10)]) hx hb dX12_readItems_43 hl (Nat.le_of_ble_eq_true rfl) rfl (fun ls hl => ?_)
          as_aux_lemma =>
          exact hU _ _ _ (J45b exF 0 0 x_452 w_443 MU_F g_h0_f10 g_h0_f17 g_h0_f26 g_h0_f27 g_h0_f28 g_h0_f29 g_h0_f30 g_h0_f31 g_h0_f34 g_h0_f41 g_h0_f51 g_h0_f53 g_h0_f6 g_h0_f7 g_h0_f8 h_461 h_460 (RG_w (RG_k 0 0 rfl) (by decide +kernel)) g_p1 g_p3 a_446 i_445 (by have := h_462; omega) hEX _ _ _ hP hD hS (lv_sub hl [0, 1, 2, 3, 4, 5, 6] rfl))
    · have h_442 : r_433 = _ := h_442
      replace hEX := hEX.trans (exc1_eq h_442)
      replace hEX := hEX.trans (if_neg (fun q9 : r_433 = 0 => absurd ((show r_433 = 2 from h_440).symm.trans q9) (by decide +kernel)))
      replace hEX := hEX.trans (if_neg (fun q9 : r_433 = 3 => absurd ((show r_433 = 2 from h_440).symm.trans q9) (by decide +kernel)))
      rw [h_440]
      exact RG_dead (RG_eq1 (RG_k 3 3 rfl) h_441 rfl (a' := 3) (b' := 2) (by decide +kernel)) (by decide +kernel)
