noncomputable def wf_c_J1_indexOf_4cfef_2 : List Cond := .code yJ1_indexOf_4cfef cJ1_indexOf_4cfef 4 (some .int) :: ([.methodLink RJ1 88 yJ1_canEncode_9a6ad, .static yJ1_canEncode_9a6ad, .initialized RJ1, .code yJ1_canEncode_9a6ad cJ1_canEncode_9a6ad 1 (some .boolean), .methodLink RJ1 92 Lib.Math.max.name, .static Lib.Math.max.name, .initialized "java/lang/Math", .code Lib.Math.max.name Lib.Math.max.code 2 (some .int), .methodLink RJ1 38 Lib.Math.min.name, .static Lib.Math.min.name, .code Lib.Math.min.name Lib.Math.min.code 2 (some .int), .methodLink RJ1 95 yJ1_indexOfChar_4cfef, .static yJ1_indexOfChar_4cfef, .code yJ1_indexOfChar_4cfef cJ1_indexOfChar_4cfef 6 (some .int)])
set_option maxRecDepth 20000 in
theorem gf_c_J1_indexOf_4cfef_2_c_J1_canEncode_9a6ad : GoodIn wf_c_J1_indexOf_4cfef_2 (va_wsS RJ1 88 yJ1_canEncode_9a6ad wf_c_J1_canEncode_9a6ad) := goodIn_app (gi_l [1, 2, 3] rfl rfl) (gi_cons (j := 4) rfl rfl gi_nil)
set_option maxRecDepth 20000 in
theorem gf_c_J1_indexOf_4cfef_2_c_J1_indexOfChar_4cfef_2 : GoodIn wf_c_J1_indexOf_4cfef_2 (va_wsS RJ1 95 yJ1_indexOfChar_4cfef wf_c_J1_indexOfChar_4cfef_2) := goodIn_app (gi_l [12, 13, 3] rfl rfl) (gi_cons (j := 14) rfl rfl gi_nil)
set_option maxHeartbeats 4000000 in
set_option maxRecDepth 100000 in
theorem c_J1_indexOf_4cfef_2 (l : Launch) (dC : Nat → ClassId) (dI : Nat → Nat → Nat) (sz : Nat) (tv2 : Nat) (p1 : Int32) (g_p1 : RG p1 0 65535) : Met l yJ1_indexOf_4cfef wf_c_J1_indexOf_4cfef_2 ({ frames := 1, cells := 0, slots := 0, locals := 25 }) (va_Pc [.ref tv2, .int p1, .int 0, .int 8] (fun U => U.heap.size = sz ∧ va_P (dC, dI) vwCl [] U.heap ∧ va_K (dC, dI) vwCl [] U ∧ va_D (fun _ => True) [] ∧ va_T .byte tv2 8 (fun j => .int ([120, 121, 99, 97, 101, 102, 111, 114].getD j 0)) (va_A [] sz) U U.heap)) (va_Qi (fun (r : Int32) (u : Unit) => (r = (-1) ∧ r = fx_c_J1_indexOf_4cfef_2 p1) ∨ (RG r 0 7 ∧ RG p1 0 255 ∧ r = fx_c_J1_indexOf_4cfef_2 p1)) (fun (u : Unit) t => va_P (dC, dI) vwCl [] t.heap ∧ va_K (dC, dI) vwCl [] t ∧ va_D (va_A [] sz) []) (va_A [] sz)) 0 0 (va_A [] sz) := by
  refine Met.ofW (cc := cJ1_indexOf_4cfef) (maxL := 4) (ret := (some .int)) (by decide +kernel) rfl ?_
  intro p e s m args below meth c s₁ B hml hv
  obtain ⟨rfl, hsz, hP, hK, hD0, hE_26⟩ := hv
  have hx := B.exec
  have hb := B.bytes
  have hr := B.returns
  have hts := atoms_spec (ws := wf_c_J1_indexOf_4cfef_2) B.pre
  have hown : s.vm.findClass RJ1 = some m.cls := findClass_of_methodNamed B.named
  have hlocks := B.notSynchronized
  subst hsz
  have hD := hD0.self (sz := s.heap.size)
  generalize hAe : va_A [] s.heap.size = A at hD hE_26 ⊢
  have hA : ∀ q : Nat, s.heap.size ≤ q → A q := fun q h => by rw [← hAe]; exact Or.inr h
  have hP : va_P (dC, dI) vwCl [] s.heap := hP
  have hl := lv_entry ([.ref tv2, .int p1, .int 0, .int 8]) (n := 4) (Nat.le_of_ble_eq_true rfl)
  rw [lg_entry_eq]
  generalize (lg_sl ([.ref tv2, .int p1, .int 0, .int 8]) ++ List.replicate (4 - (lg_sl ([.ref tv2, .int p1, .int 0, .int 8])).length) Slot.unset).toArray = ls at hl ⊢
  have hl : lv_has ls 4 [(0, .ref tv2), (1, .int p1), (2, .int 0), (3, .int 8)] := hl
  obtain ⟨H, hHe⟩ : ∃ H : Heap, s.heap = H := ⟨_, rfl⟩
  have hS : va_S A s.heap H [] := by rw [hHe]; exact va_S.rf
  have hP : va_P (dC, dI) vwCl [] H := by rw [← hHe]; exact hP
  rw [hHe]
  obtain ⟨RES, hR⟩ : ∃ z, fx_c_J1_indexOf_4cfef_2 p1 = z := ⟨_, rfl⟩
  have hEX : RES = fx_c_J1_indexOf_4cfef_2 p1 := hR.symm
  refine lv_iload_n hx hb dJ1_indexOf_4cfef_0 rfl (lv_at hl 1 rfl) ?_
  as_aux_lemma =>
  obtain ⟨hPc, hDc, hFc, hqc⟩ := cl_cut (wc := []) hP hD hS hA [] (by decide +kernel) rfl
  have hKc := hK.sub (tys' := []) [] rfl
  refine va_calli (va_runS (As := [.int p1]) (rest := []) ⟨hx, hb, hml, hown, hts⟩ (c_J1_canEncode_9a6ad l dC dI H.size p1 g_p1) (va_cwS 1 hts gf_c_J1_indexOf_4cfef_2_c_J1_canEncode_9a6ad rfl rfl rfl md_J1_canEncode_9a6ad ⟨Nat.le_of_ble_eq_true rfl, Nat.le_of_ble_eq_true rfl⟩) ⟨fun a U g mk q => by obtain ⟨q0, q1, qP, qK, qD⟩ := q; exact ⟨q0, q1, qP, va_K.moved (u := U) (U := U.calling g mk a) (Vm.Alike.refl U.vm) qK, qD⟩, fun U hU hW => ⟨rfl, by rw [hU], by rw [hU]; exact hPc, va_K.moved hW.alike hKc, hDc.weaken (fun _ _ _ _ => trivial)⟩⟩ rfl rfl hl.1 rfl (lv_room (Nat.le_of_ble_eq_true rfl)) dJ1_indexOf_4cfef_1 ⟨Nat.le_of_ble_eq_true rfl, Nat.le_of_ble_eq_true rfl⟩) hS (fun q _ h => hFc q h) hFc (fun r_1 u t H1 locs ht hvm hw hB hz1 hk1 hS => ?_)
  obtain ⟨hP1, hK1, hD1⟩ := hB
  rw [ht] at hP1
  have hP := bv_still hP hk1
  generalize H1 = H at hP hS ⊢
  as_aux_lemma =>
  rcases hw with ⟨h_2, h_3, h_4⟩ | ⟨h_5, h_6, h_7⟩
  · have h_4 : r_1 = _ := h_4
    replace hEX := hEX.trans (exc1_eq h_4)
    replace hEX := hEX.trans (if_pos (show r_1 = 0 from h_2))
    rw [h_2]
    refine lv_if_ne (tgt := 9) hx hb dJ1_indexOf_4cfef_4 rfl (fun c_8 => absurd c_8 (by decide +kernel)) (fun c_8 => ?_)
    refine lv_iconst (v := (-1)) hx hb dJ1_indexOf_4cfef_7 kc_iconst_m1 ?_
    have hK9 := hK.sub (tys' := []) [] rfl
    exact W.iret (v := (-1)) hx hb hr (fun t ht hW => ⟨⟨(-1), (), rfl, (Or.inl ⟨rfl, (hR.trans hEX).symm⟩), by rw [ht]; exact hP, va_K.moved hW.alike hK9, hD⟩, hS.F ht⟩) hS.2.2 dJ1_indexOf_4cfef_8
  · have h_7 : r_1 = _ := h_7
    replace hEX := hEX.trans (exc1_eq h_7)
    replace hEX := hEX.trans (if_neg (fun q9 : r_1 = 0 => absurd ((show r_1 = 1 from h_5).symm.trans q9) (by decide +kernel)))
    rw [h_5]
    refine lv_if_ne (tgt := 9) hx hb dJ1_indexOf_4cfef_4 rfl (fun c_9 => ?_) (fun c_9 => absurd c_9 (by decide +kernel))
    refine lv_iload_n hx hb dJ1_indexOf_4cfef_9 rfl (lv_at hl 2 rfl) ?_
    as_aux_lemma =>
    refine lv_iconst (v := 0) hx hb dJ1_indexOf_4cfef_10 kc_iconst_0 ?_
    refine va_mmax hx hb (by rw [hml]; exact hl.1.symm) hown (hts (.methodLink RJ1 92 Lib.Math.max.name) (List.mem_of_getElem? (i := 5) rfl)) (hts (.static Lib.Math.max.name) (List.mem_of_getElem? (i := 6) rfl)) (hts (.initialized "java/lang/Math") (List.mem_of_getElem? (i := 7) rfl)) (hts (.code Lib.Math.max.name Lib.Math.max.code 2 (some .int)) (List.mem_of_getElem? (i := 8) rfl)) (Nat.le_of_ble_eq_true rfl) (Nat.le_of_ble_eq_true rfl) (Nat.le_of_ble_eq_true rfl) (Nat.le_of_ble_eq_true rfl) dJ1_indexOf_4cfef_11 ?_
    refine lv_topi (fun x_10 ex_10 => ?_)
    replace hEX := hEX.trans (exl_eq ex_10)
    have g_11 : RG x_10 0 0 := RG_max ex_10 (RG_k 0 0 rfl) (RG_k 0 0 rfl) (by decide +kernel)
    refine lv_istore_n (lv' := [(2, .int x_10), (0, .ref tv2), (1, .int p1), (3, .int 8)]) hx hb dJ1_indexOf_4cfef_14 rfl hl (Nat.le_of_ble_eq_true rfl) rfl (fun ls hl => ?_)
    refine lv_iload_n hx hb dJ1_indexOf_4cfef_15 rfl (lv_at hl 3 rfl) ?_
    refine lv_aload_n hx hb dJ1_indexOf_4cfef_16 rfl (lv_at hl 1 rfl) ?_
    refine va_tlen (v := 8) hx hb hE_26 hS rfl dJ1_indexOf_4cfef_17 ?_
    refine va_mmin hx hb (by rw [hml]; exact hl.1.symm) hown (hts (.methodLink RJ1 38 Lib.Math.min.name) (List.mem_of_getElem? (i := 9) rfl)) (hts (.static Lib.Math.min.name) (List.mem_of_getElem? (i := 10) rfl)) (hts (.initialized "java/lang/Math") (List.mem_of_getElem? (i := 7) rfl)) (hts (.code Lib.Math.min.name Lib.Math.min.code 2 (some .int)) (List.mem_of_getElem? (i := 11) rfl)) (Nat.le_of_ble_eq_true rfl) (Nat.le_of_ble_eq_true rfl) (Nat.le_of_ble_eq_true rfl) (Nat.le_of_ble_eq_true rfl) dJ1_indexOf_4cfef_18 ?_
    refine lv_topi (fun x_12 ex_12 => ?_)
    replace hEX := hEX.trans (exl_eq ex_12)
    have g_13 : RG x_12 8 8 := RG_min ex_12 (RG_k 8 8 rfl) (RG_k 8 8 rfl) (by decide +kernel)
    refine lv_istore_n (lv' := [(3, .int x_12), (2, .int x_10), (0, .ref tv2), (1, .int p1)]) hx hb dJ1_indexOf_4cfef_21 rfl hl (Nat.le_of_ble_eq_true rfl) rfl (fun ls hl => ?_)
    as_aux_lemma =>
    refine lv_iload_n hx hb dJ1_indexOf_4cfef_22 rfl (lv_at hl 1 rfl) ?_
    refine lv_iload_n hx hb dJ1_indexOf_4cfef_23 rfl (lv_at hl 0 rfl) ?_
    refine lv_icmp_lt (tgt := 29) hx hb dJ1_indexOf_4cfef_24 rfl (fun c_14 => ?_) (fun c_14 => ?_)
    · replace hEX := hEX.trans (if_pos c_14)
      refine lv_aload_n hx hb dJ1_indexOf_4cfef_29 rfl (lv_at hl 2 rfl) ?_
      refine lv_iload_n hx hb dJ1_indexOf_4cfef_30 rfl (lv_at hl 3 rfl) ?_
      refine lv_iload_n hx hb dJ1_indexOf_4cfef_31 rfl (lv_at hl 1 rfl) ?_
      refine lv_iload_n hx hb dJ1_indexOf_4cfef_32 rfl (lv_at hl 0 rfl) ?_
      obtain ⟨hPc, hDc, hFc, hqc⟩ := cl_cut (wc := []) hP hD hS hA [] (by decide +kernel) rfl
      have hKc := hK.sub (tys' := []) [] rfl
      refine va_calli (va_runS (As := [.ref tv2, .int p1, .int x_10, .int x_12]) (rest := []) ⟨hx, hb, hml, hown, hts⟩ (c_J1_indexOfChar_4cfef_2 l dC dI H.size tv2 p1 x_10 x_12 h_6 g_11 g_13) (va_cwS 4 hts gf_c_J1_indexOf_4cfef_2_c_J1_indexOfChar_4cfef_2 rfl rfl rfl md_J1_indexOfChar_4cfef ⟨Nat.le_of_ble_eq_true rfl, Nat.le_of_ble_eq_true rfl⟩) ⟨fun a U g mk q => by obtain ⟨q0, q1, qP, qK, qD, qE0⟩ := q; exact ⟨q0, q1, qP, va_K.moved (u := U) (U := U.calling g mk a) (Vm.Alike.refl U.vm) qK, qD, va_T.moved (u := U) (U := U.calling g mk a) (Vm.Alike.refl U.vm) qE0⟩, fun U hU hW => ⟨rfl, by rw [hU], by rw [hU]; exact hPc, va_K.moved hW.alike hKc, hDc.weaken (fun _ _ _ _ => trivial), va_T.moved hW.alike (by rw [hU]; exact (hE_26.kept hS.2.1).narrow hFc)⟩⟩ rfl rfl hl.1 rfl (lv_room (Nat.le_of_ble_eq_true rfl)) dJ1_indexOf_4cfef_33 ⟨Nat.le_of_ble_eq_true rfl, Nat.le_of_ble_eq_true rfl⟩) hS (fun q _ h => hFc q h) hFc (fun r_15 u t H1 locs ht hvm hw hB hz1 hk1 hS => ?_)
      obtain ⟨hP1, hK1, hD1⟩ := hB
      rw [ht] at hP1
      have hP := bv_still hP hk1
      generalize H1 = H at hP hS ⊢
      as_aux_lemma =>
      rcases hw with ⟨h_16, h_17⟩ | ⟨h_18, h_19⟩
      · have h_17 : r_15 = _ := h_17
        replace hEX := hEX.trans (exc1_eq h_17)
        replace hEX := hEX.trans (if_pos (show r_15 = (-1) from h_16))
        rw [h_16]
        have hK9 := hK.sub (tys' := []) [] rfl
        exact W.iret (v := (-1)) hx hb hr (fun t ht hW => ⟨⟨(-1), (), rfl, (Or.inl ⟨rfl, (hR.trans hEX).symm⟩), by rw [ht]; exact hP, va_K.moved hW.alike hK9, hD⟩, hS.F ht⟩) hS.2.2 dJ1_indexOf_4cfef_36
      · have h_19 : r_15 = _ := h_19
        replace hEX := hEX.trans (exc1_eq h_19)
        replace hEX := hEX.trans (if_neg (RG_neq (x := r_15) (c := (-1)) (show RG r_15 0 7 from h_18) (by decide +kernel)))
        have hK9 := hK.sub (tys' := []) [] rfl
        exact W.iret (v := r_15) hx hb hr (fun t ht hW => ⟨⟨r_15, (), rfl, (Or.inr ⟨h_18, h_6, (hR.trans hEX).symm⟩), by rw [ht]; exact hP, va_K.moved hW.alike hK9, hD⟩, hS.F ht⟩) hS.2.2 dJ1_indexOf_4cfef_36
    · replace hEX := hEX.trans (if_neg c_14)
      have d_20 := Int32.not_lt.mp c_14
      have g_21 : RG x_12 8 0 := RG_le1 g_13 g_11 d_20 (by decide +kernel)
      exact RG_dead (RG_le1 g_13 g_11 d_20 (b' := 0) (by decide +kernel)) (by decide +kernel)
noncomputable def wf_c_J0_indexOf_7cf53_2 : List Cond := .code yJ0_indexOf_7cf53 cJ0_indexOf_7cf53 3 (some .int) :: ([.methodLink RJ0 492 yJ0_isLatin1_aae02, .instanceMethod yJ0_isLatin1_aae02, .selects RJ0 yJ0_isLatin1_aae02 yJ0_isLatin1_aae02, .initialized RJ0, .code yJ0_isLatin1_aae02 cJ0_isLatin1_aae02 1 (some .boolean), .fieldLink RJ0 38 "java/lang/String" "COMPACT_STRINGS" "Z", .fieldLink RJ0 15 "java/lang/String" "coder" "B", .fieldLink RJ0 9 "java/lang/String" "value" "[B", .methodLink RJ0 505 yJ0_length_8abf5, .instanceMethod yJ0_length_8abf5, .selects RJ0 yJ0_length_8abf5 yJ0_length_8abf5, .code yJ0_length_8abf5 cJ0_length_8abf5 1 (some .int), .methodLink RJ0 335 yJ0_coder_7d493, .instanceMethod yJ0_coder_7d493, .selects RJ0 yJ0_coder_7d493 yJ0_coder_7d493, .code yJ0_coder_7d493 cJ0_coder_7d493 1 (some .byte), .methodLink RJ0 637 yJ1_indexOf_4cfef, .static yJ1_indexOf_4cfef, .initialized RJ1, .code yJ1_indexOf_4cfef cJ1_indexOf_4cfef 4 (some .int), .methodLink RJ1 88 yJ1_canEncode_9a6ad, .static yJ1_canEncode_9a6ad, .code yJ1_canEncode_9a6ad cJ1_canEncode_9a6ad 1 (some .boolean), .methodLink RJ1 92 Lib.Math.max.name, .static Lib.Math.max.name, .initialized "java/lang/Math", .code Lib.Math.max.name Lib.Math.max.code 2 (some .int), .methodLink RJ1 38 Lib.Math.min.name, .static Lib.Math.min.name, .code Lib.Math.min.name Lib.Math.min.code 2 (some .int), .methodLink RJ1 95 yJ1_indexOfChar_4cfef, .static yJ1_indexOfChar_4cfef, .code yJ1_indexOfChar_4cfef cJ1_indexOfChar_4cfef 6 (some .int)])
set_option maxRecDepth 20000 in
theorem gf_c_J0_indexOf_7cf53_2_c_J0_isLatin1_aae02_2 : GoodIn wf_c_J0_indexOf_7cf53_2 (wsV RJ0 492 RJ0 yJ0_isLatin1_aae02 wf_c_J0_isLatin1_aae02_2) := goodIn_app (gi_l [1, 2, 3, 4] rfl rfl) (gi_cons (j := 5) rfl rfl (gi_l [6, 7] rfl rfl))
set_option maxRecDepth 20000 in
theorem gf_c_J0_indexOf_7cf53_2_c_J0_length_8abf5_2 : GoodIn wf_c_J0_indexOf_7cf53_2 (wsV RJ0 505 RJ0 yJ0_length_8abf5 wf_c_J0_length_8abf5_2) := goodIn_app (gi_l [9, 10, 11, 4] rfl rfl) (gi_cons (j := 12) rfl rfl (gi_l [8, 13, 14, 15, 4, 16, 6, 7] rfl rfl))
set_option maxRecDepth 20000 in
theorem gf_c_J0_indexOf_7cf53_2_c_J1_indexOf_4cfef_2 : GoodIn wf_c_J0_indexOf_7cf53_2 (va_wsS RJ0 637 yJ1_indexOf_4cfef wf_c_J1_indexOf_4cfef_2) := goodIn_app (gi_l [17, 18, 19] rfl rfl) (gi_cons (j := 20) rfl rfl (gi_l [21, 22, 19, 23, 24, 25, 26, 27, 28, 29, 30, 31, 32, 33] rfl rfl))
set_option maxHeartbeats 4000000 in
set_option maxRecDepth 100000 in
theorem c_J0_indexOf_7cf53_2 (l : Launch) (dC : Nat → ClassId) (dI : Nat → Nat → Nat) (sz : Nat) (ts2 : Nat) (p1 : Int32) (tv2 : Nat) (g_p1 : RG p1 0 65535) : Met l yJ0_indexOf_7cf53 wf_c_J0_indexOf_7cf53_2 ({ frames := 2, cells := 0, slots := 0, locals := 48 }) (va_Pc [.ref ts2, .int p1, .int 0] (fun U => U.heap.size = sz ∧ va_P (dC, dI) vwCl [] U.heap ∧ va_K (dC, dI) vwCl [] U ∧ va_D (fun _ => True) [] ∧ va_Z "java/lang/String" "COMPACT_STRINGS" "Z" (.int 1) (va_A [] sz) U U.heap ∧ va_OF "java/lang/String" "coder" "B" (.int 0) ts2 (va_A [] sz) U U.heap ∧ va_O "java/lang/String" ts2 (va_A [] sz) U U.heap ∧ va_OF "java/lang/String" "value" "[B" (.ref tv2) ts2 (va_A [] sz) U U.heap ∧ va_T .byte tv2 8 (fun j => .int ([120, 121, 99, 97, 101, 102, 111, 114].getD j 0)) (va_A [] sz) U U.heap)) (va_Qi (fun (r : Int32) (u : Unit) => (r = (-1) ∧ r = fx_c_J0_indexOf_7cf53_2 p1) ∨ (RG r 0 7 ∧ RG p1 0 255 ∧ r = fx_c_J0_indexOf_7cf53_2 p1)) (fun (u : Unit) t => va_P (dC, dI) vwCl [] t.heap ∧ va_K (dC, dI) vwCl [] t ∧ va_D (va_A [] sz) []) (va_A [] sz)) 0 0 (va_A [] sz) := by
  refine Met.ofW (cc := cJ0_indexOf_7cf53) (maxL := 3) (ret := (some .int)) (by decide +kernel) rfl ?_
  intro p e s m args below meth c s₁ B hml hv
  obtain ⟨rfl, hsz, hP, hK, hD0, hE_10, hE_24, hE_23, hE_25, hE_26⟩ := hv
  have hx := B.exec
  have hb := B.bytes
  have hr := B.returns
  have hts := atoms_spec (ws := wf_c_J0_indexOf_7cf53_2) B.pre
  have hown : s.vm.findClass RJ0 = some m.cls := findClass_of_methodNamed B.named
  have hlocks := B.notSynchronized
  subst hsz
  have hD := hD0.self (sz := s.heap.size)
  generalize hAe : va_A [] s.heap.size = A at hD hE_10 hE_24 hE_23 hE_25 hE_26 ⊢
  have hA : ∀ q : Nat, s.heap.size ≤ q → A q := fun q h => by rw [← hAe]; exact Or.inr h
  have hP : va_P (dC, dI) vwCl [] s.heap := hP
  have hl := lv_entry ([.ref ts2, .int p1, .int 0]) (n := 3) (Nat.le_of_ble_eq_true rfl)
  rw [lg_entry_eq]
  generalize (lg_sl ([.ref ts2, .int p1, .int 0]) ++ List.replicate (3 - (lg_sl ([.ref ts2, .int p1, .int 0])).length) Slot.unset).toArray = ls at hl ⊢
  have hl : lv_has ls 3 [(0, .ref ts2), (1, .int p1), (2, .int 0)] := hl
  obtain ⟨H, hHe⟩ : ∃ H : Heap, s.heap = H := ⟨_, rfl⟩
  have hS : va_S A s.heap H [] := by rw [hHe]; exact va_S.rf
  have hP : va_P (dC, dI) vwCl [] H := by rw [← hHe]; exact hP
  rw [hHe]
  obtain ⟨RES, hR⟩ : ∃ z, fx_c_J0_indexOf_7cf53_2 p1 = z := ⟨_, rfl⟩
  have hEX : RES = fx_c_J0_indexOf_7cf53_2 p1 := hR.symm
  refine lv_aload_n hx hb dJ0_indexOf_7cf53_0 rfl (lv_at hl 0 rfl) ?_
  as_aux_lemma =>
  obtain ⟨hPc, hDc, hFc, hqc⟩ := cl_cut (wc := []) hP hD hS hA [] (by decide +kernel) rfl
  have hKc := hK.sub (tys' := []) [] rfl
  have hrv := bv_Orecv hE_23 hS
  refine va_calli (va_runV (As := []) (rest := []) ⟨hx, hb, hml, hown, hts⟩ (c_J0_isLatin1_aae02_2 l dC dI H.size ts2) (cwV 0 hts gf_c_J0_indexOf_7cf53_2_c_J0_isLatin1_aae02_2 rfl rfl rfl mdV_J0_isLatin1_aae02 ⟨Nat.le_of_ble_eq_true rfl, Nat.le_of_ble_eq_true rfl⟩) ⟨fun a U g mk q => by obtain ⟨q0, q1, qP, qK, qD, qE0, qE1⟩ := q; exact ⟨q0, q1, qP, va_K.moved (u := U) (U := U.calling g mk a) (Vm.Alike.refl U.vm) qK, qD, va_Z.moved (u := U) (U := U.calling g mk a) (Vm.Alike.refl U.vm) qE0, va_OF.moved (u := U) (U := U.calling g mk a) (Vm.Alike.refl U.vm) qE1⟩, hrv, fun U hU hW => ⟨rfl, by rw [hU], by rw [hU]; exact hPc, va_K.moved hW.alike hKc, hDc.weaken (fun _ _ _ _ => trivial), va_Z.moved hW.alike (by rw [hU]; exact (hE_10.kept hS.2.1).narrow hFc), va_OF.moved hW.alike (by rw [hU]; exact (hE_24.kept hS.2.1).narrow hFc)⟩⟩ rfl rfl hl.1 rfl (lv_room (Nat.le_of_ble_eq_true rfl)) dJ0_indexOf_7cf53_1 ⟨Nat.le_of_ble_eq_true rfl, Nat.le_of_ble_eq_true rfl⟩) hS (fun q _ h => hFc q h) hFc (fun r_1 u t H1 locs ht hvm hw hB hz1 hk1 hS => ?_)
  obtain ⟨hP1, hK1, hD1⟩ := hB
  rw [ht] at hP1
  have hP := bv_still hP hk1
  generalize H1 = H at hP hS ⊢
  as_aux_lemma =>
  rcases hw with ⟨h_2, h_3⟩
  have h_3 : r_1 = _ := h_3
  replace hEX := hEX.trans (exc1_eq h_3)
  rw [h_2]
  refine lv_if_eq (tgt := 23) hx hb dJ0_indexOf_7cf53_4 rfl (fun c_4 => absurd c_4 (by decide +kernel)) (fun c_4 => ?_)
  refine lv_aload_n hx hb dJ0_indexOf_7cf53_7 rfl (lv_at hl 0 rfl) ?_
  refine vk_getf hx hb hE_25 hS hown (hts (.fieldLink RJ0 9 "java/lang/String" "value" "[B") (List.mem_of_getElem? (i := 8) rfl)) (fun _ h9 => h9) dJ0_indexOf_7cf53_8 ?_
  refine lv_iload_n hx hb dJ0_indexOf_7cf53_11 rfl (lv_at hl 1 rfl) ?_
  refine lv_iload_n hx hb dJ0_indexOf_7cf53_12 rfl (lv_at hl 2 rfl) ?_
  refine lv_aload_n hx hb dJ0_indexOf_7cf53_13 rfl (lv_at hl 0 rfl) ?_
  obtain ⟨hPc, hDc, hFc, hqc⟩ := cl_cut (wc := []) hP hD hS hA [] (by decide +kernel) rfl
  have hKc := hK.sub (tys' := []) [] rfl
  have hrv := bv_Orecv hE_23 hS
  refine va_calli (va_runV (As := []) (rest := [.int 0, .int p1, .ref tv2]) ⟨hx, hb, hml, hown, hts⟩ (c_J0_length_8abf5_2 l dC dI H.size ts2 tv2) (cwV 0 hts gf_c_J0_indexOf_7cf53_2_c_J0_length_8abf5_2 rfl rfl rfl mdV_J0_length_8abf5 ⟨Nat.le_of_ble_eq_true rfl, Nat.le_of_ble_eq_true rfl⟩) ⟨fun a U g mk q => by obtain ⟨q0, q1, qP, qK, qD, qE0, qE1, qE2, qE3, qE4⟩ := q; exact ⟨q0, q1, qP, va_K.moved (u := U) (U := U.calling g mk a) (Vm.Alike.refl U.vm) qK, qD, va_OF.moved (u := U) (U := U.calling g mk a) (Vm.Alike.refl U.vm) qE0, va_T.moved (u := U) (U := U.calling g mk a) (Vm.Alike.refl U.vm) qE1, va_Z.moved (u := U) (U := U.calling g mk a) (Vm.Alike.refl U.vm) qE2, va_OF.moved (u := U) (U := U.calling g mk a) (Vm.Alike.refl U.vm) qE3, va_O.moved (u := U) (U := U.calling g mk a) (Vm.Alike.refl U.vm) qE4⟩, hrv, fun U hU hW => ⟨rfl, by rw [hU], by rw [hU]; exact hPc, va_K.moved hW.alike hKc, hDc.weaken (fun _ _ _ _ => trivial), va_OF.moved hW.alike (by rw [hU]; exact (hE_25.kept hS.2.1).narrow hFc), va_T.moved hW.alike (by rw [hU]; exact (hE_26.kept hS.2.1).narrow hFc), va_Z.moved hW.alike (by rw [hU]; exact (hE_10.kept hS.2.1).narrow hFc), va_OF.moved hW.alike (by rw [hU]; exact (hE_24.kept hS.2.1).narrow hFc), va_O.moved hW.alike (by rw [hU]; exact (hE_23.kept hS.2.1).narrow hFc)⟩⟩ rfl rfl hl.1 rfl (lv_room (Nat.le_of_ble_eq_true rfl)) dJ0_indexOf_7cf53_14 ⟨Nat.le_of_ble_eq_true rfl, Nat.le_of_ble_eq_true rfl⟩) hS (fun q _ h => hFc q h) hFc (fun r_5 u t H1 locs ht hvm hw hB hz1 hk1 hS => ?_)
  as_aux_lemma =>
  obtain ⟨hP1, hK1, hD1⟩ := hB
  rw [ht] at hP1
  have hP := bv_still hP hk1
  generalize H1 = H at hP hS ⊢
  as_aux_lemma =>
  rcases hw with ⟨h_6, h_7⟩
  have h_7 : r_5 = _ := h_7
  replace hEX := hEX.trans (exc1_eq h_7)
  rw [h_6]
  obtain ⟨hPc, hDc, hFc, hqc⟩ := cl_cut (wc := []) hP hD hS hA [] (by decide +kernel) rfl
  have hKc := hK.sub (tys' := []) [] rfl
  refine va_calli (va_runS (As := [.ref tv2, .int p1, .int 0, .int 8]) (rest := []) ⟨hx, hb, hml, hown, hts⟩ (c_J1_indexOf_4cfef_2 l dC dI H.size tv2 p1 g_p1) (va_cwS 4 hts gf_c_J0_indexOf_7cf53_2_c_J1_indexOf_4cfef_2 rfl rfl rfl md_J1_indexOf_4cfef ⟨Nat.le_of_ble_eq_true rfl, Nat.le_of_ble_eq_true rfl⟩) ⟨fun a U g mk q => by obtain ⟨q0, q1, qP, qK, qD, qE0⟩ := q; exact ⟨q0, q1, qP, va_K.moved (u := U) (U := U.calling g mk a) (Vm.Alike.refl U.vm) qK, qD, va_T.moved (u := U) (U := U.calling g mk a) (Vm.Alike.refl U.vm) qE0⟩, fun U hU hW => ⟨rfl, by rw [hU], by rw [hU]; exact hPc, va_K.moved hW.alike hKc, hDc.weaken (fun _ _ _ _ => trivial), va_T.moved hW.alike (by rw [hU]; exact (hE_26.kept hS.2.1).narrow hFc)⟩⟩ rfl rfl hl.1 rfl (lv_room (Nat.le_of_ble_eq_true rfl)) dJ0_indexOf_7cf53_17 ⟨Nat.le_of_ble_eq_true rfl, Nat.le_of_ble_eq_true rfl⟩) hS (fun q _ h => hFc q h) hFc (fun r_8 u t H1 locs ht hvm hw hB hz1 hk1 hS => ?_)
  obtain ⟨hP1, hK1, hD1⟩ := hB
  rw [ht] at hP1
  have hP := bv_still hP hk1
  generalize H1 = H at hP hS ⊢
  as_aux_lemma =>
  rcases hw with ⟨h_9, h_10⟩ | ⟨h_11, h_12, h_13⟩
  · have h_10 : r_8 = _ := h_10
    replace hEX := hEX.trans (exc1_eq h_10)
    replace hEX := hEX.trans (if_pos (show r_8 = (-1) from h_9))
    rw [h_9]
    refine lv_goto (tgt := 36) hx hb dJ0_indexOf_7cf53_20 rfl ?_
    have hK9 := hK.sub (tys' := []) [] rfl
    exact W.iret (v := (-1)) hx hb hr (fun t ht hW => ⟨⟨(-1), (), rfl, (Or.inl ⟨rfl, (hR.trans hEX).symm⟩), by rw [ht]; exact hP, va_K.moved hW.alike hK9, hD⟩, hS.F ht⟩) hS.2.2 dJ0_indexOf_7cf53_36
  · have h_13 : r_8 = _ := h_13
    replace hEX := hEX.trans (exc1_eq h_13)
    replace hEX := hEX.trans (if_neg (RG_neq (x := r_8) (c := (-1)) (show RG r_8 0 7 from h_11) (by decide +kernel)))
    refine lv_goto (tgt := 36) hx hb dJ0_indexOf_7cf53_20 rfl ?_
    have hK9 := hK.sub (tys' := []) [] rfl
    exact W.iret (v := r_8) hx hb hr (fun t ht hW => ⟨⟨r_8, (), rfl, (Or.inr ⟨h_11, h_12, (hR.trans hEX).symm⟩), by rw [ht]; exact hP, va_K.moved hW.alike hK9, hD⟩, hS.F ht⟩) hS.2.2 dJ0_indexOf_7cf53_36
noncomputable def wf_c_J0_indexOf_0f7a4_2 : List Cond := .code yJ0_indexOf_0f7a4 cJ0_indexOf_0f7a4 2 (some .int) :: ([.methodLink RJ0 633 yJ0_indexOf_7cf53, .instanceMethod yJ0_indexOf_7cf53, .selects RJ0 yJ0_indexOf_7cf53 yJ0_indexOf_7cf53, .initialized RJ0, .code yJ0_indexOf_7cf53 cJ0_indexOf_7cf53 3 (some .int), .methodLink RJ0 492 yJ0_isLatin1_aae02, .instanceMethod yJ0_isLatin1_aae02, .selects RJ0 yJ0_isLatin1_aae02 yJ0_isLatin1_aae02, .code yJ0_isLatin1_aae02 cJ0_isLatin1_aae02 1 (some .boolean), .fieldLink RJ0 38 "java/lang/String" "COMPACT_STRINGS" "Z", .fieldLink RJ0 15 "java/lang/String" "coder" "B", .fieldLink RJ0 9 "java/lang/String" "value" "[B", .methodLink RJ0 505 yJ0_length_8abf5, .instanceMethod yJ0_length_8abf5, .selects RJ0 yJ0_length_8abf5 yJ0_length_8abf5, .code yJ0_length_8abf5 cJ0_length_8abf5 1 (some .int), .methodLink RJ0 335 yJ0_coder_7d493, .instanceMethod yJ0_coder_7d493, .selects RJ0 yJ0_coder_7d493 yJ0_coder_7d493, .code yJ0_coder_7d493 cJ0_coder_7d493 1 (some .byte), .methodLink RJ0 637 yJ1_indexOf_4cfef, .static yJ1_indexOf_4cfef, .initialized RJ1, .code yJ1_indexOf_4cfef cJ1_indexOf_4cfef 4 (some .int), .methodLink RJ1 88 yJ1_canEncode_9a6ad, .static yJ1_canEncode_9a6ad, .code yJ1_canEncode_9a6ad cJ1_canEncode_9a6ad 1 (some .boolean), .methodLink RJ1 92 Lib.Math.max.name, .static Lib.Math.max.name, .initialized "java/lang/Math", .code Lib.Math.max.name Lib.Math.max.code 2 (some .int), .methodLink RJ1 38 Lib.Math.min.name, .static Lib.Math.min.name, .code Lib.Math.min.name Lib.Math.min.code 2 (some .int), .methodLink RJ1 95 yJ1_indexOfChar_4cfef, .static yJ1_indexOfChar_4cfef, .code yJ1_indexOfChar_4cfef cJ1_indexOfChar_4cfef 6 (some .int)])
set_option maxRecDepth 20000 in
theorem gf_c_J0_indexOf_0f7a4_2_c_J0_indexOf_7cf53_2 : GoodIn wf_c_J0_indexOf_0f7a4_2 (wsV RJ0 633 RJ0 yJ0_indexOf_7cf53 wf_c_J0_indexOf_7cf53_2) := goodIn_app (gi_l [1, 2, 3, 4] rfl rfl) (gi_cons (j := 5) rfl rfl (gi_l [6, 7, 8, 4, 9, 10, 11, 12, 13, 14, 15, 16, 17, 18, 19, 20, 21, 22, 23, 24, 25, 26, 27, 28, 29, 30, 31, 32, 33, 34, 35, 36, 37] rfl rfl))
set_option maxHeartbeats 4000000 in
set_option maxRecDepth 100000 in
theorem c_J0_indexOf_0f7a4_2 (l : Launch) (dC : Nat → ClassId) (dI : Nat → Nat → Nat) (sz : Nat) (ts2 : Nat) (p1 : Int32) (tv2 : Nat) (g_p1 : RG p1 0 65535) : Met l yJ0_indexOf_0f7a4 wf_c_J0_indexOf_0f7a4_2 ({ frames := 3, cells := 0, slots := 0, locals := 70 }) (va_Pc [.ref ts2, .int p1] (fun U => U.heap.size = sz ∧ va_P (dC, dI) vwCl [] U.heap ∧ va_K (dC, dI) vwCl [] U ∧ va_D (fun _ => True) [] ∧ va_Z "java/lang/String" "COMPACT_STRINGS" "Z" (.int 1) (va_A [] sz) U U.heap ∧ va_OF "java/lang/String" "coder" "B" (.int 0) ts2 (va_A [] sz) U U.heap ∧ va_O "java/lang/String" ts2 (va_A [] sz) U U.heap ∧ va_OF "java/lang/String" "value" "[B" (.ref tv2) ts2 (va_A [] sz) U U.heap ∧ va_T .byte tv2 8 (fun j => .int ([120, 121, 99, 97, 101, 102, 111, 114].getD j 0)) (va_A [] sz) U U.heap)) (va_Qi (fun (r : Int32) (u : Unit) => (r = (-1) ∧ r = fx_c_J0_indexOf_0f7a4_2 p1) ∨ (RG r 0 7 ∧ RG p1 0 255 ∧ r = fx_c_J0_indexOf_0f7a4_2 p1)) (fun (u : Unit) t => va_P (dC, dI) vwCl [] t.heap ∧ va_K (dC, dI) vwCl [] t ∧ va_D (va_A [] sz) []) (va_A [] sz)) 0 0 (va_A [] sz) := by
  refine Met.ofW (cc := cJ0_indexOf_0f7a4) (maxL := 2) (ret := (some .int)) (by decide +kernel) rfl ?_
  intro p e s m args below meth c s₁ B hml hv
  obtain ⟨rfl, hsz, hP, hK, hD0, hE_10, hE_24, hE_23, hE_25, hE_26⟩ := hv
  have hx := B.exec
  have hb := B.bytes
  have hr := B.returns
  have hts := atoms_spec (ws := wf_c_J0_indexOf_0f7a4_2) B.pre
  have hown : s.vm.findClass RJ0 = some m.cls := findClass_of_methodNamed B.named
  have hlocks := B.notSynchronized
  subst hsz
  have hD := hD0.self (sz := s.heap.size)
  generalize hAe : va_A [] s.heap.size = A at hD hE_10 hE_24 hE_23 hE_25 hE_26 ⊢
  have hA : ∀ q : Nat, s.heap.size ≤ q → A q := fun q h => by rw [← hAe]; exact Or.inr h
  have hP : va_P (dC, dI) vwCl [] s.heap := hP
  have hl := lv_entry ([.ref ts2, .int p1]) (n := 2) (Nat.le_of_ble_eq_true rfl)
  rw [lg_entry_eq]
  generalize (lg_sl ([.ref ts2, .int p1]) ++ List.replicate (2 - (lg_sl ([.ref ts2, .int p1])).length) Slot.unset).toArray = ls at hl ⊢
  have hl : lv_has ls 2 [(0, .ref ts2), (1, .int p1)] := hl
  obtain ⟨H, hHe⟩ : ∃ H : Heap, s.heap = H := ⟨_, rfl⟩
  have hS : va_S A s.heap H [] := by rw [hHe]; exact va_S.rf
  have hP : va_P (dC, dI) vwCl [] H := by rw [← hHe]; exact hP
  rw [hHe]
  obtain ⟨RES, hR⟩ : ∃ z, fx_c_J0_indexOf_0f7a4_2 p1 = z := ⟨_, rfl⟩
  have hEX : RES = fx_c_J0_indexOf_0f7a4_2 p1 := hR.symm
  refine lv_aload_n hx hb dJ0_indexOf_0f7a4_0 rfl (lv_at hl 0 rfl) ?_
  as_aux_lemma =>
  refine lv_iload_n hx hb dJ0_indexOf_0f7a4_1 rfl (lv_at hl 1 rfl) ?_
  refine lv_iconst (v := 0) hx hb dJ0_indexOf_0f7a4_2 kc_iconst_0 ?_
  obtain ⟨hPc, hDc, hFc, hqc⟩ := cl_cut (wc := []) hP hD hS hA [] (by decide +kernel) rfl
  have hKc := hK.sub (tys' := []) [] rfl
  have hrv := bv_Orecv hE_23 hS
  refine va_calli (va_runV (As := [.int p1, .int 0]) (rest := []) ⟨hx, hb, hml, hown, hts⟩ (c_J0_indexOf_7cf53_2 l dC dI H.size ts2 p1 tv2 g_p1) (cwV 2 hts gf_c_J0_indexOf_0f7a4_2_c_J0_indexOf_7cf53_2 rfl rfl rfl mdV_J0_indexOf_7cf53 ⟨Nat.le_of_ble_eq_true rfl, Nat.le_of_ble_eq_true rfl⟩) ⟨fun a U g mk q => by obtain ⟨q0, q1, qP, qK, qD, qE0, qE1, qE2, qE3, qE4⟩ := q; exact ⟨q0, q1, qP, va_K.moved (u := U) (U := U.calling g mk a) (Vm.Alike.refl U.vm) qK, qD, va_Z.moved (u := U) (U := U.calling g mk a) (Vm.Alike.refl U.vm) qE0, va_OF.moved (u := U) (U := U.calling g mk a) (Vm.Alike.refl U.vm) qE1, va_O.moved (u := U) (U := U.calling g mk a) (Vm.Alike.refl U.vm) qE2, va_OF.moved (u := U) (U := U.calling g mk a) (Vm.Alike.refl U.vm) qE3, va_T.moved (u := U) (U := U.calling g mk a) (Vm.Alike.refl U.vm) qE4⟩, hrv, fun U hU hW => ⟨rfl, by rw [hU], by rw [hU]; exact hPc, va_K.moved hW.alike hKc, hDc.weaken (fun _ _ _ _ => trivial), va_Z.moved hW.alike (by rw [hU]; exact (hE_10.kept hS.2.1).narrow hFc), va_OF.moved hW.alike (by rw [hU]; exact (hE_24.kept hS.2.1).narrow hFc), va_O.moved hW.alike (by rw [hU]; exact (hE_23.kept hS.2.1).narrow hFc), va_OF.moved hW.alike (by rw [hU]; exact (hE_25.kept hS.2.1).narrow hFc), va_T.moved hW.alike (by rw [hU]; exact (hE_26.kept hS.2.1).narrow hFc)⟩⟩ rfl rfl hl.1 rfl (lv_room (Nat.le_of_ble_eq_true rfl)) dJ0_indexOf_0f7a4_3 ⟨Nat.le_of_ble_eq_true rfl, Nat.le_of_ble_eq_true rfl⟩) hS (fun q _ h => hFc q h) hFc (fun r_1 u t H1 locs ht hvm hw hB hz1 hk1 hS => ?_)
  obtain ⟨hP1, hK1, hD1⟩ := hB
  rw [ht] at hP1
  have hP := bv_still hP hk1
  generalize H1 = H at hP hS ⊢
  as_aux_lemma =>
  rcases hw with ⟨h_2, h_3⟩ | ⟨h_4, h_5, h_6⟩
  · have h_3 : r_1 = _ := h_3
    replace hEX := hEX.trans (exc1_eq h_3)
    replace hEX := hEX.trans (if_pos (show r_1 = (-1) from h_2))
    rw [h_2]
    have hK9 := hK.sub (tys' := []) [] rfl
    exact W.iret (v := (-1)) hx hb hr (fun t ht hW => ⟨⟨(-1), (), rfl, (Or.inl ⟨rfl, (hR.trans hEX).symm⟩), by rw [ht]; exact hP, va_K.moved hW.alike hK9, hD⟩, hS.F ht⟩) hS.2.2 dJ0_indexOf_0f7a4_6
  · have h_6 : r_1 = _ := h_6
    replace hEX := hEX.trans (exc1_eq h_6)
    replace hEX := hEX.trans (if_neg (RG_neq (x := r_1) (c := (-1)) (show RG r_1 0 7 from h_4) (by decide +kernel)))
    have hK9 := hK.sub (tys' := []) [] rfl
    exact W.iret (v := r_1) hx hb hr (fun t ht hW => ⟨⟨r_1, (), rfl, (Or.inr ⟨h_4, h_5, (hR.trans hEX).symm⟩), by rw [ht]; exact hP, va_K.moved hW.alike hK9, hD⟩, hS.F ht⟩) hS.2.2 dJ0_indexOf_0f7a4_6
noncomputable def wf_c_X0_placeIn_5 : List Cond := .code yX0_placeIn cX0_placeIn 2 (some .int) :: ([.methodLink RX0 128 yJ0_indexOf_0f7a4, .instanceMethod yJ0_indexOf_0f7a4, .selects RJ0 yJ0_indexOf_0f7a4 yJ0_indexOf_0f7a4, .initialized RJ0, .code yJ0_indexOf_0f7a4 cJ0_indexOf_0f7a4 2 (some .int), .methodLink RJ0 633 yJ0_indexOf_7cf53, .instanceMethod yJ0_indexOf_7cf53, .selects RJ0 yJ0_indexOf_7cf53 yJ0_indexOf_7cf53, .code yJ0_indexOf_7cf53 cJ0_indexOf_7cf53 3 (some .int), .methodLink RJ0 492 yJ0_isLatin1_aae02, .instanceMethod yJ0_isLatin1_aae02, .selects RJ0 yJ0_isLatin1_aae02 yJ0_isLatin1_aae02, .code yJ0_isLatin1_aae02 cJ0_isLatin1_aae02 1 (some .boolean), .fieldLink RJ0 38 "java/lang/String" "COMPACT_STRINGS" "Z", .fieldLink RJ0 15 "java/lang/String" "coder" "B", .fieldLink RJ0 9 "java/lang/String" "value" "[B", .methodLink RJ0 505 yJ0_length_8abf5, .instanceMethod yJ0_length_8abf5, .selects RJ0 yJ0_length_8abf5 yJ0_length_8abf5, .code yJ0_length_8abf5 cJ0_length_8abf5 1 (some .int), .methodLink RJ0 335 yJ0_coder_7d493, .instanceMethod yJ0_coder_7d493, .selects RJ0 yJ0_coder_7d493 yJ0_coder_7d493, .code yJ0_coder_7d493 cJ0_coder_7d493 1 (some .byte), .methodLink RJ0 637 yJ1_indexOf_4cfef, .static yJ1_indexOf_4cfef, .initialized RJ1, .code yJ1_indexOf_4cfef cJ1_indexOf_4cfef 4 (some .int), .methodLink RJ1 88 yJ1_canEncode_9a6ad, .static yJ1_canEncode_9a6ad, .code yJ1_canEncode_9a6ad cJ1_canEncode_9a6ad 1 (some .boolean), .methodLink RJ1 92 Lib.Math.max.name, .static Lib.Math.max.name, .initialized "java/lang/Math", .code Lib.Math.max.name Lib.Math.max.code 2 (some .int), .methodLink RJ1 38 Lib.Math.min.name, .static Lib.Math.min.name, .code Lib.Math.min.name Lib.Math.min.code 2 (some .int), .methodLink RJ1 95 yJ1_indexOfChar_4cfef, .static yJ1_indexOfChar_4cfef, .code yJ1_indexOfChar_4cfef cJ1_indexOfChar_4cfef 6 (some .int)])
set_option maxRecDepth 20000 in
theorem gf_c_X0_placeIn_5_c_J0_indexOf_0f7a4_2 : GoodIn wf_c_X0_placeIn_5 (wsV RX0 128 RJ0 yJ0_indexOf_0f7a4 wf_c_J0_indexOf_0f7a4_2) := goodIn_app (gi_l [1, 2, 3, 4] rfl rfl) (gi_cons (j := 5) rfl rfl (gi_l [6, 7, 8, 4, 9, 10, 11, 12, 13, 14, 15, 16, 17, 18, 19, 20, 21, 22, 23, 24, 25, 26, 27, 28, 29, 30, 31, 32, 33, 34, 35, 36, 37, 38, 39, 40, 41] rfl rfl))
set_option maxHeartbeats 4000000 in
set_option maxRecDepth 100000 in
theorem c_X0_placeIn_5 (l : Launch) (dC : Nat → ClassId) (dI : Nat → Nat → Nat) (sz : Nat) (ts2 : Nat) (p1 : Int32) (tv2 : Nat) (g_p1 : RG p1 0 255) : Met l yX0_placeIn wf_c_X0_placeIn_5 ({ frames := 4, cells := 0, slots := 0, locals := 91 }) (va_Pc [.ref ts2, .int p1] (fun U => U.heap.size = sz ∧ va_P (dC, dI) vwCl [] U.heap ∧ va_K (dC, dI) vwCl [] U ∧ va_D (fun _ => True) [] ∧ va_Z "java/lang/String" "COMPACT_STRINGS" "Z" (.int 1) (va_A [] sz) U U.heap ∧ va_OF "java/lang/String" "coder" "B" (.int 0) ts2 (va_A [] sz) U U.heap ∧ va_O "java/lang/String" ts2 (va_A [] sz) U U.heap ∧ va_OF "java/lang/String" "value" "[B" (.ref tv2) ts2 (va_A [] sz) U U.heap ∧ va_T .byte tv2 8 (fun j => .int ([120, 121, 99, 97, 101, 102, 111, 114].getD j 0)) (va_A [] sz) U U.heap)) (va_Qi (fun (r : Int32) (u : Unit) => (r = (-1) ∧ r = fx_c_X0_placeIn_5 p1) ∨ (RG r 0 7 ∧ r = fx_c_X0_placeIn_5 p1)) (fun (u : Unit) t => va_P (dC, dI) vwCl [] t.heap ∧ va_K (dC, dI) vwCl [] t ∧ va_D (va_A [] sz) []) (va_A [] sz)) 0 0 (va_A [] sz) := by
  refine Met.ofW (cc := cX0_placeIn) (maxL := 2) (ret := (some .int)) (by decide +kernel) rfl ?_
  intro p e s m args below meth c s₁ B hml hv
  obtain ⟨rfl, hsz, hP, hK, hD0, hE_10, hE_24, hE_23, hE_25, hE_26⟩ := hv
  have hx := B.exec
  have hb := B.bytes
  have hr := B.returns
  have hts := atoms_spec (ws := wf_c_X0_placeIn_5) B.pre
  have hown : s.vm.findClass RX0 = some m.cls := findClass_of_methodNamed B.named
  have hlocks := B.notSynchronized
  subst hsz
  have hD := hD0.self (sz := s.heap.size)
  generalize hAe : va_A [] s.heap.size = A at hD hE_10 hE_24 hE_23 hE_25 hE_26 ⊢
  have hA : ∀ q : Nat, s.heap.size ≤ q → A q := fun q h => by rw [← hAe]; exact Or.inr h
  have hP : va_P (dC, dI) vwCl [] s.heap := hP
  have hl := lv_entry ([.ref ts2, .int p1]) (n := 2) (Nat.le_of_ble_eq_true rfl)
  rw [lg_entry_eq]
  generalize (lg_sl ([.ref ts2, .int p1]) ++ List.replicate (2 - (lg_sl ([.ref ts2, .int p1])).length) Slot.unset).toArray = ls at hl ⊢
  have hl : lv_has ls 2 [(0, .ref ts2), (1, .int p1)] := hl
  obtain ⟨H, hHe⟩ : ∃ H : Heap, s.heap = H := ⟨_, rfl⟩
  have hS : va_S A s.heap H [] := by rw [hHe]; exact va_S.rf
  have hP : va_P (dC, dI) vwCl [] H := by rw [← hHe]; exact hP
  rw [hHe]
  obtain ⟨RES, hR⟩ : ∃ z, fx_c_X0_placeIn_5 p1 = z := ⟨_, rfl⟩
  have hEX : RES = fx_c_X0_placeIn_5 p1 := hR.symm
  refine lv_iload_n hx hb dX0_placeIn_0 rfl (lv_at hl 1 rfl) ?_
  as_aux_lemma =>
  refine lv_if_ge (tgt := 8) hx hb dX0_placeIn_1 rfl (fun c_1 => ?_) (fun c_1 => ?_)
  · replace hEX := hEX.trans (if_pos c_1)
    refine lv_aload_n hx hb dX0_placeIn_8 rfl (lv_at hl 0 rfl) ?_
    refine lv_iload_n hx hb dX0_placeIn_9 rfl (lv_at hl 1 rfl) ?_
    refine lv_i2c hx hb dX0_placeIn_10 rfl ?_
    refine lv_topi (fun x_2 ex_2 => ?_)
    replace hEX := hEX.trans (exl_eq ex_2)
    have g_3 : RG x_2 0 65535 := RG_i2c ex_2
    obtain ⟨hPc, hDc, hFc, hqc⟩ := cl_cut (wc := []) hP hD hS hA [] (by decide +kernel) rfl
    have hKc := hK.sub (tys' := []) [] rfl
    have hrv := bv_Orecv hE_23 hS
    refine va_calli (va_runV (As := [.int x_2]) (rest := []) ⟨hx, hb, hml, hown, hts⟩ (c_J0_indexOf_0f7a4_2 l dC dI H.size ts2 x_2 tv2 g_3) (cwV 1 hts gf_c_X0_placeIn_5_c_J0_indexOf_0f7a4_2 rfl rfl rfl mdV_J0_indexOf_0f7a4 ⟨Nat.le_of_ble_eq_true rfl, Nat.le_of_ble_eq_true rfl⟩) ⟨fun a U g mk q => by obtain ⟨q0, q1, qP, qK, qD, qE0, qE1, qE2, qE3, qE4⟩ := q; exact ⟨q0, q1, qP, va_K.moved (u := U) (U := U.calling g mk a) (Vm.Alike.refl U.vm) qK, qD, va_Z.moved (u := U) (U := U.calling g mk a) (Vm.Alike.refl U.vm) qE0, va_OF.moved (u := U) (U := U.calling g mk a) (Vm.Alike.refl U.vm) qE1, va_O.moved (u := U) (U := U.calling g mk a) (Vm.Alike.refl U.vm) qE2, va_OF.moved (u := U) (U := U.calling g mk a) (Vm.Alike.refl U.vm) qE3, va_T.moved (u := U) (U := U.calling g mk a) (Vm.Alike.refl U.vm) qE4⟩, hrv, fun U hU hW => ⟨rfl, by rw [hU], by rw [hU]; exact hPc, va_K.moved hW.alike hKc, hDc.weaken (fun _ _ _ _ => trivial), va_Z.moved hW.alike (by rw [hU]; exact (hE_10.kept hS.2.1).narrow hFc), va_OF.moved hW.alike (by rw [hU]; exact (hE_24.kept hS.2.1).narrow hFc), va_O.moved hW.alike (by rw [hU]; exact (hE_23.kept hS.2.1).narrow hFc), va_OF.moved hW.alike (by rw [hU]; exact (hE_25.kept hS.2.1).narrow hFc), va_T.moved hW.alike (by rw [hU]; exact (hE_26.kept hS.2.1).narrow hFc)⟩⟩ rfl rfl hl.1 rfl (lv_room (Nat.le_of_ble_eq_true rfl)) dX0_placeIn_11 ⟨Nat.le_of_ble_eq_true rfl, Nat.le_of_ble_eq_true rfl⟩) hS (fun q _ h => hFc q h) hFc (fun r_4 u t H1 locs ht hvm hw hB hz1 hk1 hS => ?_)
    obtain ⟨hP1, hK1, hD1⟩ := hB
    rw [ht] at hP1
    have hP := bv_still hP hk1
    generalize H1 = H at hP hS ⊢
    as_aux_lemma =>
    rcases hw with ⟨h_5, h_6⟩ | ⟨h_7, h_8, h_9⟩
    · have h_6 : r_4 = _ := h_6
      replace hEX := hEX.trans (exc1_eq h_6)
      replace hEX := hEX.trans (if_pos (show r_4 = (-1) from h_5))
      rw [h_5]
      have hK9 := hK.sub (tys' := []) [] rfl
      exact W.iret (v := (-1)) hx hb hr (fun t ht hW => ⟨⟨(-1), (), rfl, (Or.inl ⟨rfl, (hR.trans hEX).symm⟩), by rw [ht]; exact hP, va_K.moved hW.alike hK9, hD⟩, hS.F ht⟩) hS.2.2 dX0_placeIn_14
    · have h_9 : r_4 = _ := h_9
      replace hEX := hEX.trans (exc1_eq h_9)
      replace hEX := hEX.trans (if_neg (RG_neq (x := r_4) (c := (-1)) (show RG r_4 0 7 from h_7) (by decide +kernel)))
      have hK9 := hK.sub (tys' := []) [] rfl
      exact W.iret (v := r_4) hx hb hr (fun t ht hW => ⟨⟨r_4, (), rfl, (Or.inr ⟨h_7, (hR.trans hEX).symm⟩), by rw [ht]; exact hP, va_K.moved hW.alike hK9, hD⟩, hS.F ht⟩) hS.2.2 dX0_placeIn_14
  · replace hEX := hEX.trans (if_neg c_1)
    have d_10 := Int32.not_le.mp c_1
    have g_11 : RG p1 0 (-1) := RG_lt1 g_p1 (RG_k 0 0 rfl) d_10 (by decide +kernel)
    exact RG_dead (RG_lt1 g_p1 (RG_k 0 0 rfl) d_10 (b' := (-1)) (by decide +kernel)) (by decide +kernel)
noncomputable def wf_c_X0_placeIn_6 : List Cond := .code yX0_placeIn cX0_placeIn 2 (some .int) :: ([])
set_option maxHeartbeats 4000000 in
set_option maxRecDepth 100000 in
theorem c_X0_placeIn_6 (l : Launch) (dC : Nat → ClassId) (dI : Nat → Nat → Nat) (sz : Nat) (ts3 : Nat) (p1 : Int32) (g_p1 : RG p1 (-1) (-1)) : Met l yX0_placeIn wf_c_X0_placeIn_6 ({ frames := 0, cells := 0, slots := 0, locals := 0 }) (va_Pc [.ref ts3, .int p1] (fun U => U.heap.size = sz ∧ va_P (dC, dI) vwCl [] U.heap ∧ va_K (dC, dI) vwCl [] U ∧ va_D (fun _ => True) [])) (va_Qi (fun (r : Int32) (u : Unit) => (r = (-1) ∧ r = fx_c_X0_placeIn_6 p1)) (fun (u : Unit) t => va_P (dC, dI) vwCl [] t.heap ∧ va_K (dC, dI) vwCl [] t ∧ va_D (va_A [] sz) []) (va_A [] sz)) 0 0 (va_A [] sz) := by
  refine Met.ofW (cc := cX0_placeIn) (maxL := 2) (ret := (some .int)) (by decide +kernel) rfl ?_
  intro p e s m args below meth c s₁ B hml hv
  obtain ⟨rfl, hsz, hP, hK, hD0⟩ := hv
  have hx := B.exec
  have hb := B.bytes
  have hr := B.returns
  have hts := atoms_spec (ws := wf_c_X0_placeIn_6) B.pre
  have hown : s.vm.findClass RX0 = some m.cls := findClass_of_methodNamed B.named
  have hlocks := B.notSynchronized
  subst hsz
  have hD := hD0.self (sz := s.heap.size)
  generalize hAe : va_A [] s.heap.size = A at hD ⊢
  have hA : ∀ q : Nat, s.heap.size ≤ q → A q := fun q h => by rw [← hAe]; exact Or.inr h
  have hP : va_P (dC, dI) vwCl [] s.heap := hP
  have hl := lv_entry ([.ref ts3, .int p1]) (n := 2) (Nat.le_of_ble_eq_true rfl)
  rw [lg_entry_eq]
  generalize (lg_sl ([.ref ts3, .int p1]) ++ List.replicate (2 - (lg_sl ([.ref ts3, .int p1])).length) Slot.unset).toArray = ls at hl ⊢
  have hl : lv_has ls 2 [(0, .ref ts3), (1, .int p1)] := hl
  obtain ⟨H, hHe⟩ : ∃ H : Heap, s.heap = H := ⟨_, rfl⟩
  have hS : va_S A s.heap H [] := by rw [hHe]; exact va_S.rf
  have hP : va_P (dC, dI) vwCl [] H := by rw [← hHe]; exact hP
  rw [hHe]
  obtain ⟨RES, hR⟩ : ∃ z, fx_c_X0_placeIn_6 p1 = z := ⟨_, rfl⟩
  have hEX : RES = fx_c_X0_placeIn_6 p1 := hR.symm
  refine lv_iload_n hx hb dX0_placeIn_0 rfl (lv_at hl 1 rfl) ?_
  as_aux_lemma =>
  refine lv_if_ge (tgt := 8) hx hb dX0_placeIn_1 rfl (fun c_1 => ?_) (fun c_1 => ?_)
  · replace hEX := hEX.trans (if_pos c_1)
    exact RG_dead (RG_le1 (RG_k 0 0 rfl) g_p1 c_1 (b' := (-1)) (by decide +kernel)) (by decide +kernel)
  · replace hEX := hEX.trans (if_neg c_1)
    have d_2 := Int32.not_le.mp c_1
    refine lv_iconst (v := (-1)) hx hb dX0_placeIn_4 kc_iconst_m1 ?_
    refine lv_goto (tgt := 14) hx hb dX0_placeIn_5 rfl ?_
    have hK9 := hK.sub (tys' := []) [] rfl
    exact W.iret (v := (-1)) hx hb hr (fun t ht hW => ⟨⟨(-1), (), rfl, ⟨rfl, (hR.trans hEX).symm⟩, by rw [ht]; exact hP, va_K.moved hW.alike hK9, hD⟩, hS.F ht⟩) hS.2.2 dX0_placeIn_14
noncomputable def wf_c_J0_isLatin1_aae02_3 : List Cond := .code yJ0_isLatin1_aae02 cJ0_isLatin1_aae02 1 (some .boolean) :: ([.fieldLink RJ0 38 "java/lang/String" "COMPACT_STRINGS" "Z", .fieldLink RJ0 15 "java/lang/String" "coder" "B"])
set_option maxHeartbeats 4000000 in
set_option maxRecDepth 100000 in
theorem c_J0_isLatin1_aae02_3 (l : Launch) (dC : Nat → ClassId) (dI : Nat → Nat → Nat) (sz : Nat) (ts3 : Nat) : Met l yJ0_isLatin1_aae02 wf_c_J0_isLatin1_aae02_3 ({ frames := 0, cells := 0, slots := 0, locals := 0 }) (va_Pc [.ref ts3] (fun U => U.heap.size = sz ∧ va_P (dC, dI) vwCl [] U.heap ∧ va_K (dC, dI) vwCl [] U ∧ va_D (fun _ => True) [] ∧ va_Z "java/lang/String" "COMPACT_STRINGS" "Z" (.int 1) (va_A [] sz) U U.heap ∧ va_OF "java/lang/String" "coder" "B" (.int 0) ts3 (va_A [] sz) U U.heap)) (va_Qi (fun (r : Int32) (u : Unit) => (r = 1 ∧ r = fx_c_J0_isLatin1_aae02_3)) (fun (u : Unit) t => va_P (dC, dI) vwCl [] t.heap ∧ va_K (dC, dI) vwCl [] t ∧ va_D (va_A [] sz) []) (va_A [] sz)) 0 0 (va_A [] sz) := by
  refine Met.ofW (cc := cJ0_isLatin1_aae02) (maxL := 1) (ret := (some .boolean)) (by decide +kernel) rfl ?_
  intro p e s m args below meth c s₁ B hml hv
  obtain ⟨rfl, hsz, hP, hK, hD0, hE_10, hE_29⟩ := hv
  have hx := B.exec
  have hb := B.bytes
  have hr := B.returns
  have hts := atoms_spec (ws := wf_c_J0_isLatin1_aae02_3) B.pre
  have hown : s.vm.findClass RJ0 = some m.cls := findClass_of_methodNamed B.named
  have hlocks := B.notSynchronized
  subst hsz
  have hD := hD0.self (sz := s.heap.size)
  generalize hAe : va_A [] s.heap.size = A at hD hE_10 hE_29 ⊢
  have hA : ∀ q : Nat, s.heap.size ≤ q → A q := fun q h => by rw [← hAe]; exact Or.inr h
  have hP : va_P (dC, dI) vwCl [] s.heap := hP
  have hl := lv_entry ([.ref ts3]) (n := 1) (Nat.le_of_ble_eq_true rfl)
  rw [lg_entry_eq]
  generalize (lg_sl ([.ref ts3]) ++ List.replicate (1 - (lg_sl ([.ref ts3])).length) Slot.unset).toArray = ls at hl ⊢
  have hl : lv_has ls 1 [(0, .ref ts3)] := hl
  obtain ⟨H, hHe⟩ : ∃ H : Heap, s.heap = H := ⟨_, rfl⟩
  have hS : va_S A s.heap H [] := by rw [hHe]; exact va_S.rf
  have hP : va_P (dC, dI) vwCl [] H := by rw [← hHe]; exact hP
  rw [hHe]
  obtain ⟨RES, hR⟩ : ∃ z, fx_c_J0_isLatin1_aae02_3 = z := ⟨_, rfl⟩
  have hEX : RES = fx_c_J0_isLatin1_aae02_3 := hR.symm
  refine va_gets hx hb hE_10 hS hown (hts (.fieldLink RJ0 38 "java/lang/String" "COMPACT_STRINGS" "Z") (List.mem_of_getElem? (i := 1) rfl)) (fun _ h9 => h9) dJ0_isLatin1_aae02_0 ?_
  as_aux_lemma =>
  refine lv_if_eq (tgt := 17) hx hb dJ0_isLatin1_aae02_3 rfl (fun c_1 => absurd c_1 (by decide +kernel)) (fun c_1 => ?_)
  refine lv_aload_n hx hb dJ0_isLatin1_aae02_6 rfl (lv_at hl 0 rfl) ?_
  refine vk_getf hx hb hE_29 hS hown (hts (.fieldLink RJ0 15 "java/lang/String" "coder" "B") (List.mem_of_getElem? (i := 2) rfl)) (fun _ h9 => h9) dJ0_isLatin1_aae02_7 ?_
  refine lv_if_ne (tgt := 17) hx hb dJ0_isLatin1_aae02_10 rfl (fun c_2 => absurd c_2 (by decide +kernel)) (fun c_2 => ?_)
  refine lv_iconst (v := 1) hx hb dJ0_isLatin1_aae02_13 kc_iconst_1 ?_
  refine lv_goto (tgt := 18) hx hb dJ0_isLatin1_aae02_14 rfl ?_
  have hK9 := hK.sub (tys' := []) [] rfl
  exact W.zret (v := 1) hx hb hr rfl (fun t ht hW => ⟨⟨1, (), rfl, ⟨rfl, (hR.trans hEX).symm⟩, by rw [ht]; exact hP, va_K.moved hW.alike hK9, hD⟩, hS.F ht⟩) hS.2.2 dJ0_isLatin1_aae02_18
noncomputable def wf_c_J1_indexOfChar_4cfef_3 : List Cond := .code yJ1_indexOfChar_4cfef cJ1_indexOfChar_4cfef 6 (some .int) :: ([])
set_option maxHeartbeats 4000000 in
set_option maxRecDepth 100000 in
theorem c_J1_indexOfChar_4cfef_3 (l : Launch) (dC : Nat → ClassId) (dI : Nat → Nat → Nat) (sz : Nat) (tv3 : Nat) (p1 : Int32) (p2 : Int32) (p3 : Int32) (g_p1 : RG p1 0 255) (g_p2 : RG p2 0 0) (g_p3 : RG p3 4 4) : Met l yJ1_indexOfChar_4cfef wf_c_J1_indexOfChar_4cfef_3 ({ frames := 0, cells := 0, slots := 0, locals := 0 }) (va_Pc [.ref tv3, .int p1, .int p2, .int p3] (fun U => U.heap.size = sz ∧ va_P (dC, dI) vwCl [] U.heap ∧ va_K (dC, dI) vwCl [] U ∧ va_D (fun _ => True) [] ∧ va_T .byte tv3 4 (fun j => .int ([120, 121, 115, 118].getD j 0)) (va_A [] sz) U U.heap)) (va_Qi (fun (r : Int32) (u : Unit) => (r = (-1) ∧ r = fx_c_J1_indexOfChar_4cfef_3 p1 p2 p3) ∨ (RG r 0 3 ∧ r = fx_c_J1_indexOfChar_4cfef_3 p1 p2 p3)) (fun (u : Unit) t => va_P (dC, dI) vwCl [] t.heap ∧ va_K (dC, dI) vwCl [] t ∧ va_D (va_A [] sz) []) (va_A [] sz)) 0 0 (va_A [] sz) := by
  refine Met.ofW (cc := cJ1_indexOfChar_4cfef) (maxL := 6) (ret := (some .int)) (by decide +kernel) rfl ?_
  intro p e s m args below meth c s₁ B hml hv
  obtain ⟨rfl, hsz, hP, hK, hD0, hE_31⟩ := hv
  have hx := B.exec
  have hb := B.bytes
  have hr := B.returns
  have hts := atoms_spec (ws := wf_c_J1_indexOfChar_4cfef_3) B.pre
  have hown : s.vm.findClass RJ1 = some m.cls := findClass_of_methodNamed B.named
  have hlocks := B.notSynchronized
  subst hsz
  have hD := hD0.self (sz := s.heap.size)
  generalize hAe : va_A [] s.heap.size = A at hD hE_31 ⊢
  have hA : ∀ q : Nat, s.heap.size ≤ q → A q := fun q h => by rw [← hAe]; exact Or.inr h
  have hP : va_P (dC, dI) vwCl [] s.heap := hP
  have hl := lv_entry ([.ref tv3, .int p1, .int p2, .int p3]) (n := 6) (Nat.le_of_ble_eq_true rfl)
  rw [lg_entry_eq]
  generalize (lg_sl ([.ref tv3, .int p1, .int p2, .int p3]) ++ List.replicate (6 - (lg_sl ([.ref tv3, .int p1, .int p2, .int p3])).length) Slot.unset).toArray = ls at hl ⊢
  have hl : lv_has ls 6 [(0, .ref tv3), (1, .int p1), (2, .int p2), (3, .int p3)] := hl
  obtain ⟨H, hHe⟩ : ∃ H : Heap, s.heap = H := ⟨_, rfl⟩
  have hS : va_S A s.heap H [] := by rw [hHe]; exact va_S.rf
  have hP : va_P (dC, dI) vwCl [] H := by rw [← hHe]; exact hP
  rw [hHe]
  obtain ⟨RES, hR⟩ : ∃ z, fx_c_J1_indexOfChar_4cfef_3 p1 p2 p3 = z := ⟨_, rfl⟩
  have hEX : RES = fx_c_J1_indexOfChar_4cfef_3 p1 p2 p3 := hR.symm
  refine lv_iload_n hx hb dJ1_indexOfChar_4cfef_0 rfl (lv_at hl 1 rfl) ?_
  as_aux_lemma =>
  refine lv_i2b hx hb dJ1_indexOfChar_4cfef_1 rfl ?_
  refine lv_topi (fun x_1 ex_1 => ?_)
  replace hEX := hEX.trans (exl_eq ex_1)
  refine lv_istore (lv' := [(4, .int x_1), (0, .ref tv3), (1, .int p1), (2, .int p2), (3, .int p3)]) hx hb dJ1_indexOfChar_4cfef_2 hl (Nat.le_of_ble_eq_true rfl) rfl (fun ls hl => ?_)
  refine lv_iload_n hx hb dJ1_indexOfChar_4cfef_4 rfl (lv_at hl 3 rfl) ?_
  refine lv_istore (lv' := [(5, .int p2), (4, .int x_1), (0, .ref tv3), (1, .int p1), (2, .int p2), (3, .int p3)]) hx hb dJ1_indexOfChar_4cfef_5 hl (Nat.le_of_ble_eq_true rfl) rfl (fun ls hl => ?_)
  refine lv_iload hx hb dJ1_indexOfChar_4cfef_7 (lv_at hl 0 rfl) ?_
  refine lv_iload_n hx hb dJ1_indexOfChar_4cfef_9 rfl (lv_at hl 5 rfl) ?_
  refine lv_icmp_ge (tgt := 31) hx hb dJ1_indexOfChar_4cfef_10 rfl (fun c_2 => ?_) (fun c_2 => ?_)
  · replace hEX := hEX.trans (if_pos c_2)
    have g_3 : RG p3 4 0 := RG_le1 g_p3 g_p2 c_2 (by decide +kernel)
    exact RG_dead (RG_le1 g_p3 g_p2 c_2 (b' := 0) (by decide +kernel)) (by decide +kernel)
  · replace hEX := hEX.trans (if_neg c_2)
    have d_4 := Int32.not_le.mp c_2
    refine lv_aload_n hx hb dJ1_indexOfChar_4cfef_13 rfl (lv_at hl 2 rfl) ?_
    as_aux_lemma =>
    refine lv_iload hx hb dJ1_indexOfChar_4cfef_14 (lv_at hl 0 rfl) ?_
    refine va_tb hx hb hE_31 hS (RG_in g_p2 (by decide +kernel)) rfl dJ1_indexOfChar_4cfef_16 ?_
    refine lv_topi (fun x_5 ex_5 => ?_)
    replace hEX := hEX.trans (exl_eq ex_5)
    have g_6 : RG x_5 0 121 := RG_tab ex_5 (by decide +kernel)
    refine lv_iload hx hb dJ1_indexOfChar_4cfef_17 (lv_at hl 1 rfl) ?_
    refine lv_icmp_ne (tgt := 25) hx hb dJ1_indexOfChar_4cfef_19 rfl (fun c_7 => ?_) (fun c_7 => ?_)
    · replace hEX := hEX.trans (if_neg c_7)
      obtain ⟨x_8, ex_8⟩ : ∃ y : Int32, y = p2 + 1 := ⟨_, rfl⟩
      have g_9 : RG x_8 1 1 := RG_add ex_8 g_p2 (RG_k 1 1 rfl) (by decide +kernel)
      replace hEX := hEX.trans (exl_eq ex_8)
      refine lv_iinc (v := x_8) (lv' := [(5, .int x_8), (4, .int x_1), (0, .ref tv3), (1, .int p1), (2, .int p2), (3, .int p3)]) hx hb dJ1_indexOfChar_4cfef_25 hl (k := 0) rfl (by rw [ex_8]; rfl) (Nat.le_of_ble_eq_true rfl) rfl (fun ls hl => ?_)
      refine lv_goto (tgt := 7) hx hb dJ1_indexOfChar_4cfef_28 rfl ?_
      refine lv_iload hx hb dJ1_indexOfChar_4cfef_7 (lv_at hl 0 rfl) ?_
      as_aux_lemma =>
      refine lv_iload_n hx hb dJ1_indexOfChar_4cfef_9 rfl (lv_at hl 5 rfl) ?_
      refine lv_icmp_ge (tgt := 31) hx hb dJ1_indexOfChar_4cfef_10 rfl (fun c_10 => ?_) (fun c_10 => ?_)
      · replace hEX := hEX.trans (if_pos c_10)
        have g_11 : RG p3 4 1 := RG_le1 g_p3 g_9 c_10 (by decide +kernel)
        exact RG_dead (RG_le1 g_p3 g_9 c_10 (b' := 1) (by decide +kernel)) (by decide +kernel)
      · replace hEX := hEX.trans (if_neg c_10)
        have d_12 := Int32.not_le.mp c_10
        refine lv_aload_n hx hb dJ1_indexOfChar_4cfef_13 rfl (lv_at hl 2 rfl) ?_
        refine lv_iload hx hb dJ1_indexOfChar_4cfef_14 (lv_at hl 0 rfl) ?_
        refine va_tb hx hb hE_31 hS (RG_in g_9 (by decide +kernel)) rfl dJ1_indexOfChar_4cfef_16 ?_
        refine lv_topi (fun x_13 ex_13 => ?_)
        replace hEX := hEX.trans (exl_eq ex_13)
        have g_14 : RG x_13 0 121 := RG_tab ex_13 (by decide +kernel)
        refine lv_iload hx hb dJ1_indexOfChar_4cfef_17 (lv_at hl 1 rfl) ?_
        as_aux_lemma =>
        refine lv_icmp_ne (tgt := 25) hx hb dJ1_indexOfChar_4cfef_19 rfl (fun c_15 => ?_) (fun c_15 => ?_)
        · replace hEX := hEX.trans (if_neg c_15)
          obtain ⟨x_16, ex_16⟩ : ∃ y : Int32, y = x_8 + 1 := ⟨_, rfl⟩
          have g_17 : RG x_16 2 2 := RG_add ex_16 g_9 (RG_k 1 1 rfl) (by decide +kernel)
          replace hEX := hEX.trans (exl_eq ex_16)
          refine lv_iinc (v := x_16) (lv' := [(5, .int x_16), (4, .int x_1), (0, .ref tv3), (1, .int p1), (2, .int p2), (3, .int p3)]) hx hb dJ1_indexOfChar_4cfef_25 hl (k := 0) rfl (by rw [ex_16]; rfl) (Nat.le_of_ble_eq_true rfl) rfl (fun ls hl => ?_)
          refine lv_goto (tgt := 7) hx hb dJ1_indexOfChar_4cfef_28 rfl ?_
          refine lv_iload hx hb dJ1_indexOfChar_4cfef_7 (lv_at hl 0 rfl) ?_
          refine lv_iload_n hx hb dJ1_indexOfChar_4cfef_9 rfl (lv_at hl 5 rfl) ?_
          refine lv_icmp_ge (tgt := 31) hx hb dJ1_indexOfChar_4cfef_10 rfl (fun c_18 => ?_) (fun c_18 => ?_)
          · replace hEX := hEX.trans (if_pos c_18)
            have g_19 : RG p3 4 2 := RG_le1 g_p3 g_17 c_18 (by decide +kernel)
            exact RG_dead (RG_le1 g_p3 g_17 c_18 (b' := 2) (by decide +kernel)) (by decide +kernel)
          · replace hEX := hEX.trans (if_neg c_18)
            have d_20 := Int32.not_le.mp c_18
            refine lv_aload_n hx hb dJ1_indexOfChar_4cfef_13 rfl (lv_at hl 2 rfl) ?_
            as_aux_lemma =>
            refine lv_iload hx hb dJ1_indexOfChar_4cfef_14 (lv_at hl 0 rfl) ?_
            refine va_tb hx hb hE_31 hS (RG_in g_17 (by decide +kernel)) rfl dJ1_indexOfChar_4cfef_16 ?_
            refine lv_topi (fun x_21 ex_21 => ?_)
            replace hEX := hEX.trans (exl_eq ex_21)
            have g_22 : RG x_21 0 121 := RG_tab ex_21 (by decide +kernel)
            refine lv_iload hx hb dJ1_indexOfChar_4cfef_17 (lv_at hl 1 rfl) ?_
            refine lv_icmp_ne (tgt := 25) hx hb dJ1_indexOfChar_4cfef_19 rfl (fun c_23 => ?_) (fun c_23 => ?_)
            · replace hEX := hEX.trans (if_neg c_23)
              obtain ⟨x_24, ex_24⟩ : ∃ y : Int32, y = x_16 + 1 := ⟨_, rfl⟩
              have g_25 : RG x_24 3 3 := RG_add ex_24 g_17 (RG_k 1 1 rfl) (by decide +kernel)
              replace hEX := hEX.trans (exl_eq ex_24)
              refine lv_iinc (v := x_24) (lv' := [(5, .int x_24), (4, .int x_1), (0, .ref tv3), (1, .int p1), (2, .int p2), (3, .int p3)]) hx hb dJ1_indexOfChar_4cfef_25 hl (k := 0) rfl (by rw [ex_24]; rfl) (Nat.le_of_ble_eq_true rfl) rfl (fun ls hl => ?_)
              refine lv_goto (tgt := 7) hx hb dJ1_indexOfChar_4cfef_28 rfl ?_
              refine lv_iload hx hb dJ1_indexOfChar_4cfef_7 (lv_at hl 0 rfl) ?_
              as_aux_lemma =>
              refine lv_iload_n hx hb dJ1_indexOfChar_4cfef_9 rfl (lv_at hl 5 rfl) ?_
              refine lv_icmp_ge (tgt := 31) hx hb dJ1_indexOfChar_4cfef_10 rfl (fun c_26 => ?_) (fun c_26 => ?_)
              · replace hEX := hEX.trans (if_pos c_26)
                have g_27 : RG p3 4 3 := RG_le1 g_p3 g_25 c_26 (by decide +kernel)
                exact RG_dead (RG_le1 g_p3 g_25 c_26 (b' := 3) (by decide +kernel)) (by decide +kernel)
              · replace hEX := hEX.trans (if_neg c_26)
                have d_28 := Int32.not_le.mp c_26
                refine lv_aload_n hx hb dJ1_indexOfChar_4cfef_13 rfl (lv_at hl 2 rfl) ?_
                refine lv_iload hx hb dJ1_indexOfChar_4cfef_14 (lv_at hl 0 rfl) ?_
                refine va_tb hx hb hE_31 hS (RG_in g_25 (by decide +kernel)) rfl dJ1_indexOfChar_4cfef_16 ?_
                refine lv_topi (fun x_29 ex_29 => ?_)
                replace hEX := hEX.trans (exl_eq ex_29)
                have g_30 : RG x_29 0 121 := RG_tab ex_29 (by decide +kernel)
                refine lv_iload hx hb dJ1_indexOfChar_4cfef_17 (lv_at hl 1 rfl) ?_
                as_aux_lemma =>
                refine lv_icmp_ne (tgt := 25) hx hb dJ1_indexOfChar_4cfef_19 rfl (fun c_31 => ?_) (fun c_31 => ?_)
                · replace hEX := hEX.trans (if_neg c_31)
                  obtain ⟨x_32, ex_32⟩ : ∃ y : Int32, y = x_24 + 1 := ⟨_, rfl⟩
                  have g_33 : RG x_32 4 4 := RG_add ex_32 g_25 (RG_k 1 1 rfl) (by decide +kernel)
                  replace hEX := hEX.trans (exl_eq ex_32)
                  refine lv_iinc (v := x_32) (lv' := [(5, .int x_32), (4, .int x_1), (0, .ref tv3), (1, .int p1), (2, .int p2), (3, .int p3)]) hx hb dJ1_indexOfChar_4cfef_25 hl (k := 0) rfl (by rw [ex_32]; rfl) (Nat.le_of_ble_eq_true rfl) rfl (fun ls hl => ?_)
                  refine lv_goto (tgt := 7) hx hb dJ1_indexOfChar_4cfef_28 rfl ?_
                  refine lv_iload hx hb dJ1_indexOfChar_4cfef_7 (lv_at hl 0 rfl) ?_
                  refine lv_iload_n hx hb dJ1_indexOfChar_4cfef_9 rfl (lv_at hl 5 rfl) ?_
                  refine lv_icmp_ge (tgt := 31) hx hb dJ1_indexOfChar_4cfef_10 rfl (fun c_34 => ?_) (fun c_34 => ?_)
                  · replace hEX := hEX.trans (if_pos c_34)
                    refine lv_iconst (v := (-1)) hx hb dJ1_indexOfChar_4cfef_31 kc_iconst_m1 ?_
                    have hK9 := hK.sub (tys' := []) [] rfl
                    exact W.iret (v := (-1)) hx hb hr (fun t ht hW => ⟨⟨(-1), (), rfl, (Or.inl ⟨rfl, (hR.trans hEX).symm⟩), by rw [ht]; exact hP, va_K.moved hW.alike hK9, hD⟩, hS.F ht⟩) hS.2.2 dJ1_indexOfChar_4cfef_32
                  · replace hEX := hEX.trans (if_neg c_34)
                    have d_35 := Int32.not_le.mp c_34
                    have g_36 : RG x_32 4 3 := RG_lt1 g_33 g_p3 d_35 (by decide +kernel)
                    exact RG_dead (RG_lt1 g_33 g_p3 d_35 (b' := 3) (by decide +kernel)) (by decide +kernel)
                · replace hEX := hEX.trans (if_pos c_31)
                  have g_37 : RG x_1 0 121 := RG_eq1 (RG_any x_1) g_30 c_31.symm (by decide +kernel)
                  refine lv_iload hx hb dJ1_indexOfChar_4cfef_22 (lv_at hl 0 rfl) ?_
                  as_aux_lemma =>
                  have hK9 := hK.sub (tys' := []) [] rfl
                  exact W.iret (v := x_24) hx hb hr (fun t ht hW => ⟨⟨x_24, (), rfl, (Or.inr ⟨(RG_w g_25 (by decide +kernel)), (hR.trans hEX).symm⟩), by rw [ht]; exact hP, va_K.moved hW.alike hK9, hD⟩, hS.F ht⟩) hS.2.2 dJ1_indexOfChar_4cfef_24
            · replace hEX := hEX.trans (if_pos c_23)
              have g_38 : RG x_1 0 121 := RG_eq1 (RG_any x_1) g_22 c_23.symm (by decide +kernel)
              refine lv_iload hx hb dJ1_indexOfChar_4cfef_22 (lv_at hl 0 rfl) ?_
              have hK9 := hK.sub (tys' := []) [] rfl
              exact W.iret (v := x_16) hx hb hr (fun t ht hW => ⟨⟨x_16, (), rfl, (Or.inr ⟨(RG_w g_17 (by decide +kernel)), (hR.trans hEX).symm⟩), by rw [ht]; exact hP, va_K.moved hW.alike hK9, hD⟩, hS.F ht⟩) hS.2.2 dJ1_indexOfChar_4cfef_24
        · replace hEX := hEX.trans (if_pos c_15)
          have g_39 : RG x_1 0 121 := RG_eq1 (RG_any x_1) g_14 c_15.symm (by decide +kernel)
          refine lv_iload hx hb dJ1_indexOfChar_4cfef_22 (lv_at hl 0 rfl) ?_
          have hK9 := hK.sub (tys' := []) [] rfl
          exact W.iret (v := x_8) hx hb hr (fun t ht hW => ⟨⟨x_8, (), rfl, (Or.inr ⟨(RG_w g_9 (by decide +kernel)), (hR.trans hEX).symm⟩), by rw [ht]; exact hP, va_K.moved hW.alike hK9, hD⟩, hS.F ht⟩) hS.2.2 dJ1_indexOfChar_4cfef_24
    · replace hEX := hEX.trans (if_pos c_7)
      have g_40 : RG x_1 0 121 := RG_eq1 (RG_any x_1) g_6 c_7.symm (by decide +kernel)
      refine lv_iload hx hb dJ1_indexOfChar_4cfef_22 (lv_at hl 0 rfl) ?_
      as_aux_lemma =>
      have hK9 := hK.sub (tys' := []) [] rfl
      exact W.iret (v := p2) hx hb hr (fun t ht hW => ⟨⟨p2, (), rfl, (Or.inr ⟨(RG_w g_p2 (by decide +kernel)), (hR.trans hEX).symm⟩), by rw [ht]; exact hP, va_K.moved hW.alike hK9, hD⟩, hS.F ht⟩) hS.2.2 dJ1_indexOfChar_4cfef_24
noncomputable def wf_c_J1_indexOf_4cfef_3 : List Cond := .code yJ1_indexOf_4cfef cJ1_indexOf_4cfef 4 (some .int) :: ([.methodLink RJ1 88 yJ1_canEncode_9a6ad, .static yJ1_canEncode_9a6ad, .initialized RJ1, .code yJ1_canEncode_9a6ad cJ1_canEncode_9a6ad 1 (some .boolean), .methodLink RJ1 92 Lib.Math.max.name, .static Lib.Math.max.name, .initialized "java/lang/Math", .code Lib.Math.max.name Lib.Math.max.code 2 (some .int), .methodLink RJ1 38 Lib.Math.min.name, .static Lib.Math.min.name, .code Lib.Math.min.name Lib.Math.min.code 2 (some .int), .methodLink RJ1 95 yJ1_indexOfChar_4cfef, .static yJ1_indexOfChar_4cfef, .code yJ1_indexOfChar_4cfef cJ1_indexOfChar_4cfef 6 (some .int)])
set_option maxRecDepth 20000 in
theorem gf_c_J1_indexOf_4cfef_3_c_J1_canEncode_9a6ad : GoodIn wf_c_J1_indexOf_4cfef_3 (va_wsS RJ1 88 yJ1_canEncode_9a6ad wf_c_J1_canEncode_9a6ad) := goodIn_app (gi_l [1, 2, 3] rfl rfl) (gi_cons (j := 4) rfl rfl gi_nil)
set_option maxRecDepth 20000 in
theorem gf_c_J1_indexOf_4cfef_3_c_J1_indexOfChar_4cfef_3 : GoodIn wf_c_J1_indexOf_4cfef_3 (va_wsS RJ1 95 yJ1_indexOfChar_4cfef wf_c_J1_indexOfChar_4cfef_3) := goodIn_app (gi_l [12, 13, 3] rfl rfl) (gi_cons (j := 14) rfl rfl gi_nil)
set_option maxHeartbeats 4000000 in
set_option maxRecDepth 100000 in
theorem c_J1_indexOf_4cfef_3 (l : Launch) (dC : Nat → ClassId) (dI : Nat → Nat → Nat) (sz : Nat) (tv3 : Nat) (p1 : Int32) (g_p1 : RG p1 0 65535) : Met l yJ1_indexOf_4cfef wf_c_J1_indexOf_4cfef_3 ({ frames := 1, cells := 0, slots := 0, locals := 25 }) (va_Pc [.ref tv3, .int p1, .int 0, .int 4] (fun U => U.heap.size = sz ∧ va_P (dC, dI) vwCl [] U.heap ∧ va_K (dC, dI) vwCl [] U ∧ va_D (fun _ => True) [] ∧ va_T .byte tv3 4 (fun j => .int ([120, 121, 115, 118].getD j 0)) (va_A [] sz) U U.heap)) (va_Qi (fun (r : Int32) (u : Unit) => (r = (-1) ∧ r = fx_c_J1_indexOf_4cfef_3 p1) ∨ (RG r 0 3 ∧ RG p1 0 255 ∧ r = fx_c_J1_indexOf_4cfef_3 p1)) (fun (u : Unit) t => va_P (dC, dI) vwCl [] t.heap ∧ va_K (dC, dI) vwCl [] t ∧ va_D (va_A [] sz) []) (va_A [] sz)) 0 0 (va_A [] sz) := by
  refine Met.ofW (cc := cJ1_indexOf_4cfef) (maxL := 4) (ret := (some .int)) (by decide +kernel) rfl ?_
  intro p e s m args below meth c s₁ B hml hv
  obtain ⟨rfl, hsz, hP, hK, hD0, hE_31⟩ := hv
  have hx := B.exec
  have hb := B.bytes
  have hr := B.returns
  have hts := atoms_spec (ws := wf_c_J1_indexOf_4cfef_3) B.pre
  have hown : s.vm.findClass RJ1 = some m.cls := findClass_of_methodNamed B.named
  have hlocks := B.notSynchronized
  subst hsz
  have hD := hD0.self (sz := s.heap.size)
  generalize hAe : va_A [] s.heap.size = A at hD hE_31 ⊢
  have hA : ∀ q : Nat, s.heap.size ≤ q → A q := fun q h => by rw [← hAe]; exact Or.inr h
  have hP : va_P (dC, dI) vwCl [] s.heap := hP
  have hl := lv_entry ([.ref tv3, .int p1, .int 0, .int 4]) (n := 4) (Nat.le_of_ble_eq_true rfl)
  rw [lg_entry_eq]
  generalize (lg_sl ([.ref tv3, .int p1, .int 0, .int 4]) ++ List.replicate (4 - (lg_sl ([.ref tv3, .int p1, .int 0, .int 4])).length) Slot.unset).toArray = ls at hl ⊢
  have hl : lv_has ls 4 [(0, .ref tv3), (1, .int p1), (2, .int 0), (3, .int 4)] := hl
  obtain ⟨H, hHe⟩ : ∃ H : Heap, s.heap = H := ⟨_, rfl⟩
  have hS : va_S A s.heap H [] := by rw [hHe]; exact va_S.rf
  have hP : va_P (dC, dI) vwCl [] H := by rw [← hHe]; exact hP
  rw [hHe]
  obtain ⟨RES, hR⟩ : ∃ z, fx_c_J1_indexOf_4cfef_3 p1 = z := ⟨_, rfl⟩
  have hEX : RES = fx_c_J1_indexOf_4cfef_3 p1 := hR.symm
  refine lv_iload_n hx hb dJ1_indexOf_4cfef_0 rfl (lv_at hl 1 rfl) ?_
  as_aux_lemma =>
  obtain ⟨hPc, hDc, hFc, hqc⟩ := cl_cut (wc := []) hP hD hS hA [] (by decide +kernel) rfl
  have hKc := hK.sub (tys' := []) [] rfl
  refine va_calli (va_runS (As := [.int p1]) (rest := []) ⟨hx, hb, hml, hown, hts⟩ (c_J1_canEncode_9a6ad l dC dI H.size p1 g_p1) (va_cwS 1 hts gf_c_J1_indexOf_4cfef_3_c_J1_canEncode_9a6ad rfl rfl rfl md_J1_canEncode_9a6ad ⟨Nat.le_of_ble_eq_true rfl, Nat.le_of_ble_eq_true rfl⟩) ⟨fun a U g mk q => by obtain ⟨q0, q1, qP, qK, qD⟩ := q; exact ⟨q0, q1, qP, va_K.moved (u := U) (U := U.calling g mk a) (Vm.Alike.refl U.vm) qK, qD⟩, fun U hU hW => ⟨rfl, by rw [hU], by rw [hU]; exact hPc, va_K.moved hW.alike hKc, hDc.weaken (fun _ _ _ _ => trivial)⟩⟩ rfl rfl hl.1 rfl (lv_room (Nat.le_of_ble_eq_true rfl)) dJ1_indexOf_4cfef_1 ⟨Nat.le_of_ble_eq_true rfl, Nat.le_of_ble_eq_true rfl⟩) hS (fun q _ h => hFc q h) hFc (fun r_1 u t H1 locs ht hvm hw hB hz1 hk1 hS => ?_)
  obtain ⟨hP1, hK1, hD1⟩ := hB
  rw [ht] at hP1
  have hP := bv_still hP hk1
  generalize H1 = H at hP hS ⊢
  as_aux_lemma =>
  rcases hw with ⟨h_2, h_3, h_4⟩ | ⟨h_5, h_6, h_7⟩
  · have h_4 : r_1 = _ := h_4
    replace hEX := hEX.trans (exc1_eq h_4)
    replace hEX := hEX.trans (if_pos (show r_1 = 0 from h_2))
    rw [h_2]
    refine lv_if_ne (tgt := 9) hx hb dJ1_indexOf_4cfef_4 rfl (fun c_8 => absurd c_8 (by decide +kernel)) (fun c_8 => ?_)
    refine lv_iconst (v := (-1)) hx hb dJ1_indexOf_4cfef_7 kc_iconst_m1 ?_
    have hK9 := hK.sub (tys' := []) [] rfl
    exact W.iret (v := (-1)) hx hb hr (fun t ht hW => ⟨⟨(-1), (), rfl, (Or.inl ⟨rfl, (hR.trans hEX).symm⟩), by rw [ht]; exact hP, va_K.moved hW.alike hK9, hD⟩, hS.F ht⟩) hS.2.2 dJ1_indexOf_4cfef_8
  · have h_7 : r_1 = _ := h_7
    replace hEX := hEX.trans (exc1_eq h_7)
    replace hEX := hEX.trans (if_neg (fun q9 : r_1 = 0 => absurd ((show r_1 = 1 from h_5).symm.trans q9) (by decide +kernel)))
    rw [h_5]
    refine lv_if_ne (tgt := 9) hx hb dJ1_indexOf_4cfef_4 rfl (fun c_9 => ?_) (fun c_9 => absurd c_9 (by decide +kernel))
    refine lv_iload_n hx hb dJ1_indexOf_4cfef_9 rfl (lv_at hl 2 rfl) ?_
    as_aux_lemma =>
    refine lv_iconst (v := 0) hx hb dJ1_indexOf_4cfef_10 kc_iconst_0 ?_
    refine va_mmax hx hb (by rw [hml]; exact hl.1.symm) hown (hts (.methodLink RJ1 92 Lib.Math.max.name) (List.mem_of_getElem? (i := 5) rfl)) (hts (.static Lib.Math.max.name) (List.mem_of_getElem? (i := 6) rfl)) (hts (.initialized "java/lang/Math") (List.mem_of_getElem? (i := 7) rfl)) (hts (.code Lib.Math.max.name Lib.Math.max.code 2 (some .int)) (List.mem_of_getElem? (i := 8) rfl)) (Nat.le_of_ble_eq_true rfl) (Nat.le_of_ble_eq_true rfl) (Nat.le_of_ble_eq_true rfl) (Nat.le_of_ble_eq_true rfl) dJ1_indexOf_4cfef_11 ?_
    refine lv_topi (fun x_10 ex_10 => ?_)
    replace hEX := hEX.trans (exl_eq ex_10)
    have g_11 : RG x_10 0 0 := RG_max ex_10 (RG_k 0 0 rfl) (RG_k 0 0 rfl) (by decide +kernel)
    refine lv_istore_n (lv' := [(2, .int x_10), (0, .ref tv3), (1, .int p1), (3, .int 4)]) hx hb dJ1_indexOf_4cfef_14 rfl hl (Nat.le_of_ble_eq_true rfl) rfl (fun ls hl => ?_)
    refine lv_iload_n hx hb dJ1_indexOf_4cfef_15 rfl (lv_at hl 3 rfl) ?_
    refine lv_aload_n hx hb dJ1_indexOf_4cfef_16 rfl (lv_at hl 1 rfl) ?_
    refine va_tlen (v := 4) hx hb hE_31 hS rfl dJ1_indexOf_4cfef_17 ?_
    refine va_mmin hx hb (by rw [hml]; exact hl.1.symm) hown (hts (.methodLink RJ1 38 Lib.Math.min.name) (List.mem_of_getElem? (i := 9) rfl)) (hts (.static Lib.Math.min.name) (List.mem_of_getElem? (i := 10) rfl)) (hts (.initialized "java/lang/Math") (List.mem_of_getElem? (i := 7) rfl)) (hts (.code Lib.Math.min.name Lib.Math.min.code 2 (some .int)) (List.mem_of_getElem? (i := 11) rfl)) (Nat.le_of_ble_eq_true rfl) (Nat.le_of_ble_eq_true rfl) (Nat.le_of_ble_eq_true rfl) (Nat.le_of_ble_eq_true rfl) dJ1_indexOf_4cfef_18 ?_
    refine lv_topi (fun x_12 ex_12 => ?_)
    replace hEX := hEX.trans (exl_eq ex_12)
    have g_13 : RG x_12 4 4 := RG_min ex_12 (RG_k 4 4 rfl) (RG_k 4 4 rfl) (by decide +kernel)
    refine lv_istore_n (lv' := [(3, .int x_12), (2, .int x_10), (0, .ref tv3), (1, .int p1)]) hx hb dJ1_indexOf_4cfef_21 rfl hl (Nat.le_of_ble_eq_true rfl) rfl (fun ls hl => ?_)
    as_aux_lemma =>
    refine lv_iload_n hx hb dJ1_indexOf_4cfef_22 rfl (lv_at hl 1 rfl) ?_
    refine lv_iload_n hx hb dJ1_indexOf_4cfef_23 rfl (lv_at hl 0 rfl) ?_
    refine lv_icmp_lt (tgt := 29) hx hb dJ1_indexOf_4cfef_24 rfl (fun c_14 => ?_) (fun c_14 => ?_)
    · replace hEX := hEX.trans (if_pos c_14)
      refine lv_aload_n hx hb dJ1_indexOf_4cfef_29 rfl (lv_at hl 2 rfl) ?_
      refine lv_iload_n hx hb dJ1_indexOf_4cfef_30 rfl (lv_at hl 3 rfl) ?_
      refine lv_iload_n hx hb dJ1_indexOf_4cfef_31 rfl (lv_at hl 1 rfl) ?_
      refine lv_iload_n hx hb dJ1_indexOf_4cfef_32 rfl (lv_at hl 0 rfl) ?_
      obtain ⟨hPc, hDc, hFc, hqc⟩ := cl_cut (wc := []) hP hD hS hA [] (by decide +kernel) rfl
      have hKc := hK.sub (tys' := []) [] rfl
      refine va_calli (va_runS (As := [.ref tv3, .int p1, .int x_10, .int x_12]) (rest := []) ⟨hx, hb, hml, hown, hts⟩ (c_J1_indexOfChar_4cfef_3 l dC dI H.size tv3 p1 x_10 x_12 h_6 g_11 g_13) (va_cwS 4 hts gf_c_J1_indexOf_4cfef_3_c_J1_indexOfChar_4cfef_3 rfl rfl rfl md_J1_indexOfChar_4cfef ⟨Nat.le_of_ble_eq_true rfl, Nat.le_of_ble_eq_true rfl⟩) ⟨fun a U g mk q => by obtain ⟨q0, q1, qP, qK, qD, qE0⟩ := q; exact ⟨q0, q1, qP, va_K.moved (u := U) (U := U.calling g mk a) (Vm.Alike.refl U.vm) qK, qD, va_T.moved (u := U) (U := U.calling g mk a) (Vm.Alike.refl U.vm) qE0⟩, fun U hU hW => ⟨rfl, by rw [hU], by rw [hU]; exact hPc, va_K.moved hW.alike hKc, hDc.weaken (fun _ _ _ _ => trivial), va_T.moved hW.alike (by rw [hU]; exact (hE_31.kept hS.2.1).narrow hFc)⟩⟩ rfl rfl hl.1 rfl (lv_room (Nat.le_of_ble_eq_true rfl)) dJ1_indexOf_4cfef_33 ⟨Nat.le_of_ble_eq_true rfl, Nat.le_of_ble_eq_true rfl⟩) hS (fun q _ h => hFc q h) hFc (fun r_15 u t H1 locs ht hvm hw hB hz1 hk1 hS => ?_)
      obtain ⟨hP1, hK1, hD1⟩ := hB
      rw [ht] at hP1
      have hP := bv_still hP hk1
      generalize H1 = H at hP hS ⊢
      as_aux_lemma =>
      rcases hw with ⟨h_16, h_17⟩ | ⟨h_18, h_19⟩
      · have h_17 : r_15 = _ := h_17
        replace hEX := hEX.trans (exc1_eq h_17)
        replace hEX := hEX.trans (if_pos (show r_15 = (-1) from h_16))
        rw [h_16]
        have hK9 := hK.sub (tys' := []) [] rfl
        exact W.iret (v := (-1)) hx hb hr (fun t ht hW => ⟨⟨(-1), (), rfl, (Or.inl ⟨rfl, (hR.trans hEX).symm⟩), by rw [ht]; exact hP, va_K.moved hW.alike hK9, hD⟩, hS.F ht⟩) hS.2.2 dJ1_indexOf_4cfef_36
      · have h_19 : r_15 = _ := h_19
        replace hEX := hEX.trans (exc1_eq h_19)
        replace hEX := hEX.trans (if_neg (RG_neq (x := r_15) (c := (-1)) (show RG r_15 0 3 from h_18) (by decide +kernel)))
        have hK9 := hK.sub (tys' := []) [] rfl
        exact W.iret (v := r_15) hx hb hr (fun t ht hW => ⟨⟨r_15, (), rfl, (Or.inr ⟨h_18, h_6, (hR.trans hEX).symm⟩), by rw [ht]; exact hP, va_K.moved hW.alike hK9, hD⟩, hS.F ht⟩) hS.2.2 dJ1_indexOf_4cfef_36
    · replace hEX := hEX.trans (if_neg c_14)
      have d_20 := Int32.not_lt.mp c_14
      have g_21 : RG x_12 4 0 := RG_le1 g_13 g_11 d_20 (by decide +kernel)
      exact RG_dead (RG_le1 g_13 g_11 d_20 (b' := 0) (by decide +kernel)) (by decide +kernel)
noncomputable def wf_c_J0_indexOf_7cf53_3 : List Cond := .code yJ0_indexOf_7cf53 cJ0_indexOf_7cf53 3 (some .int) :: ([.methodLink RJ0 492 yJ0_isLatin1_aae02, .instanceMethod yJ0_isLatin1_aae02, .selects RJ0 yJ0_isLatin1_aae02 yJ0_isLatin1_aae02, .initialized RJ0, .code yJ0_isLatin1_aae02 cJ0_isLatin1_aae02 1 (some .boolean), .fieldLink RJ0 38 "java/lang/String" "COMPACT_STRINGS" "Z", .fieldLink RJ0 15 "java/lang/String" "coder" "B", .fieldLink RJ0 9 "java/lang/String" "value" "[B", .methodLink RJ0 505 yJ0_length_8abf5, .instanceMethod yJ0_length_8abf5, .selects RJ0 yJ0_length_8abf5 yJ0_length_8abf5, .code yJ0_length_8abf5 cJ0_length_8abf5 1 (some .int), .methodLink RJ0 335 yJ0_coder_7d493, .instanceMethod yJ0_coder_7d493, .selects RJ0 yJ0_coder_7d493 yJ0_coder_7d493, .code yJ0_coder_7d493 cJ0_coder_7d493 1 (some .byte), .methodLink RJ0 637 yJ1_indexOf_4cfef, .static yJ1_indexOf_4cfef, .initialized RJ1, .code yJ1_indexOf_4cfef cJ1_indexOf_4cfef 4 (some .int), .methodLink RJ1 88 yJ1_canEncode_9a6ad, .static yJ1_canEncode_9a6ad, .code yJ1_canEncode_9a6ad cJ1_canEncode_9a6ad 1 (some .boolean), .methodLink RJ1 92 Lib.Math.max.name, .static Lib.Math.max.name, .initialized "java/lang/Math", .code Lib.Math.max.name Lib.Math.max.code 2 (some .int), .methodLink RJ1 38 Lib.Math.min.name, .static Lib.Math.min.name, .code Lib.Math.min.name Lib.Math.min.code 2 (some .int), .methodLink RJ1 95 yJ1_indexOfChar_4cfef, .static yJ1_indexOfChar_4cfef, .code yJ1_indexOfChar_4cfef cJ1_indexOfChar_4cfef 6 (some .int)])
set_option maxRecDepth 20000 in
theorem gf_c_J0_indexOf_7cf53_3_c_J0_isLatin1_aae02_3 : GoodIn wf_c_J0_indexOf_7cf53_3 (wsV RJ0 492 RJ0 yJ0_isLatin1_aae02 wf_c_J0_isLatin1_aae02_3) := goodIn_app (gi_l [1, 2, 3, 4] rfl rfl) (gi_cons (j := 5) rfl rfl (gi_l [6, 7] rfl rfl))
set_option maxRecDepth 20000 in
theorem gf_c_J0_indexOf_7cf53_3_c_J0_length_8abf5_3 : GoodIn wf_c_J0_indexOf_7cf53_3 (wsV RJ0 505 RJ0 yJ0_length_8abf5 wf_c_J0_length_8abf5_3) := goodIn_app (gi_l [9, 10, 11, 4] rfl rfl) (gi_cons (j := 12) rfl rfl (gi_l [8, 13, 14, 15, 4, 16, 6, 7] rfl rfl))
set_option maxRecDepth 20000 in
theorem gf_c_J0_indexOf_7cf53_3_c_J1_indexOf_4cfef_3 : GoodIn wf_c_J0_indexOf_7cf53_3 (va_wsS RJ0 637 yJ1_indexOf_4cfef wf_c_J1_indexOf_4cfef_3) := goodIn_app (gi_l [17, 18, 19] rfl rfl) (gi_cons (j := 20) rfl rfl (gi_l [21, 22, 19, 23, 24, 25, 26, 27, 28, 29, 30, 31, 32, 33] rfl rfl))
set_option maxHeartbeats 4000000 in
set_option maxRecDepth 100000 in
theorem c_J0_indexOf_7cf53_3 (l : Launch) (dC : Nat → ClassId) (dI : Nat → Nat → Nat) (sz : Nat) (ts3 : Nat) (p1 : Int32) (tv3 : Nat) (g_p1 : RG p1 0 65535) : Met l yJ0_indexOf_7cf53 wf_c_J0_indexOf_7cf53_3 ({ frames := 2, cells := 0, slots := 0, locals := 48 }) (va_Pc [.ref ts3, .int p1, .int 0] (fun U => U.heap.size = sz ∧ va_P (dC, dI) vwCl [] U.heap ∧ va_K (dC, dI) vwCl [] U ∧ va_D (fun _ => True) [] ∧ va_Z "java/lang/String" "COMPACT_STRINGS" "Z" (.int 1) (va_A [] sz) U U.heap ∧ va_OF "java/lang/String" "coder" "B" (.int 0) ts3 (va_A [] sz) U U.heap ∧ va_O "java/lang/String" ts3 (va_A [] sz) U U.heap ∧ va_OF "java/lang/String" "value" "[B" (.ref tv3) ts3 (va_A [] sz) U U.heap ∧ va_T .byte tv3 4 (fun j => .int ([120, 121, 115, 118].getD j 0)) (va_A [] sz) U U.heap)) (va_Qi (fun (r : Int32) (u : Unit) => (r = (-1) ∧ r = fx_c_J0_indexOf_7cf53_3 p1) ∨ (RG r 0 3 ∧ RG p1 0 255 ∧ r = fx_c_J0_indexOf_7cf53_3 p1)) (fun (u : Unit) t => va_P (dC, dI) vwCl [] t.heap ∧ va_K (dC, dI) vwCl [] t ∧ va_D (va_A [] sz) []) (va_A [] sz)) 0 0 (va_A [] sz) := by
  refine Met.ofW (cc := cJ0_indexOf_7cf53) (maxL := 3) (ret := (some .int)) (by decide +kernel) rfl ?_
  intro p e s m args below meth c s₁ B hml hv
  obtain ⟨rfl, hsz, hP, hK, hD0, hE_10, hE_29, hE_28, hE_30, hE_31⟩ := hv
  have hx := B.exec
  have hb := B.bytes
  have hr := B.returns
  have hts := atoms_spec (ws := wf_c_J0_indexOf_7cf53_3) B.pre
  have hown : s.vm.findClass RJ0 = some m.cls := findClass_of_methodNamed B.named
  have hlocks := B.notSynchronized
  subst hsz
  have hD := hD0.self (sz := s.heap.size)
  generalize hAe : va_A [] s.heap.size = A at hD hE_10 hE_29 hE_28 hE_30 hE_31 ⊢
  have hA : ∀ q : Nat, s.heap.size ≤ q → A q := fun q h => by rw [← hAe]; exact Or.inr h
  have hP : va_P (dC, dI) vwCl [] s.heap := hP
  have hl := lv_entry ([.ref ts3, .int p1, .int 0]) (n := 3) (Nat.le_of_ble_eq_true rfl)
  rw [lg_entry_eq]
  generalize (lg_sl ([.ref ts3, .int p1, .int 0]) ++ List.replicate (3 - (lg_sl ([.ref ts3, .int p1, .int 0])).length) Slot.unset).toArray = ls at hl ⊢
  have hl : lv_has ls 3 [(0, .ref ts3), (1, .int p1), (2, .int 0)] := hl
  obtain ⟨H, hHe⟩ : ∃ H : Heap, s.heap = H := ⟨_, rfl⟩
  have hS : va_S A s.heap H [] := by rw [hHe]; exact va_S.rf
  have hP : va_P (dC, dI) vwCl [] H := by rw [← hHe]; exact hP
  rw [hHe]
  obtain ⟨RES, hR⟩ : ∃ z, fx_c_J0_indexOf_7cf53_3 p1 = z := ⟨_, rfl⟩
  have hEX : RES = fx_c_J0_indexOf_7cf53_3 p1 := hR.symm
  refine lv_aload_n hx hb dJ0_indexOf_7cf53_0 rfl (lv_at hl 0 rfl) ?_
  as_aux_lemma =>
  obtain ⟨hPc, hDc, hFc, hqc⟩ := cl_cut (wc := []) hP hD hS hA [] (by decide +kernel) rfl
  have hKc := hK.sub (tys' := []) [] rfl
  have hrv := bv_Orecv hE_28 hS
  refine va_calli (va_runV (As := []) (rest := []) ⟨hx, hb, hml, hown, hts⟩ (c_J0_isLatin1_aae02_3 l dC dI H.size ts3) (cwV 0 hts gf_c_J0_indexOf_7cf53_3_c_J0_isLatin1_aae02_3 rfl rfl rfl mdV_J0_isLatin1_aae02 ⟨Nat.le_of_ble_eq_true rfl, Nat.le_of_ble_eq_true rfl⟩) ⟨fun a U g mk q => by obtain ⟨q0, q1, qP, qK, qD, qE0, qE1⟩ := q; exact ⟨q0, q1, qP, va_K.moved (u := U) (U := U.calling g mk a) (Vm.Alike.refl U.vm) qK, qD, va_Z.moved (u := U) (U := U.calling g mk a) (Vm.Alike.refl U.vm) qE0, va_OF.moved (u := U) (U := U.calling g mk a) (Vm.Alike.refl U.vm) qE1⟩, hrv, fun U hU hW => ⟨rfl, by rw [hU], by rw [hU]; exact hPc, va_K.moved hW.alike hKc, hDc.weaken (fun _ _ _ _ => trivial), va_Z.moved hW.alike (by rw [hU]; exact (hE_10.kept hS.2.1).narrow hFc), va_OF.moved hW.alike (by rw [hU]; exact (hE_29.kept hS.2.1).narrow hFc)⟩⟩ rfl rfl hl.1 rfl (lv_room (Nat.le_of_ble_eq_true rfl)) dJ0_indexOf_7cf53_1 ⟨Nat.le_of_ble_eq_true rfl, Nat.le_of_ble_eq_true rfl⟩) hS (fun q _ h => hFc q h) hFc (fun r_1 u t H1 locs ht hvm hw hB hz1 hk1 hS => ?_)
  obtain ⟨hP1, hK1, hD1⟩ := hB
  rw [ht] at hP1
  have hP := bv_still hP hk1
  generalize H1 = H at hP hS ⊢
  as_aux_lemma =>
  rcases hw with ⟨h_2, h_3⟩
  have h_3 : r_1 = _ := h_3
  replace hEX := hEX.trans (exc1_eq h_3)
  rw [h_2]
  refine lv_if_eq (tgt := 23) hx hb dJ0_indexOf_7cf53_4 rfl (fun c_4 => absurd c_4 (by decide +kernel)) (fun c_4 => ?_)
  refine lv_aload_n hx hb dJ0_indexOf_7cf53_7 rfl (lv_at hl 0 rfl) ?_
  refine vk_getf hx hb hE_30 hS hown (hts (.fieldLink RJ0 9 "java/lang/String" "value" "[B") (List.mem_of_getElem? (i := 8) rfl)) (fun _ h9 => h9) dJ0_indexOf_7cf53_8 ?_
  refine lv_iload_n hx hb dJ0_indexOf_7cf53_11 rfl (lv_at hl 1 rfl) ?_
  refine lv_iload_n hx hb dJ0_indexOf_7cf53_12 rfl (lv_at hl 2 rfl) ?_
  refine lv_aload_n hx hb dJ0_indexOf_7cf53_13 rfl (lv_at hl 0 rfl) ?_
  obtain ⟨hPc, hDc, hFc, hqc⟩ := cl_cut (wc := []) hP hD hS hA [] (by decide +kernel) rfl
  have hKc := hK.sub (tys' := []) [] rfl
  have hrv := bv_Orecv hE_28 hS
  refine va_calli (va_runV (As := []) (rest := [.int 0, .int p1, .ref tv3]) ⟨hx, hb, hml, hown, hts⟩ (c_J0_length_8abf5_3 l dC dI H.size ts3 tv3) (cwV 0 hts gf_c_J0_indexOf_7cf53_3_c_J0_length_8abf5_3 rfl rfl rfl mdV_J0_length_8abf5 ⟨Nat.le_of_ble_eq_true rfl, Nat.le_of_ble_eq_true rfl⟩) ⟨fun a U g mk q => by obtain ⟨q0, q1, qP, qK, qD, qE0, qE1, qE2, qE3, qE4⟩ := q; exact ⟨q0, q1, qP, va_K.moved (u := U) (U := U.calling g mk a) (Vm.Alike.refl U.vm) qK, qD, va_OF.moved (u := U) (U := U.calling g mk a) (Vm.Alike.refl U.vm) qE0, va_T.moved (u := U) (U := U.calling g mk a) (Vm.Alike.refl U.vm) qE1, va_Z.moved (u := U) (U := U.calling g mk a) (Vm.Alike.refl U.vm) qE2, va_OF.moved (u := U) (U := U.calling g mk a) (Vm.Alike.refl U.vm) qE3, va_O.moved (u := U) (U := U.calling g mk a) (Vm.Alike.refl U.vm) qE4⟩, hrv, fun U hU hW => ⟨rfl, by rw [hU], by rw [hU]; exact hPc, va_K.moved hW.alike hKc, hDc.weaken (fun _ _ _ _ => trivial), va_OF.moved hW.alike (by rw [hU]; exact (hE_30.kept hS.2.1).narrow hFc), va_T.moved hW.alike (by rw [hU]; exact (hE_31.kept hS.2.1).narrow hFc), va_Z.moved hW.alike (by rw [hU]; exact (hE_10.kept hS.2.1).narrow hFc), va_OF.moved hW.alike (by rw [hU]; exact (hE_29.kept hS.2.1).narrow hFc), va_O.moved hW.alike (by rw [hU]; exact (hE_28.kept hS.2.1).narrow hFc)⟩⟩ rfl rfl hl.1 rfl (lv_room (Nat.le_of_ble_eq_true rfl)) dJ0_indexOf_7cf53_14 ⟨Nat.le_of_ble_eq_true rfl, Nat.le_of_ble_eq_true rfl⟩) hS (fun q _ h => hFc q h) hFc (fun r_5 u t H1 locs ht hvm hw hB hz1 hk1 hS => ?_)
  as_aux_lemma =>
  obtain ⟨hP1, hK1, hD1⟩ := hB
  rw [ht] at hP1
  have hP := bv_still hP hk1
  generalize H1 = H at hP hS ⊢
  as_aux_lemma =>
  rcases hw with ⟨h_6, h_7⟩
  have h_7 : r_5 = _ := h_7
  replace hEX := hEX.trans (exc1_eq h_7)
  rw [h_6]
  obtain ⟨hPc, hDc, hFc, hqc⟩ := cl_cut (wc := []) hP hD hS hA [] (by decide +kernel) rfl
  have hKc := hK.sub (tys' := []) [] rfl
  refine va_calli (va_runS (As := [.ref tv3, .int p1, .int 0, .int 4]) (rest := []) ⟨hx, hb, hml, hown, hts⟩ (c_J1_indexOf_4cfef_3 l dC dI H.size tv3 p1 g_p1) (va_cwS 4 hts gf_c_J0_indexOf_7cf53_3_c_J1_indexOf_4cfef_3 rfl rfl rfl md_J1_indexOf_4cfef ⟨Nat.le_of_ble_eq_true rfl, Nat.le_of_ble_eq_true rfl⟩) ⟨fun a U g mk q => by obtain ⟨q0, q1, qP, qK, qD, qE0⟩ := q; exact ⟨q0, q1, qP, va_K.moved (u := U) (U := U.calling g mk a) (Vm.Alike.refl U.vm) qK, qD, va_T.moved (u := U) (U := U.calling g mk a) (Vm.Alike.refl U.vm) qE0⟩, fun U hU hW => ⟨rfl, by rw [hU], by rw [hU]; exact hPc, va_K.moved hW.alike hKc, hDc.weaken (fun _ _ _ _ => trivial), va_T.moved hW.alike (by rw [hU]; exact (hE_31.kept hS.2.1).narrow hFc)⟩⟩ rfl rfl hl.1 rfl (lv_room (Nat.le_of_ble_eq_true rfl)) dJ0_indexOf_7cf53_17 ⟨Nat.le_of_ble_eq_true rfl, Nat.le_of_ble_eq_true rfl⟩) hS (fun q _ h => hFc q h) hFc (fun r_8 u t H1 locs ht hvm hw hB hz1 hk1 hS => ?_)
  obtain ⟨hP1, hK1, hD1⟩ := hB
  rw [ht] at hP1
  have hP := bv_still hP hk1
  generalize H1 = H at hP hS ⊢
  as_aux_lemma =>
  rcases hw with ⟨h_9, h_10⟩ | ⟨h_11, h_12, h_13⟩
  · have h_10 : r_8 = _ := h_10
    replace hEX := hEX.trans (exc1_eq h_10)
    replace hEX := hEX.trans (if_pos (show r_8 = (-1) from h_9))
    rw [h_9]
    refine lv_goto (tgt := 36) hx hb dJ0_indexOf_7cf53_20 rfl ?_
    have hK9 := hK.sub (tys' := []) [] rfl
    exact W.iret (v := (-1)) hx hb hr (fun t ht hW => ⟨⟨(-1), (), rfl, (Or.inl ⟨rfl, (hR.trans hEX).symm⟩), by rw [ht]; exact hP, va_K.moved hW.alike hK9, hD⟩, hS.F ht⟩) hS.2.2 dJ0_indexOf_7cf53_36
  · have h_13 : r_8 = _ := h_13
    replace hEX := hEX.trans (exc1_eq h_13)
    replace hEX := hEX.trans (if_neg (RG_neq (x := r_8) (c := (-1)) (show RG r_8 0 3 from h_11) (by decide +kernel)))
    refine lv_goto (tgt := 36) hx hb dJ0_indexOf_7cf53_20 rfl ?_
    have hK9 := hK.sub (tys' := []) [] rfl
    exact W.iret (v := r_8) hx hb hr (fun t ht hW => ⟨⟨r_8, (), rfl, (Or.inr ⟨h_11, h_12, (hR.trans hEX).symm⟩), by rw [ht]; exact hP, va_K.moved hW.alike hK9, hD⟩, hS.F ht⟩) hS.2.2 dJ0_indexOf_7cf53_36
noncomputable def wf_c_J0_indexOf_0f7a4_3 : List Cond := .code yJ0_indexOf_0f7a4 cJ0_indexOf_0f7a4 2 (some .int) :: ([.methodLink RJ0 633 yJ0_indexOf_7cf53, .instanceMethod yJ0_indexOf_7cf53, .selects RJ0 yJ0_indexOf_7cf53 yJ0_indexOf_7cf53, .initialized RJ0, .code yJ0_indexOf_7cf53 cJ0_indexOf_7cf53 3 (some .int), .methodLink RJ0 492 yJ0_isLatin1_aae02, .instanceMethod yJ0_isLatin1_aae02, .selects RJ0 yJ0_isLatin1_aae02 yJ0_isLatin1_aae02, .code yJ0_isLatin1_aae02 cJ0_isLatin1_aae02 1 (some .boolean), .fieldLink RJ0 38 "java/lang/String" "COMPACT_STRINGS" "Z", .fieldLink RJ0 15 "java/lang/String" "coder" "B", .fieldLink RJ0 9 "java/lang/String" "value" "[B", .methodLink RJ0 505 yJ0_length_8abf5, .instanceMethod yJ0_length_8abf5, .selects RJ0 yJ0_length_8abf5 yJ0_length_8abf5, .code yJ0_length_8abf5 cJ0_length_8abf5 1 (some .int), .methodLink RJ0 335 yJ0_coder_7d493, .instanceMethod yJ0_coder_7d493, .selects RJ0 yJ0_coder_7d493 yJ0_coder_7d493, .code yJ0_coder_7d493 cJ0_coder_7d493 1 (some .byte), .methodLink RJ0 637 yJ1_indexOf_4cfef, .static yJ1_indexOf_4cfef, .initialized RJ1, .code yJ1_indexOf_4cfef cJ1_indexOf_4cfef 4 (some .int), .methodLink RJ1 88 yJ1_canEncode_9a6ad, .static yJ1_canEncode_9a6ad, .code yJ1_canEncode_9a6ad cJ1_canEncode_9a6ad 1 (some .boolean), .methodLink RJ1 92 Lib.Math.max.name, .static Lib.Math.max.name, .initialized "java/lang/Math", .code Lib.Math.max.name Lib.Math.max.code 2 (some .int), .methodLink RJ1 38 Lib.Math.min.name, .static Lib.Math.min.name, .code Lib.Math.min.name Lib.Math.min.code 2 (some .int), .methodLink RJ1 95 yJ1_indexOfChar_4cfef, .static yJ1_indexOfChar_4cfef, .code yJ1_indexOfChar_4cfef cJ1_indexOfChar_4cfef 6 (some .int)])
set_option maxRecDepth 20000 in
theorem gf_c_J0_indexOf_0f7a4_3_c_J0_indexOf_7cf53_3 : GoodIn wf_c_J0_indexOf_0f7a4_3 (wsV RJ0 633 RJ0 yJ0_indexOf_7cf53 wf_c_J0_indexOf_7cf53_3) := goodIn_app (gi_l [1, 2, 3, 4] rfl rfl) (gi_cons (j := 5) rfl rfl (gi_l [6, 7, 8, 4, 9, 10, 11, 12, 13, 14, 15, 16, 17, 18, 19, 20, 21, 22, 23, 24, 25, 26, 27, 28, 29, 30, 31, 32, 33, 34, 35, 36, 37] rfl rfl))
set_option maxHeartbeats 4000000 in
set_option maxRecDepth 100000 in
theorem c_J0_indexOf_0f7a4_3 (l : Launch) (dC : Nat → ClassId) (dI : Nat → Nat → Nat) (sz : Nat) (ts3 : Nat) (p1 : Int32) (tv3 : Nat) (g_p1 : RG p1 0 65535) : Met l yJ0_indexOf_0f7a4 wf_c_J0_indexOf_0f7a4_3 ({ frames := 3, cells := 0, slots := 0, locals := 70 }) (va_Pc [.ref ts3, .int p1] (fun U => U.heap.size = sz ∧ va_P (dC, dI) vwCl [] U.heap ∧ va_K (dC, dI) vwCl [] U ∧ va_D (fun _ => True) [] ∧ va_Z "java/lang/String" "COMPACT_STRINGS" "Z" (.int 1) (va_A [] sz) U U.heap ∧ va_OF "java/lang/String" "coder" "B" (.int 0) ts3 (va_A [] sz) U U.heap ∧ va_O "java/lang/String" ts3 (va_A [] sz) U U.heap ∧ va_OF "java/lang/String" "value" "[B" (.ref tv3) ts3 (va_A [] sz) U U.heap ∧ va_T .byte tv3 4 (fun j => .int ([120, 121, 115, 118].getD j 0)) (va_A [] sz) U U.heap)) (va_Qi (fun (r : Int32) (u : Unit) => (r = (-1) ∧ r = fx_c_J0_indexOf_0f7a4_3 p1) ∨ (RG r 0 3 ∧ RG p1 0 255 ∧ r = fx_c_J0_indexOf_0f7a4_3 p1)) (fun (u : Unit) t => va_P (dC, dI) vwCl [] t.heap ∧ va_K (dC, dI) vwCl [] t ∧ va_D (va_A [] sz) []) (va_A [] sz)) 0 0 (va_A [] sz) := by
  refine Met.ofW (cc := cJ0_indexOf_0f7a4) (maxL := 2) (ret := (some .int)) (by decide +kernel) rfl ?_
  intro p e s m args below meth c s₁ B hml hv
  obtain ⟨rfl, hsz, hP, hK, hD0, hE_10, hE_29, hE_28, hE_30, hE_31⟩ := hv
  have hx := B.exec
  have hb := B.bytes
  have hr := B.returns
  have hts := atoms_spec (ws := wf_c_J0_indexOf_0f7a4_3) B.pre
  have hown : s.vm.findClass RJ0 = some m.cls := findClass_of_methodNamed B.named
  have hlocks := B.notSynchronized
  subst hsz
  have hD := hD0.self (sz := s.heap.size)
  generalize hAe : va_A [] s.heap.size = A at hD hE_10 hE_29 hE_28 hE_30 hE_31 ⊢
  have hA : ∀ q : Nat, s.heap.size ≤ q → A q := fun q h => by rw [← hAe]; exact Or.inr h
  have hP : va_P (dC, dI) vwCl [] s.heap := hP
  have hl := lv_entry ([.ref ts3, .int p1]) (n := 2) (Nat.le_of_ble_eq_true rfl)
  rw [lg_entry_eq]
  generalize (lg_sl ([.ref ts3, .int p1]) ++ List.replicate (2 - (lg_sl ([.ref ts3, .int p1])).length) Slot.unset).toArray = ls at hl ⊢
  have hl : lv_has ls 2 [(0, .ref ts3), (1, .int p1)] := hl
  obtain ⟨H, hHe⟩ : ∃ H : Heap, s.heap = H := ⟨_, rfl⟩
  have hS : va_S A s.heap H [] := by rw [hHe]; exact va_S.rf
  have hP : va_P (dC, dI) vwCl [] H := by rw [← hHe]; exact hP
  rw [hHe]
  obtain ⟨RES, hR⟩ : ∃ z, fx_c_J0_indexOf_0f7a4_3 p1 = z := ⟨_, rfl⟩
  have hEX : RES = fx_c_J0_indexOf_0f7a4_3 p1 := hR.symm
  refine lv_aload_n hx hb dJ0_indexOf_0f7a4_0 rfl (lv_at hl 0 rfl) ?_
  as_aux_lemma =>
  refine lv_iload_n hx hb dJ0_indexOf_0f7a4_1 rfl (lv_at hl 1 rfl) ?_
  refine lv_iconst (v := 0) hx hb dJ0_indexOf_0f7a4_2 kc_iconst_0 ?_
  obtain ⟨hPc, hDc, hFc, hqc⟩ := cl_cut (wc := []) hP hD hS hA [] (by decide +kernel) rfl
  have hKc := hK.sub (tys' := []) [] rfl
  have hrv := bv_Orecv hE_28 hS
  refine va_calli (va_runV (As := [.int p1, .int 0]) (rest := []) ⟨hx, hb, hml, hown, hts⟩ (c_J0_indexOf_7cf53_3 l dC dI H.size ts3 p1 tv3 g_p1) (cwV 2 hts gf_c_J0_indexOf_0f7a4_3_c_J0_indexOf_7cf53_3 rfl rfl rfl mdV_J0_indexOf_7cf53 ⟨Nat.le_of_ble_eq_true rfl, Nat.le_of_ble_eq_true rfl⟩) ⟨fun a U g mk q => by obtain ⟨q0, q1, qP, qK, qD, qE0, qE1, qE2, qE3, qE4⟩ := q; exact ⟨q0, q1, qP, va_K.moved (u := U) (U := U.calling g mk a) (Vm.Alike.refl U.vm) qK, qD, va_Z.moved (u := U) (U := U.calling g mk a) (Vm.Alike.refl U.vm) qE0, va_OF.moved (u := U) (U := U.calling g mk a) (Vm.Alike.refl U.vm) qE1, va_O.moved (u := U) (U := U.calling g mk a) (Vm.Alike.refl U.vm) qE2, va_OF.moved (u := U) (U := U.calling g mk a) (Vm.Alike.refl U.vm) qE3, va_T.moved (u := U) (U := U.calling g mk a) (Vm.Alike.refl U.vm) qE4⟩, hrv, fun U hU hW => ⟨rfl, by rw [hU], by rw [hU]; exact hPc, va_K.moved hW.alike hKc, hDc.weaken (fun _ _ _ _ => trivial), va_Z.moved hW.alike (by rw [hU]; exact (hE_10.kept hS.2.1).narrow hFc), va_OF.moved hW.alike (by rw [hU]; exact (hE_29.kept hS.2.1).narrow hFc), va_O.moved hW.alike (by rw [hU]; exact (hE_28.kept hS.2.1).narrow hFc), va_OF.moved hW.alike (by rw [hU]; exact (hE_30.kept hS.2.1).narrow hFc), va_T.moved hW.alike (by rw [hU]; exact (hE_31.kept hS.2.1).narrow hFc)⟩⟩ rfl rfl hl.1 rfl (lv_room (Nat.le_of_ble_eq_true rfl)) dJ0_indexOf_0f7a4_3 ⟨Nat.le_of_ble_eq_true rfl, Nat.le_of_ble_eq_true rfl⟩) hS (fun q _ h => hFc q h) hFc (fun r_1 u t H1 locs ht hvm hw hB hz1 hk1 hS => ?_)
  obtain ⟨hP1, hK1, hD1⟩ := hB
  rw [ht] at hP1
  have hP := bv_still hP hk1
  generalize H1 = H at hP hS ⊢
  as_aux_lemma =>
  rcases hw with ⟨h_2, h_3⟩ | ⟨h_4, h_5, h_6⟩
  · have h_3 : r_1 = _ := h_3
    replace hEX := hEX.trans (exc1_eq h_3)
    replace hEX := hEX.trans (if_pos (show r_1 = (-1) from h_2))
    rw [h_2]
    have hK9 := hK.sub (tys' := []) [] rfl
    exact W.iret (v := (-1)) hx hb hr (fun t ht hW => ⟨⟨(-1), (), rfl, (Or.inl ⟨rfl, (hR.trans hEX).symm⟩), by rw [ht]; exact hP, va_K.moved hW.alike hK9, hD⟩, hS.F ht⟩) hS.2.2 dJ0_indexOf_0f7a4_6
  · have h_6 : r_1 = _ := h_6
    replace hEX := hEX.trans (exc1_eq h_6)
    replace hEX := hEX.trans (if_neg (RG_neq (x := r_1) (c := (-1)) (show RG r_1 0 3 from h_4) (by decide +kernel)))
    have hK9 := hK.sub (tys' := []) [] rfl
    exact W.iret (v := r_1) hx hb hr (fun t ht hW => ⟨⟨r_1, (), rfl, (Or.inr ⟨h_4, h_5, (hR.trans hEX).symm⟩), by rw [ht]; exact hP, va_K.moved hW.alike hK9, hD⟩, hS.F ht⟩) hS.2.2 dJ0_indexOf_0f7a4_6
noncomputable def wf_c_X0_placeIn_7 : List Cond := .code yX0_placeIn cX0_placeIn 2 (some .int) :: ([.methodLink RX0 128 yJ0_indexOf_0f7a4, .instanceMethod yJ0_indexOf_0f7a4, .selects RJ0 yJ0_indexOf_0f7a4 yJ0_indexOf_0f7a4, .initialized RJ0, .code yJ0_indexOf_0f7a4 cJ0_indexOf_0f7a4 2 (some .int), .methodLink RJ0 633 yJ0_indexOf_7cf53, .instanceMethod yJ0_indexOf_7cf53, .selects RJ0 yJ0_indexOf_7cf53 yJ0_indexOf_7cf53, .code yJ0_indexOf_7cf53 cJ0_indexOf_7cf53 3 (some .int), .methodLink RJ0 492 yJ0_isLatin1_aae02, .instanceMethod yJ0_isLatin1_aae02, .selects RJ0 yJ0_isLatin1_aae02 yJ0_isLatin1_aae02, .code yJ0_isLatin1_aae02 cJ0_isLatin1_aae02 1 (some .boolean), .fieldLink RJ0 38 "java/lang/String" "COMPACT_STRINGS" "Z", .fieldLink RJ0 15 "java/lang/String" "coder" "B", .fieldLink RJ0 9 "java/lang/String" "value" "[B", .methodLink RJ0 505 yJ0_length_8abf5, .instanceMethod yJ0_length_8abf5, .selects RJ0 yJ0_length_8abf5 yJ0_length_8abf5, .code yJ0_length_8abf5 cJ0_length_8abf5 1 (some .int), .methodLink RJ0 335 yJ0_coder_7d493, .instanceMethod yJ0_coder_7d493, .selects RJ0 yJ0_coder_7d493 yJ0_coder_7d493, .code yJ0_coder_7d493 cJ0_coder_7d493 1 (some .byte), .methodLink RJ0 637 yJ1_indexOf_4cfef, .static yJ1_indexOf_4cfef, .initialized RJ1, .code yJ1_indexOf_4cfef cJ1_indexOf_4cfef 4 (some .int), .methodLink RJ1 88 yJ1_canEncode_9a6ad, .static yJ1_canEncode_9a6ad, .code yJ1_canEncode_9a6ad cJ1_canEncode_9a6ad 1 (some .boolean), .methodLink RJ1 92 Lib.Math.max.name, .static Lib.Math.max.name, .initialized "java/lang/Math", .code Lib.Math.max.name Lib.Math.max.code 2 (some .int), .methodLink RJ1 38 Lib.Math.min.name, .static Lib.Math.min.name, .code Lib.Math.min.name Lib.Math.min.code 2 (some .int), .methodLink RJ1 95 yJ1_indexOfChar_4cfef, .static yJ1_indexOfChar_4cfef, .code yJ1_indexOfChar_4cfef cJ1_indexOfChar_4cfef 6 (some .int)])
set_option maxRecDepth 20000 in
theorem gf_c_X0_placeIn_7_c_J0_indexOf_0f7a4_3 : GoodIn wf_c_X0_placeIn_7 (wsV RX0 128 RJ0 yJ0_indexOf_0f7a4 wf_c_J0_indexOf_0f7a4_3) := goodIn_app (gi_l [1, 2, 3, 4] rfl rfl) (gi_cons (j := 5) rfl rfl (gi_l [6, 7, 8, 4, 9, 10, 11, 12, 13, 14, 15, 16, 17, 18, 19, 20, 21, 22, 23, 24, 25, 26, 27, 28, 29, 30, 31, 32, 33, 34, 35, 36, 37, 38, 39, 40, 41] rfl rfl))
set_option maxHeartbeats 4000000 in
set_option maxRecDepth 100000 in
theorem c_X0_placeIn_7 (l : Launch) (dC : Nat → ClassId) (dI : Nat → Nat → Nat) (sz : Nat) (ts3 : Nat) (p1 : Int32) (tv3 : Nat) (g_p1 : RG p1 0 255) : Met l yX0_placeIn wf_c_X0_placeIn_7 ({ frames := 4, cells := 0, slots := 0, locals := 91 }) (va_Pc [.ref ts3, .int p1] (fun U => U.heap.size = sz ∧ va_P (dC, dI) vwCl [] U.heap ∧ va_K (dC, dI) vwCl [] U ∧ va_D (fun _ => True) [] ∧ va_Z "java/lang/String" "COMPACT_STRINGS" "Z" (.int 1) (va_A [] sz) U U.heap ∧ va_OF "java/lang/String" "coder" "B" (.int 0) ts3 (va_A [] sz) U U.heap ∧ va_O "java/lang/String" ts3 (va_A [] sz) U U.heap ∧ va_OF "java/lang/String" "value" "[B" (.ref tv3) ts3 (va_A [] sz) U U.heap ∧ va_T .byte tv3 4 (fun j => .int ([120, 121, 115, 118].getD j 0)) (va_A [] sz) U U.heap)) (va_Qi (fun (r : Int32) (u : Unit) => (r = (-1) ∧ r = fx_c_X0_placeIn_7 p1) ∨ (RG r 0 3 ∧ r = fx_c_X0_placeIn_7 p1)) (fun (u : Unit) t => va_P (dC, dI) vwCl [] t.heap ∧ va_K (dC, dI) vwCl [] t ∧ va_D (va_A [] sz) []) (va_A [] sz)) 0 0 (va_A [] sz) := by
  refine Met.ofW (cc := cX0_placeIn) (maxL := 2) (ret := (some .int)) (by decide +kernel) rfl ?_
  intro p e s m args below meth c s₁ B hml hv
  obtain ⟨rfl, hsz, hP, hK, hD0, hE_10, hE_29, hE_28, hE_30, hE_31⟩ := hv
  have hx := B.exec
  have hb := B.bytes
  have hr := B.returns
  have hts := atoms_spec (ws := wf_c_X0_placeIn_7) B.pre
  have hown : s.vm.findClass RX0 = some m.cls := findClass_of_methodNamed B.named
  have hlocks := B.notSynchronized
  subst hsz
  have hD := hD0.self (sz := s.heap.size)
  generalize hAe : va_A [] s.heap.size = A at hD hE_10 hE_29 hE_28 hE_30 hE_31 ⊢
  have hA : ∀ q : Nat, s.heap.size ≤ q → A q := fun q h => by rw [← hAe]; exact Or.inr h
  have hP : va_P (dC, dI) vwCl [] s.heap := hP
  have hl := lv_entry ([.ref ts3, .int p1]) (n := 2) (Nat.le_of_ble_eq_true rfl)
  rw [lg_entry_eq]
  generalize (lg_sl ([.ref ts3, .int p1]) ++ List.replicate (2 - (lg_sl ([.ref ts3, .int p1])).length) Slot.unset).toArray = ls at hl ⊢
  have hl : lv_has ls 2 [(0, .ref ts3), (1, .int p1)] := hl
  obtain ⟨H, hHe⟩ : ∃ H : Heap, s.heap = H := ⟨_, rfl⟩
  have hS : va_S A s.heap H [] := by rw [hHe]; exact va_S.rf
  have hP : va_P (dC, dI) vwCl [] H := by rw [← hHe]; exact hP
  rw [hHe]
  obtain ⟨RES, hR⟩ : ∃ z, fx_c_X0_placeIn_7 p1 = z := ⟨_, rfl⟩
  have hEX : RES = fx_c_X0_placeIn_7 p1 := hR.symm
  refine lv_iload_n hx hb dX0_placeIn_0 rfl (lv_at hl 1 rfl) ?_
  as_aux_lemma =>
  refine lv_if_ge (tgt := 8) hx hb dX0_placeIn_1 rfl (fun c_1 => ?_) (fun c_1 => ?_)
  · replace hEX := hEX.trans (if_pos c_1)
    refine lv_aload_n hx hb dX0_placeIn_8 rfl (lv_at hl 0 rfl) ?_
    refine lv_iload_n hx hb dX0_placeIn_9 rfl (lv_at hl 1 rfl) ?_
    refine lv_i2c hx hb dX0_placeIn_10 rfl ?_
    refine lv_topi (fun x_2 ex_2 => ?_)
    replace hEX := hEX.trans (exl_eq ex_2)
    have g_3 : RG x_2 0 65535 := RG_i2c ex_2
    obtain ⟨hPc, hDc, hFc, hqc⟩ := cl_cut (wc := []) hP hD hS hA [] (by decide +kernel) rfl
    have hKc := hK.sub (tys' := []) [] rfl
    have hrv := bv_Orecv hE_28 hS
    refine va_calli (va_runV (As := [.int x_2]) (rest := []) ⟨hx, hb, hml, hown, hts⟩ (c_J0_indexOf_0f7a4_3 l dC dI H.size ts3 x_2 tv3 g_3) (cwV 1 hts gf_c_X0_placeIn_7_c_J0_indexOf_0f7a4_3 rfl rfl rfl mdV_J0_indexOf_0f7a4 ⟨Nat.le_of_ble_eq_true rfl, Nat.le_of_ble_eq_true rfl⟩) ⟨fun a U g mk q => by obtain ⟨q0, q1, qP, qK, qD, qE0, qE1, qE2, qE3, qE4⟩ := q; exact ⟨q0, q1, qP, va_K.moved (u := U) (U := U.calling g mk a) (Vm.Alike.refl U.vm) qK, qD, va_Z.moved (u := U) (U := U.calling g mk a) (Vm.Alike.refl U.vm) qE0, va_OF.moved (u := U) (U := U.calling g mk a) (Vm.Alike.refl U.vm) qE1, va_O.moved (u := U) (U := U.calling g mk a) (Vm.Alike.refl U.vm) qE2, va_OF.moved (u := U) (U := U.calling g mk a) (Vm.Alike.refl U.vm) qE3, va_T.moved (u := U) (U := U.calling g mk a) (Vm.Alike.refl U.vm) qE4⟩, hrv, fun U hU hW => ⟨rfl, by rw [hU], by rw [hU]; exact hPc, va_K.moved hW.alike hKc, hDc.weaken (fun _ _ _ _ => trivial), va_Z.moved hW.alike (by rw [hU]; exact (hE_10.kept hS.2.1).narrow hFc), va_OF.moved hW.alike (by rw [hU]; exact (hE_29.kept hS.2.1).narrow hFc), va_O.moved hW.alike (by rw [hU]; exact (hE_28.kept hS.2.1).narrow hFc), va_OF.moved hW.alike (by rw [hU]; exact (hE_30.kept hS.2.1).narrow hFc), va_T.moved hW.alike (by rw [hU]; exact (hE_31.kept hS.2.1).narrow hFc)⟩⟩ rfl rfl hl.1 rfl (lv_room (Nat.le_of_ble_eq_true rfl)) dX0_placeIn_11 ⟨Nat.le_of_ble_eq_true rfl, Nat.le_of_ble_eq_true rfl⟩) hS (fun q _ h => hFc q h) hFc (fun r_4 u t H1 locs ht hvm hw hB hz1 hk1 hS => ?_)
    obtain ⟨hP1, hK1, hD1⟩ := hB
    rw [ht] at hP1
    have hP := bv_still hP hk1
    generalize H1 = H at hP hS ⊢
    as_aux_lemma =>
    rcases hw with ⟨h_5, h_6⟩ | ⟨h_7, h_8, h_9⟩
    · have h_6 : r_4 = _ := h_6
      replace hEX := hEX.trans (exc1_eq h_6)
      replace hEX := hEX.trans (if_pos (show r_4 = (-1) from h_5))
      rw [h_5]
      have hK9 := hK.sub (tys' := []) [] rfl
      exact W.iret (v := (-1)) hx hb hr (fun t ht hW => ⟨⟨(-1), (), rfl, (Or.inl ⟨rfl, (hR.trans hEX).symm⟩), by rw [ht]; exact hP, va_K.moved hW.alike hK9, hD⟩, hS.F ht⟩) hS.2.2 dX0_placeIn_14
    · have h_9 : r_4 = _ := h_9
      replace hEX := hEX.trans (exc1_eq h_9)
      replace hEX := hEX.trans (if_neg (RG_neq (x := r_4) (c := (-1)) (show RG r_4 0 3 from h_7) (by decide +kernel)))
      have hK9 := hK.sub (tys' := []) [] rfl
      exact W.iret (v := r_4) hx hb hr (fun t ht hW => ⟨⟨r_4, (), rfl, (Or.inr ⟨h_7, (hR.trans hEX).symm⟩), by rw [ht]; exact hP, va_K.moved hW.alike hK9, hD⟩, hS.F ht⟩) hS.2.2 dX0_placeIn_14
  · replace hEX := hEX.trans (if_neg c_1)
    have d_10 := Int32.not_le.mp c_1
    have g_11 : RG p1 0 (-1) := RG_lt1 g_p1 (RG_k 0 0 rfl) d_10 (by decide +kernel)
    exact RG_dead (RG_lt1 g_p1 (RG_k 0 0 rfl) d_10 (b' := (-1)) (by decide +kernel)) (by decide +kernel)
noncomputable def wd_c_X0_readClause (a0 : Nat) (a1 : Nat) (a2 : Int32) (a3 : Int32) (a4 : Int32) (a5 : Nat) (a6 : ClassId) (a7 : Nat → Int32) (a8 : Nat) (a9 : Nat) (a10 : Int32) (a11 : Int32) (a12 : Int32) (a13 : Nat) (a14 : ClassId) (a15 : Nat → Int32) : va_W := [(a0, .inr (9, [.ref a1, .int a2, .int a3, .int a4])), (a5, .inl (a6, 240, .inl a7)), (a8, .inr (0, [.ref a9, .int a10, .int a11, .int a12])), (a13, .inl (a14, 80, .inl a15))]
noncomputable def wf_c_X0_readClause : List Cond := List.cons (.code yX0_readClause cX0_readClause 8 none) (@HAppend.hAppend (List Cond) (List Cond) (List Cond) _ (@HAppend.hAppend (List Cond) (List Cond) (List Cond) _ [.methodLink RX0 72 yX9_peek, .instanceMethod yX9_peek, .selects RX9 yX9_peek yX9_peek, .initialized RX9, .code yX9_peek cX9_peek 1 (some .int), .fieldLink RX9 22 "BuoyVote$Tape" "at" "I", .fieldLink RX9 19 "BuoyVote$Tape" "length" "I", .fieldLink RX9 11 "BuoyVote$Tape" "bytes" "[I", .methodLink RX0 75 yX0_placeIn, .static yX0_placeIn, .initialized RX0, .code yX0_placeIn cX0_placeIn 2 (some .int), .methodLink RX0 128 yJ0_indexOf_0f7a4, .instanceMethod yJ0_indexOf_0f7a4, .selects RJ0 yJ0_indexOf_0f7a4 yJ0_indexOf_0f7a4, .initialized RJ0, .code yJ0_indexOf_0f7a4 cJ0_indexOf_0f7a4 2 (some .int), .methodLink RJ0 633 yJ0_indexOf_7cf53, .instanceMethod yJ0_indexOf_7cf53, .selects RJ0 yJ0_indexOf_7cf53 yJ0_indexOf_7cf53, .code yJ0_indexOf_7cf53 cJ0_indexOf_7cf53 3 (some .int), .methodLink RJ0 492 yJ0_isLatin1_aae02, .instanceMethod yJ0_isLatin1_aae02, .selects RJ0 yJ0_isLatin1_aae02 yJ0_isLatin1_aae02, .code yJ0_isLatin1_aae02 cJ0_isLatin1_aae02 1 (some .boolean), .fieldLink RJ0 38 "java/lang/String" "COMPACT_STRINGS" "Z", .fieldLink RJ0 15 "java/lang/String" "coder" "B", .fieldLink RJ0 9 "java/lang/String" "value" "[B", .methodLink RJ0 505 yJ0_length_8abf5, .instanceMethod yJ0_length_8abf5, .selects RJ0 yJ0_length_8abf5 yJ0_length_8abf5, .code yJ0_length_8abf5 cJ0_length_8abf5 1 (some .int), .methodLink RJ0 335 yJ0_coder_7d493, .instanceMethod yJ0_coder_7d493, .selects RJ0 yJ0_coder_7d493 yJ0_coder_7d493, .code yJ0_coder_7d493 cJ0_coder_7d493 1 (some .byte), .methodLink RJ0 637 yJ1_indexOf_4cfef, .static yJ1_indexOf_4cfef, .initialized RJ1, .code yJ1_indexOf_4cfef cJ1_indexOf_4cfef 4 (some .int), .methodLink RJ1 88 yJ1_canEncode_9a6ad, .static yJ1_canEncode_9a6ad, .code yJ1_canEncode_9a6ad cJ1_canEncode_9a6ad 1 (some .boolean), .methodLink RJ1 92 Lib.Math.max.name, .static Lib.Math.max.name, .initialized "java/lang/Math", .code Lib.Math.max.name Lib.Math.max.code 2 (some .int), .methodLink RJ1 38 Lib.Math.min.name, .static Lib.Math.min.name, .code Lib.Math.min.name Lib.Math.min.code 2 (some .int), .methodLink RJ1 95 yJ1_indexOfChar_4cfef, .static yJ1_indexOfChar_4cfef, .code yJ1_indexOfChar_4cfef cJ1_indexOfChar_4cfef 6 (some .int), .methodLink RX0 79 yX0_hasRoomFor, .instanceMethod yX0_hasRoomFor, .selects RX0 yX0_hasRoomFor yX0_hasRoomFor, .code yX0_hasRoomFor cX0_hasRoomFor 2 (some .boolean), .fieldLink RX0 28 "BuoyVote$Borough" "ruled" "Z", .methodLink RX0 85 yX9_skip, .instanceMethod yX9_skip, .selects RX9 yX9_skip yX9_skip, .code yX9_skip cX9_skip 1 none, .methodLink RX0 88 yX0_beginClause, .instanceMethod yX0_beginClause, .selects RX0 yX0_beginClause yX0_beginClause, .code yX0_beginClause cX0_beginClause 3 (some .int), .methodLink RX0 32 yX0_setUsual, .instanceMethod yX0_setUsual, .selects RX0 yX0_setUsual yX0_setUsual, .code yX0_setUsual cX0_setUsual 5 none, .methodLink RX0 92 yX0_lettersOf, .static yX0_lettersOf, .code yX0_lettersOf cX0_lettersOf 1 (some (.object "java/lang/String")), .methodLink RX0 96 yJ0_length_8abf5, .fieldLink RX0 11 "BuoyVote$Borough" "values" "[I", .fieldLink RX0 113 "BuoyVote$Borough" "USUAL" "[I", .fieldLink RX0 103 "BuoyVote$Borough" "FIRST" "[I", .fieldLink RX0 21 "BuoyVote$Borough" "buoys" "I", .fieldLink RX0 25 "BuoyVote$Borough" "boats" "I", .methodLink RX0 82 yX9_refuseHere, .instanceMethod yX9_refuseHere, .selects RX9 yX9_refuseHere yX9_refuseHere, .code yX9_refuseHere cX9_refuseHere 1 none, .methodLink RX9 25 yX9_refuse, .instanceMethod yX9_refuse, .selects RX9 yX9_refuse yX9_refuse, .code yX9_refuse cX9_refuse 2 none, .fieldLink RX9 15 "BuoyVote$Tape" "wrong" "I", .methodLink RX0 52 yX9_isRight, .instanceMethod yX9_isRight, .selects RX9 yX9_isRight yX9_isRight, .code yX9_isRight cX9_isRight 1 (some .boolean), .fieldLink RX0 100 "BuoyVote$Borough" "LOW" "[I", .fieldLink RX0 106 "BuoyVote$Borough" "HIGH" "[I", .methodLink RX0 109 yX9_numberWithin, .instanceMethod yX9_numberWithin, .selects RX9 yX9_numberWithin yX9_numberWithin, .code yX9_numberWithin cX9_numberWithin 4 (some .int), .methodLink RX9 29 yX9_peek, .methodLink RX9 33 yX9_number, .instanceMethod yX9_number, .selects RX9 yX9_number yX9_number, .code yX9_number cX9_number 4 (some .int)] wsX90) wsX00)
theorem iw_c_X0_readClause_X9 : ∀ w ∈ wsX90, w ∈ wf_c_X0_readClause := fun w h => List.mem_cons_of_mem _ (List.mem_append_left _ (List.mem_append_right _ h))
theorem iw_c_X0_readClause_X0 : ∀ w ∈ wsX00, w ∈ wf_c_X0_readClause := fun w h => List.mem_cons_of_mem _ (List.mem_append_right _ h)
set_option maxRecDepth 20000 in
theorem gf_c_X0_readClause_c_X9_refuseHere : GoodIn wf_c_X0_readClause (wsV RX0 82 RX9 yX9_refuseHere wf_c_X9_refuseHere) := goodIn_app (gi_l [80, 81, 82, 4] rfl rfl) (gi_cons (j := 83) rfl rfl (goodIn_app (gi_l [6, 84, 85, 86, 4, 87, 88] rfl rfl) (goodIn_sub iw_c_X0_readClause_X9 gw_X9)))
set_option maxRecDepth 20000 in
theorem gf_c_X0_readClause_c_J0_length_8abf5 : GoodIn wf_c_X0_readClause (wsV RX0 96 RJ0 yJ0_length_8abf5 wf_c_J0_length_8abf5) := goodIn_app (gi_l [74, 30, 31, 16] rfl rfl) (gi_cons (j := 32) rfl rfl (gi_l [28, 33, 34, 35, 16, 36, 26, 27] rfl rfl))
set_option maxRecDepth 20000 in
theorem gf_c_X0_readClause_c_X9_isRight : GoodIn wf_c_X0_readClause (wsV RX0 52 RX9 yX9_isRight wf_c_X9_isRight) := goodIn_app (gi_l [89, 90, 91, 4] rfl rfl) (gi_cons (j := 92) rfl rfl (goodIn_app (gi_l [88] rfl rfl) (goodIn_sub iw_c_X0_readClause_X9 gw_X9)))
set_option maxRecDepth 20000 in
theorem gf_c_X0_readClause_c_X9_peek : GoodIn wf_c_X0_readClause (wsV RX0 72 RX9 yX9_peek wf_c_X9_peek) := goodIn_app (gi_l [1, 2, 3, 4] rfl rfl) (gi_cons (j := 5) rfl rfl (goodIn_app (gi_l [6, 7, 8] rfl rfl) (goodIn_sub iw_c_X0_readClause_X9 gw_X9)))
set_option maxRecDepth 20000 in
theorem gf_c_X0_readClause_c_X0_placeIn_2 : GoodIn wf_c_X0_readClause (va_wsS RX0 75 yX0_placeIn wf_c_X0_placeIn_2) := goodIn_app (gi_l [9, 10, 11] rfl rfl) (gi_cons (j := 12) rfl rfl gi_nil)
set_option maxRecDepth 20000 in
theorem gf_c_X0_readClause_c_X0_placeIn_3 : GoodIn wf_c_X0_readClause (va_wsS RX0 75 yX0_placeIn wf_c_X0_placeIn_3) := goodIn_app (gi_l [9, 10, 11] rfl rfl) (gi_cons (j := 12) rfl rfl (gi_l [13, 14, 15, 16, 17, 18, 19, 20, 21, 22, 23, 24, 25, 26, 27, 28, 29, 30, 31, 32, 33, 34, 35, 36, 37, 38, 39, 40, 41, 42, 43, 44, 45, 46, 47, 48, 49, 50, 51, 52, 53] rfl rfl))
set_option maxRecDepth 20000 in
theorem gf_c_X0_readClause_c_X9_skip : GoodIn wf_c_X0_readClause (wsV RX0 85 RX9 yX9_skip wf_c_X9_skip) := goodIn_app (gi_l [59, 60, 61, 4] rfl rfl) (gi_cons (j := 62) rfl rfl (goodIn_app (gi_l [6] rfl rfl) (goodIn_sub iw_c_X0_readClause_X9 gw_X9)))
set_option maxRecDepth 20000 in
theorem gf_c_X0_readClause_c_X9_numberWithin : GoodIn wf_c_X0_readClause (wsV RX0 109 RX9 yX9_numberWithin wf_c_X9_numberWithin) := goodIn_app (gi_l [95, 96, 97, 4] rfl rfl) (gi_cons (j := 98) rfl rfl (goodIn_app (gi_l [99, 2, 3, 4, 5, 6, 7, 8, 100, 101, 102, 103, 84, 85, 86, 87, 88] rfl rfl) (goodIn_sub iw_c_X0_readClause_X9 gw_X9)))
set_option maxRecDepth 20000 in
theorem gf_c_X0_readClause_c_J0_length_8abf5_2 : GoodIn wf_c_X0_readClause (wsV RX0 96 RJ0 yJ0_length_8abf5 wf_c_J0_length_8abf5_2) := goodIn_app (gi_l [74, 30, 31, 16] rfl rfl) (gi_cons (j := 32) rfl rfl (gi_l [28, 33, 34, 35, 16, 36, 26, 27] rfl rfl))
set_option maxRecDepth 20000 in
theorem gf_c_X0_readClause_c_X0_placeIn_4 : GoodIn wf_c_X0_readClause (va_wsS RX0 75 yX0_placeIn wf_c_X0_placeIn_4) := goodIn_app (gi_l [9, 10, 11] rfl rfl) (gi_cons (j := 12) rfl rfl gi_nil)
set_option maxRecDepth 20000 in
theorem gf_c_X0_readClause_c_X0_placeIn_5 : GoodIn wf_c_X0_readClause (va_wsS RX0 75 yX0_placeIn wf_c_X0_placeIn_5) := goodIn_app (gi_l [9, 10, 11] rfl rfl) (gi_cons (j := 12) rfl rfl (gi_l [13, 14, 15, 16, 17, 18, 19, 20, 21, 22, 23, 24, 25, 26, 27, 28, 29, 30, 31, 32, 33, 34, 35, 36, 37, 38, 39, 40, 41, 42, 43, 44, 45, 46, 47, 48, 49, 50, 51, 52, 53] rfl rfl))
set_option maxRecDepth 20000 in
theorem gf_c_X0_readClause_c_J0_length_8abf5_3 : GoodIn wf_c_X0_readClause (wsV RX0 96 RJ0 yJ0_length_8abf5 wf_c_J0_length_8abf5_3) := goodIn_app (gi_l [74, 30, 31, 16] rfl rfl) (gi_cons (j := 32) rfl rfl (gi_l [28, 33, 34, 35, 16, 36, 26, 27] rfl rfl))
set_option maxRecDepth 20000 in
theorem gf_c_X0_readClause_c_X0_placeIn_6 : GoodIn wf_c_X0_readClause (va_wsS RX0 75 yX0_placeIn wf_c_X0_placeIn_6) := goodIn_app (gi_l [9, 10, 11] rfl rfl) (gi_cons (j := 12) rfl rfl gi_nil)
set_option maxRecDepth 20000 in
theorem gf_c_X0_readClause_c_X0_placeIn_7 : GoodIn wf_c_X0_readClause (va_wsS RX0 75 yX0_placeIn wf_c_X0_placeIn_7) := goodIn_app (gi_l [9, 10, 11] rfl rfl) (gi_cons (j := 12) rfl rfl (gi_l [13, 14, 15, 16, 17, 18, 19, 20, 21, 22, 23, 24, 25, 26, 27, 28, 29, 30, 31, 32, 33, 34, 35, 36, 37, 38, 39, 40, 41, 42, 43, 44, 45, 46, 47, 48, 49, 50, 51, 52, 53] rfl rfl))
set_option maxRecDepth 20000 in
theorem gf_c_X0_readClause_c_X0_placeIn : GoodIn wf_c_X0_readClause (va_wsS RX0 75 yX0_placeIn wf_c_X0_placeIn) := goodIn_app (gi_l [9, 10, 11] rfl rfl) (gi_cons (j := 12) rfl rfl gi_nil)
set_option maxRecDepth 20000 in
theorem gf_c_X0_readClause_c_X0_placeIn_1 : GoodIn wf_c_X0_readClause (va_wsS RX0 75 yX0_placeIn wf_c_X0_placeIn_1) := goodIn_app (gi_l [9, 10, 11] rfl rfl) (gi_cons (j := 12) rfl rfl (gi_l [13, 14, 15, 16, 17, 18, 19, 20, 21, 22, 23, 24, 25, 26, 27, 28, 29, 30, 31, 32, 33, 34, 35, 36, 37, 38, 39, 40, 41, 42, 43, 44, 45, 46, 47, 48, 49, 50, 51, 52, 53] rfl rfl))
set_option maxRecDepth 20000 in
theorem gf_c_X0_readClause_c_X0_hasRoomFor : GoodIn wf_c_X0_readClause (wsV RX0 79 RX0 yX0_hasRoomFor wf_c_X0_hasRoomFor) := goodIn_app (gi_l [54, 55, 56, 11] rfl rfl) (gi_cons (j := 57) rfl rfl (goodIn_app (gi_l [58] rfl rfl) (goodIn_sub iw_c_X0_readClause_X0 gw_X0)))
set_option maxRecDepth 20000 in
theorem gf_c_X0_readClause_c_X0_beginClause : GoodIn wf_c_X0_readClause (wsV RX0 88 RX0 yX0_beginClause wf_c_X0_beginClause) := goodIn_app (gi_l [63, 64, 65, 11] rfl rfl) (gi_cons (j := 66) rfl rfl (goodIn_app (gi_l [58, 67, 68, 69, 11, 70, 71, 72, 73, 74, 30, 31, 16, 32, 28, 33, 34, 35, 36, 26, 27, 75, 76, 77] rfl rfl) (goodIn_sub iw_c_X0_readClause_X0 gw_X0)))
set_option maxRecDepth 20000 in
theorem gf_c_X0_readClause_c_X0_lettersOf : GoodIn wf_c_X0_readClause (va_wsS RX0 92 yX0_lettersOf wf_c_X0_lettersOf) := goodIn_app (gi_l [71, 72, 11] rfl rfl) (gi_cons (j := 73) rfl rfl gi_nil)
set_option maxRecDepth 20000 in
theorem gf_c_X0_readClause_c_X0_hasRoomFor_1 : GoodIn wf_c_X0_readClause (wsV RX0 79 RX0 yX0_hasRoomFor wf_c_X0_hasRoomFor_1) := goodIn_app (gi_l [54, 55, 56, 11] rfl rfl) (gi_cons (j := 57) rfl rfl (goodIn_app (gi_l [78] rfl rfl) (goodIn_sub iw_c_X0_readClause_X0 gw_X0)))
set_option maxRecDepth 20000 in
theorem gf_c_X0_readClause_c_X0_beginClause_1 : GoodIn wf_c_X0_readClause (wsV RX0 88 RX0 yX0_beginClause wf_c_X0_beginClause_1) := goodIn_app (gi_l [63, 64, 65, 11] rfl rfl) (gi_cons (j := 66) rfl rfl (goodIn_app (gi_l [78, 67, 68, 69, 11, 70, 71, 72, 73, 74, 30, 31, 16, 32, 28, 33, 34, 35, 36, 26, 27, 75, 76, 77] rfl rfl) (goodIn_sub iw_c_X0_readClause_X0 gw_X0)))
set_option maxRecDepth 20000 in
theorem gf_c_X0_readClause_c_X0_lettersOf_1 : GoodIn wf_c_X0_readClause (va_wsS RX0 92 yX0_lettersOf wf_c_X0_lettersOf_1) := goodIn_app (gi_l [71, 72, 11] rfl rfl) (gi_cons (j := 73) rfl rfl gi_nil)
set_option maxRecDepth 20000 in
theorem gf_c_X0_readClause_c_X0_hasRoomFor_2 : GoodIn wf_c_X0_readClause (wsV RX0 79 RX0 yX0_hasRoomFor wf_c_X0_hasRoomFor_2) := goodIn_app (gi_l [54, 55, 56, 11] rfl rfl) (gi_cons (j := 57) rfl rfl (goodIn_app (gi_l [79] rfl rfl) (goodIn_sub iw_c_X0_readClause_X0 gw_X0)))
set_option maxRecDepth 20000 in
theorem gf_c_X0_readClause_c_X0_beginClause_2 : GoodIn wf_c_X0_readClause (wsV RX0 88 RX0 yX0_beginClause wf_c_X0_beginClause_2) := goodIn_app (gi_l [63, 64, 65, 11] rfl rfl) (gi_cons (j := 66) rfl rfl (goodIn_app (gi_l [79, 67, 68, 69, 11, 70, 71, 72, 73, 74, 30, 31, 16, 32, 28, 33, 34, 35, 36, 26, 27, 75, 76, 77] rfl rfl) (goodIn_sub iw_c_X0_readClause_X0 gw_X0)))
set_option maxRecDepth 20000 in
theorem gf_c_X0_readClause_c_X0_lettersOf_2 : GoodIn wf_c_X0_readClause (va_wsS RX0 92 yX0_lettersOf wf_c_X0_lettersOf_2) := goodIn_app (gi_l [71, 72, 11] rfl rfl) (gi_cons (j := 73) rfl rfl gi_nil)
set_option maxHeartbeats 4000000 in
set_option maxRecDepth 100000 in
theorem c_X0_readClause (l : Launch) (dC : Nat → ClassId) (dI : Nat → Nat → Nat) (sz : Nat) (h0 : Nat) (h1 : Nat) (h1_0 : Nat) (h1_f1 : Int32) (h1_f2 : Int32) (h1_f3 : Int32) (h1_0k : ClassId) (h1_0c : Nat → Int32) (h0_0 : Nat) (h0_f1 : Int32) (h0_f2 : Int32) (h0_f3 : Int32) (h0_0k : ClassId) (h0_0c : Nat → Int32) (ts0 : Nat) (tv0 : Nat) (ts1 : Nat) (tv1 : Nat) (ta3 : Nat) (ta0 : Nat) (ts2 : Nat) (tv2 : Nat) (ts3 : Nat) (tv3 : Nat) (ta1 : Nat) (ta2 : Nat) (g_h1_f1 : RG h1_f1 0 240) (g_h1_f2 : RG h1_f2 0 240) (g_h1_f3 : RG h1_f3 (-1) 240) (a_h1_0c : AI h1_0c 0 255) (g_h0_f1 : RG h0_f1 0 8) (g_h0_f2 : RG h0_f2 0 3) (g_h0_f3 : RG h0_f3 0 1) (a_h0_0c : AI h0_0c (-1) 99) : Met l yX0_readClause wf_c_X0_readClause ({ frames := 5, cells := 0, slots := 0, locals := 112 }) (va_Pc [.ref h0, .ref h1] (fun U => U.heap.size = sz ∧ va_P (dC, dI) vwCl (wd_c_X0_readClause h1 h1_0 h1_f1 h1_f2 h1_f3 h1_0 h1_0k h1_0c h0 h0_0 h0_f1 h0_f2 h0_f3 h0_0 h0_0k h0_0c) U.heap ∧ va_K (dC, dI) vwCl [(h1_0k, .int), (h0_0k, .int)] U ∧ va_D (fun _ => True) (wd_c_X0_readClause h1 h1_0 h1_f1 h1_f2 h1_f3 h1_0 h1_0k h1_0c h0 h0_0 h0_f1 h0_f2 h0_f3 h0_0 h0_0k h0_0c) ∧ vk_R RX0 70 "sbc" ts0 U ∧ va_Z "java/lang/String" "COMPACT_STRINGS" "Z" (.int 1) (va_A (wd_c_X0_readClause h1 h1_0 h1_f1 h1_f2 h1_f3 h1_0 h1_0k h1_0c h0 h0_0 h0_f1 h0_f2 h0_f3 h0_0 h0_0k h0_0c) sz) U U.heap ∧ va_OF "java/lang/String" "coder" "B" (.int 0) ts0 (va_A (wd_c_X0_readClause h1 h1_0 h1_f1 h1_f2 h1_f3 h1_0 h1_0k h1_0c h0 h0_0 h0_f1 h0_f2 h0_f3 h0_0 h0_0k h0_0c) sz) U U.heap ∧ va_O "java/lang/String" ts0 (va_A (wd_c_X0_readClause h1 h1_0 h1_f1 h1_f2 h1_f3 h1_0 h1_0k h1_0c h0 h0_0 h0_f1 h0_f2 h0_f3 h0_0 h0_0k h0_0c) sz) U U.heap ∧ va_OF "java/lang/String" "value" "[B" (.ref tv0) ts0 (va_A (wd_c_X0_readClause h1 h1_0 h1_f1 h1_f2 h1_f3 h1_0 h1_0k h1_0c h0 h0_0 h0_f1 h0_f2 h0_f3 h0_0 h0_0k h0_0c) sz) U U.heap ∧ va_T .byte tv0 3 (fun j => .int ([115, 98, 99].getD j 0)) (va_A (wd_c_X0_readClause h1 h1_0 h1_f1 h1_f2 h1_f3 h1_0 h1_0k h1_0c h0 h0_0 h0_f1 h0_f2 h0_f3 h0_0 h0_0k h0_0c) sz) U U.heap ∧ vk_R RX0 122 "wdth" ts1 U ∧ va_OF "java/lang/String" "value" "[B" (.ref tv1) ts1 (va_A (wd_c_X0_readClause h1 h1_0 h1_f1 h1_f2 h1_f3 h1_0 h1_0k h1_0c h0 h0_0 h0_f1 h0_f2 h0_f3 h0_0 h0_0k h0_0c) sz) U U.heap ∧ va_T .byte tv1 4 (fun j => .int ([119, 100, 116, 104].getD j 0)) (va_A (wd_c_X0_readClause h1 h1_0 h1_f1 h1_f2 h1_f3 h1_0 h1_0k h1_0c h0 h0_0 h0_f1 h0_f2 h0_f3 h0_0 h0_0k h0_0c) sz) U U.heap ∧ va_OF "java/lang/String" "coder" "B" (.int 0) ts1 (va_A (wd_c_X0_readClause h1 h1_0 h1_f1 h1_f2 h1_f3 h1_0 h1_0k h1_0c h0 h0_0 h0_f1 h0_f2 h0_f3 h0_0 h0_0k h0_0c) sz) U U.heap ∧ va_O "java/lang/String" ts1 (va_A (wd_c_X0_readClause h1 h1_0 h1_f1 h1_f2 h1_f3 h1_0 h1_0k h1_0c h0 h0_0 h0_f1 h0_f2 h0_f3 h0_0 h0_0k h0_0c) sz) U U.heap ∧ va_Z "BuoyVote$Borough" "USUAL" "[I" (.ref ta3) (va_A (wd_c_X0_readClause h1 h1_0 h1_f1 h1_f2 h1_f3 h1_0 h1_0k h1_0c h0 h0_0 h0_f1 h0_f2 h0_f3 h0_0 h0_0k h0_0c) sz) U U.heap ∧ va_Z "BuoyVote$Borough" "FIRST" "[I" (.ref ta0) (va_A (wd_c_X0_readClause h1 h1_0 h1_f1 h1_f2 h1_f3 h1_0 h1_0k h1_0c h0 h0_0 h0_f1 h0_f2 h0_f3 h0_0 h0_0k h0_0c) sz) U U.heap ∧ va_T .int ta0 3 (fun j => .int ([0, 4, 12].getD j 0)) (va_A (wd_c_X0_readClause h1 h1_0 h1_f1 h1_f2 h1_f3 h1_0 h1_0k h1_0c h0 h0_0 h0_f1 h0_f2 h0_f3 h0_0 h0_0k h0_0c) sz) U U.heap ∧ va_T .int ta3 16 (fun j => .int ([2, 0, 6, 8, 0, 0, 3, 0, 0, 0, 3, 2, 0, 0, 2, 3].getD j 0)) (va_A (wd_c_X0_readClause h1 h1_0 h1_f1 h1_f2 h1_f3 h1_0 h1_0k h1_0c h0 h0_0 h0_f1 h0_f2 h0_f3 h0_0 h0_0k h0_0c) sz) U U.heap ∧ vk_R RX0 124 "xycaefor" ts2 U ∧ va_OF "java/lang/String" "value" "[B" (.ref tv2) ts2 (va_A (wd_c_X0_readClause h1 h1_0 h1_f1 h1_f2 h1_f3 h1_0 h1_0k h1_0c h0 h0_0 h0_f1 h0_f2 h0_f3 h0_0 h0_0k h0_0c) sz) U U.heap ∧ va_T .byte tv2 8 (fun j => .int ([120, 121, 99, 97, 101, 102, 111, 114].getD j 0)) (va_A (wd_c_X0_readClause h1 h1_0 h1_f1 h1_f2 h1_f3 h1_0 h1_0k h1_0c h0 h0_0 h0_f1 h0_f2 h0_f3 h0_0 h0_0k h0_0c) sz) U U.heap ∧ va_OF "java/lang/String" "coder" "B" (.int 0) ts2 (va_A (wd_c_X0_readClause h1 h1_0 h1_f1 h1_f2 h1_f3 h1_0 h1_0k h1_0c h0 h0_0 h0_f1 h0_f2 h0_f3 h0_0 h0_0k h0_0c) sz) U U.heap ∧ va_O "java/lang/String" ts2 (va_A (wd_c_X0_readClause h1 h1_0 h1_f1 h1_f2 h1_f3 h1_0 h1_0k h1_0c h0 h0_0 h0_f1 h0_f2 h0_f3 h0_0 h0_0k h0_0c) sz) U U.heap ∧ vk_R RX0 126 "xysv" ts3 U ∧ va_OF "java/lang/String" "value" "[B" (.ref tv3) ts3 (va_A (wd_c_X0_readClause h1 h1_0 h1_f1 h1_f2 h1_f3 h1_0 h1_0k h1_0c h0 h0_0 h0_f1 h0_f2 h0_f3 h0_0 h0_0k h0_0c) sz) U U.heap ∧ va_T .byte tv3 4 (fun j => .int ([120, 121, 115, 118].getD j 0)) (va_A (wd_c_X0_readClause h1 h1_0 h1_f1 h1_f2 h1_f3 h1_0 h1_0k h1_0c h0 h0_0 h0_f1 h0_f2 h0_f3 h0_0 h0_0k h0_0c) sz) U U.heap ∧ va_OF "java/lang/String" "coder" "B" (.int 0) ts3 (va_A (wd_c_X0_readClause h1 h1_0 h1_f1 h1_f2 h1_f3 h1_0 h1_0k h1_0c h0 h0_0 h0_f1 h0_f2 h0_f3 h0_0 h0_0k h0_0c) sz) U U.heap ∧ va_O "java/lang/String" ts3 (va_A (wd_c_X0_readClause h1 h1_0 h1_f1 h1_f2 h1_f3 h1_0 h1_0k h1_0c h0 h0_0 h0_f1 h0_f2 h0_f3 h0_0 h0_0k h0_0c) sz) U U.heap ∧ va_Z "BuoyVote$Borough" "LOW" "[I" (.ref ta1) (va_A (wd_c_X0_readClause h1 h1_0 h1_f1 h1_f2 h1_f3 h1_0 h1_0k h1_0c h0 h0_0 h0_f1 h0_f2 h0_f3 h0_0 h0_0k h0_0c) sz) U U.heap ∧ va_T .int ta1 16 (fun j => .int ([0, 0, 1, 1, 0, 0, 0, 0, 0, 0, 0, 0, 0, 0, 1, 0].getD j 0)) (va_A (wd_c_X0_readClause h1 h1_0 h1_f1 h1_f2 h1_f3 h1_0 h1_0k h1_0c h0 h0_0 h0_f1 h0_f2 h0_f3 h0_0 h0_0k h0_0c) sz) U U.heap ∧ va_Z "BuoyVote$Borough" "HIGH" "[I" (.ref ta2) (va_A (wd_c_X0_readClause h1 h1_0 h1_f1 h1_f2 h1_f3 h1_0 h1_0k h1_0c h0 h0_0 h0_f1 h0_f2 h0_f3 h0_0 h0_0k h0_0c) sz) U U.heap ∧ va_T .int ta2 16 (fun j => .int ([9, 3, 12, 20, 9, 9, 9, 9, 9, 9, 3, 9, 9, 9, 4, 9].getD j 0)) (va_A (wd_c_X0_readClause h1 h1_0 h1_f1 h1_f2 h1_f3 h1_0 h1_0k h1_0c h0 h0_0 h0_f1 h0_f2 h0_f3 h0_0 h0_0k h0_0c) sz) U U.heap)) (va_Qv (fun (u : (Int32) × (Int32) × (Int32) × (Int32) × (Int32) × (Nat → Int32)) => (RG u.1 0 240 ∧ RG u.2.1 (-1) 240 ∧ RG u.2.2.1 0 8 ∧ RG u.2.2.2.1 0 3 ∧ RG u.2.2.2.2.1 0 1 ∧ AI (u.2.2.2.2.2) (-1) 99 ∧ (u.1, u.2.1, u.2.2.1, u.2.2.2.1, u.2.2.2.2.1, u.2.2.2.2.2) = fx_c_X0_readClause h1_f1 h1_f2 h1_f3 h1_0c h0_f1 h0_f2 h0_f3 h0_0c)) (fun (u : (Int32) × (Int32) × (Int32) × (Int32) × (Int32) × (Nat → Int32)) t => va_P (dC, dI) vwCl (wd_c_X0_readClause h1 h1_0 h1_f1 (u.1) (u.2.1) h1_0 h1_0k h1_0c h0 h0_0 (u.2.2.1) (u.2.2.2.1) (u.2.2.2.2.1) h0_0 h0_0k (u.2.2.2.2.2)) t.heap ∧ va_K (dC, dI) vwCl [] t ∧ va_D (va_A (wd_c_X0_readClause h1 h1_0 h1_f1 h1_f2 h1_f3 h1_0 h1_0k h1_0c h0 h0_0 h0_f1 h0_f2 h0_f3 h0_0 h0_0k h0_0c) sz) (wd_c_X0_readClause h1 h1_0 h1_f1 (u.1) (u.2.1) h1_0 h1_0k h1_0c h0 h0_0 (u.2.2.1) (u.2.2.2.1) (u.2.2.2.2.1) h0_0 h0_0k (u.2.2.2.2.2))) (va_A (wd_c_X0_readClause h1 h1_0 h1_f1 h1_f2 h1_f3 h1_0 h1_0k h1_0c h0 h0_0 h0_f1 h0_f2 h0_f3 h0_0 h0_0k h0_0c) sz)) 0 0 (va_A (wd_c_X0_readClause h1 h1_0 h1_f1 h1_f2 h1_f3 h1_0 h1_0k h1_0c h0 h0_0 h0_f1 h0_f2 h0_f3 h0_0 h0_0k h0_0c) sz) := by
  refine Met.ofW (cc := cX0_readClause) (maxL := 8) (ret := none) (by decide +kernel) rfl ?_
  intro p e s m args below meth c s₁ B hml hv
  obtain ⟨rfl, hsz, hP, hK, hD0, hE_12, hE_10, hE_14, hE_13, hE_15, hE_16, hE_17, hE_20, hE_21, hE_19, hE_18, hE_6, hE_0, hE_1, hE_7, hE_22, hE_25, hE_26, hE_24, hE_23, hE_27, hE_30, hE_31, hE_29, hE_28, hE_2, hE_3, hE_4, hE_5⟩ := hv
  have hx := B.exec
  have hb := B.bytes
  have hr := B.returns
  have hts := atoms_spec (ws := wf_c_X0_readClause) B.pre
  have hown : s.vm.findClass RX0 = some m.cls := findClass_of_methodNamed B.named
  have hlocks := B.notSynchronized
  subst hsz
  have hD := hD0.self (sz := s.heap.size)
  generalize hAe : va_A (wd_c_X0_readClause h1 h1_0 h1_f1 h1_f2 h1_f3 h1_0 h1_0k h1_0c h0 h0_0 h0_f1 h0_f2 h0_f3 h0_0 h0_0k h0_0c) s.heap.size = A at hD hE_10 hE_14 hE_13 hE_15 hE_16 hE_20 hE_21 hE_19 hE_18 hE_6 hE_0 hE_1 hE_7 hE_25 hE_26 hE_24 hE_23 hE_30 hE_31 hE_29 hE_28 hE_2 hE_3 hE_4 hE_5 ⊢
  have hA : ∀ q : Nat, s.heap.size ≤ q → A q := fun q h => by rw [← hAe]; exact Or.inr h
  have hP : va_P (dC, dI) vwCl (wd_c_X0_readClause h1 h1_0 h1_f1 h1_f2 h1_f3 h1_0 h1_0k h1_0c h0 h0_0 h0_f1 h0_f2 h0_f3 h0_0 h0_0k h0_0c) s.heap := hP
  have hl := lv_entry ([.ref h0, .ref h1]) (n := 8) (Nat.le_of_ble_eq_true rfl)
  rw [lg_entry_eq]
  generalize (lg_sl ([.ref h0, .ref h1]) ++ List.replicate (8 - (lg_sl ([.ref h0, .ref h1])).length) Slot.unset).toArray = ls at hl ⊢
  have hl : lv_has ls 8 [(0, .ref h0), (1, .ref h1)] := hl
  obtain ⟨H, hHe⟩ : ∃ H : Heap, s.heap = H := ⟨_, rfl⟩
  have hS : va_S A s.heap H [] := by rw [hHe]; exact va_S.rf
  have hP : va_P (dC, dI) vwCl (wd_c_X0_readClause h1 h1_0 h1_f1 h1_f2 h1_f3 h1_0 h1_0k h1_0c h0 h0_0 h0_f1 h0_f2 h0_f3 h0_0 h0_0k h0_0c) H := by rw [← hHe]; exact hP
  rw [hHe]
  obtain ⟨RES, hR⟩ : ∃ z, fx_c_X0_readClause h1_f1 h1_f2 h1_f3 h1_0c h0_f1 h0_f2 h0_f3 h0_0c = z := ⟨_, rfl⟩
  have hEX : RES = fx_c_X0_readClause h1_f1 h1_f2 h1_f3 h1_0c h0_f1 h0_f2 h0_f3 h0_0c := hR.symm
  refine wj (fun G hG hU => ?_)
  as_aux_lemma =>
  have J22 : ∀ (j22_h1_f2 : Int32) (g_h0_f1 : RG h0_f1 0 8) (g_h0_f2 : RG h0_f2 0 3) (g_h0_f3 : RG h0_f3 0 1) (g_h1_f1 : RG h1_f1 0 240) (g_h1_f2 : RG h1_f2 0 240) (g_h1_f3 : RG h1_f3 (-1) 240) (g_j22_h1_f2 : RG j22_h1_f2 0 240) (hEX : RES = fx_c_X0_readClause_p22 h1_f3 h0_f1 h0_f2 h0_f3 h0_0c j22_h1_f2) (H : Heap) (locs : List Loc) (ls : Array Slot) (hP : va_P (dC, dI) vwCl (wd_c_X0_readClause h1 h1_0 h1_f1 j22_h1_f2 h1_f3 h1_0 h1_0k h1_0c h0 h0_0 h0_f1 h0_f2 h0_f3 h0_0 h0_0k h0_0c) H) (hD : va_D A (wd_c_X0_readClause h1 h1_0 h1_f1 j22_h1_f2 h1_f3 h1_0 h1_0k h1_0c h0 h0_0 h0_f1 h0_f2 h0_f3 h0_0 h0_0k h0_0c)) (hS : va_S A s.heap H locs) (hl : lv_has ls 8 [(1, .ref h1)]), G H locs (F0 m 22 ls []) := by
    as_aux_lemma =>
    intro j22_h1_f2 g_h0_f1 g_h0_f2 g_h0_f3 g_h1_f1 g_h1_f2 g_h1_f3 g_j22_h1_f2 hEX H locs ls hP hD hS hl
    refine hG _ _ _ ?_
    refine lv_aload_n hx hb dX0_readClause_22 rfl (lv_at hl 0 rfl) ?_
    obtain ⟨hPc, hDc, hFc, hqc⟩ := cl_cut (wc := (wd_c_X9_refuseHere h1 h1_0 h1_f1 j22_h1_f2 h1_f3)) hP hD hS hA [0] (by decide +kernel) rfl
    have hKc := hK.sub (tys' := []) [] rfl
    have hrv := va_recv hKc hPc (ci := 9) (q0 := 0) rfl rfl
    refine va_callv (va_runV (As := []) (rest := []) ⟨hx, hb, hml, hown, hts⟩ (c_X9_refuseHere l dC dI H.size h1 h1_0 h1_f1 j22_h1_f2 h1_f3 g_h1_f1 g_j22_h1_f2 g_h1_f3) (cwV 0 hts gf_c_X0_readClause_c_X9_refuseHere rfl rfl rfl mdV_X9_refuseHere ⟨Nat.le_of_ble_eq_true rfl, Nat.le_of_ble_eq_true rfl⟩) ⟨fun a U g mk q => by obtain ⟨q0, q1, qP, qK, qD⟩ := q; exact ⟨q0, q1, qP, va_K.moved (u := U) (U := U.calling g mk a) (Vm.Alike.refl U.vm) qK, qD⟩, hrv, fun U hU hW => ⟨rfl, by rw [hU], by rw [hU]; exact hPc, va_K.moved hW.alike hKc, hDc.weaken (fun _ _ _ _ => trivial)⟩⟩ rfl rfl hl.1 rfl (lv_room (Nat.le_of_ble_eq_true rfl)) dX0_readClause_23 ⟨Nat.le_of_ble_eq_true rfl, Nat.le_of_ble_eq_true rfl⟩) hS (fun q _ h => hFc q h) hFc (fun x_2 t H1 locs ht hvm hw hB hz1 hk1 hS => ?_)
    obtain ⟨hP1, hK1, hD1⟩ := hB
    rw [ht] at hP1
    obtain ⟨hP, hD⟩ := cl_put (w1 := (wd_c_X9_refuseHere h1 h1_0 h1_f1 j22_h1_f2 x_2)) (nw := (wd_c_X0_readClause h1 h1_0 h1_f1 j22_h1_f2 x_2 h1_0 h1_0k h1_0c h0 h0_0 h0_f1 h0_f2 h0_f3 h0_0 h0_0k h0_0c)) hP hD [0] [4, 1, 2, 3] 4 rfl hqc (by decide +kernel) rfl hk1 hFc hP1 hD1
    generalize H1 = H at hP hS ⊢
    as_aux_lemma =>
    rcases hw with ⟨h_3, h_4⟩
    have h_4 : x_2 = _ := h_4
    replace hEX := hEX.trans (exc1_eq h_4)
    have hK9 := hK.sub (tys' := []) [] rfl
    exact W.vret hx hb hr (fun t ht hW => ⟨⟨(j22_h1_f2, x_2, h0_f1, h0_f2, h0_f3, h0_0c), rfl, ⟨g_j22_h1_f2, (RG_w h_3 (by decide +kernel)), g_h0_f1, g_h0_f2, g_h0_f3, a_h0_0c, (hR.trans hEX).symm⟩, by rw [ht]; exact hP, va_K.moved hW.alike hK9, hD⟩, hS.F ht⟩) hS.2.2 dX0_readClause_26
  have J49 : ∀ (n49 : Nat) (j49_l6 : Int32) (j49_l5 : Int32) (j49_h1_f2 : Int32) (j49_h1_f3 : Int32) (j49_h0_0c : Nat → Int32) (hM49 : MU j49_l6 < n49) (g_h0_f1 : RG h0_f1 0 8) (g_h0_f2 : RG h0_f2 0 3) (g_h0_f3 : RG h0_f3 0 0) (g_h1_f1 : RG h1_f1 1 240) (g_h1_f2 : RG h1_f2 0 240) (g_h1_f3 : RG h1_f3 (-1) 240) (g_j49_h1_f2 : RG j49_h1_f2 0 240) (g_j49_h1_f3 : RG j49_h1_f3 (-1) 240) (g_j49_l6 : RG j49_l6 0 5) (a_j49_h0_0c : AI j49_h0_0c (-1) 99) (hEX : RES = fx_c_X0_readClause_p49 h1_f1 h1_0c h0_f1 h0_f2 n49 j49_l6 j49_l5 j49_h1_f2 j49_h1_f3 j49_h0_0c) (H : Heap) (locs : List Loc) (ls : Array Slot) (hP : va_P (dC, dI) vwCl (wd_c_X0_readClause h1 h1_0 h1_f1 j49_h1_f2 j49_h1_f3 h1_0 h1_0k h1_0c h0 h0_0 h0_f1 h0_f2 1 h0_0 h0_0k j49_h0_0c) H) (hD : va_D A (wd_c_X0_readClause h1 h1_0 h1_f1 j49_h1_f2 j49_h1_f3 h1_0 h1_0k h1_0c h0 h0_0 h0_f1 h0_f2 1 h0_0 h0_0k j49_h0_0c)) (hS : va_S A s.heap H locs) (hl : lv_has ls 8 [(6, .int j49_l6), (5, .int j49_l5), (4, .ref ts1), (3, .int 0), (2, .int 0), (0, .ref h0), (1, .ref h1)]), G H locs (F0 m 49 ls []) := by
    as_aux_lemma =>
    intro n49
    induction n49 with
    | zero => intros; exact absurd (by assumption) (Nat.not_lt_zero _)
    | succ n49 ih49 =>
      intro j49_l6 j49_l5 j49_h1_f2 j49_h1_f3 j49_h0_0c hM49 g_h0_f1 g_h0_f2 g_h0_f3 g_h1_f1 g_h1_f2 g_h1_f3 g_j49_h1_f2 g_j49_h1_f3 g_j49_l6 a_j49_h0_0c hEX H locs ls hP hD hS hl
      refine hG _ _ _ ?_
      replace hEX := hEX.trans (if_pos (rfl : j49_l6 = j49_l6))
      refine lv_iload hx hb dX0_readClause_49 (lv_at hl 0 rfl) ?_
      refine lv_aload hx hb dX0_readClause_51 (lv_at hl 2 rfl) ?_
      obtain ⟨hPc, hDc, hFc, hqc⟩ := cl_cut (wc := []) hP hD hS hA [] (by decide +kernel) rfl
      have hKc := hK.sub (tys' := []) [] rfl
      have hrv := bv_Orecv hE_18 hS
      refine va_calli (va_runV (As := []) (rest := [.int j49_l6]) ⟨hx, hb, hml, hown, hts⟩ (c_J0_length_8abf5 l dC dI H.size ts1 tv1) (cwV 0 hts gf_c_X0_readClause_c_J0_length_8abf5 rfl rfl rfl mdV_J0_length_8abf5 ⟨Nat.le_of_ble_eq_true rfl, Nat.le_of_ble_eq_true rfl⟩) ⟨fun a U g mk q => by obtain ⟨q0, q1, qP, qK, qD, qE0, qE1, qE2, qE3, qE4⟩ := q; exact ⟨q0, q1, qP, va_K.moved (u := U) (U := U.calling g mk a) (Vm.Alike.refl U.vm) qK, qD, va_OF.moved (u := U) (U := U.calling g mk a) (Vm.Alike.refl U.vm) qE0, va_T.moved (u := U) (U := U.calling g mk a) (Vm.Alike.refl U.vm) qE1, va_Z.moved (u := U) (U := U.calling g mk a) (Vm.Alike.refl U.vm) qE2, va_OF.moved (u := U) (U := U.calling g mk a) (Vm.Alike.refl U.vm) qE3, va_O.moved (u := U) (U := U.calling g mk a) (Vm.Alike.refl U.vm) qE4⟩, hrv, fun U hU hW => ⟨rfl, by rw [hU], by rw [hU]; exact hPc, va_K.moved hW.alike hKc, hDc.weaken (fun _ _ _ _ => trivial), va_OF.moved hW.alike (by rw [hU]; exact (hE_20.kept hS.2.1).narrow hFc), va_T.moved hW.alike (by rw [hU]; exact (hE_21.kept hS.2.1).narrow hFc), va_Z.moved hW.alike (by rw [hU]; exact (hE_10.kept hS.2.1).narrow hFc), va_OF.moved hW.alike (by rw [hU]; exact (hE_19.kept hS.2.1).narrow hFc), va_O.moved hW.alike (by rw [hU]; exact (hE_18.kept hS.2.1).narrow hFc)⟩⟩ rfl rfl hl.1 rfl (lv_room (Nat.le_of_ble_eq_true rfl)) dX0_readClause_53 ⟨Nat.le_of_ble_eq_true rfl, Nat.le_of_ble_eq_true rfl⟩) hS (fun q _ h => hFc q h) hFc (fun r_5 u t H1 locs ht hvm hw hB hz1 hk1 hS => ?_)
      obtain ⟨hP1, hK1, hD1⟩ := hB
      rw [ht] at hP1
      have hP := bv_still hP hk1
      generalize H1 = H at hP hS ⊢
      as_aux_lemma =>
      rcases hw with ⟨h_6, h_7⟩
      have h_7 : r_5 = _ := h_7
      replace hEX := hEX.trans (exc1_eq h_7)
      rw [h_6]
      refine lv_icmp_gt (tgt := 154) hx hb dX0_readClause_56 rfl (fun c_8 => ?_) (fun c_8 => ?_)
      · replace hEX := hEX.trans (if_pos c_8)
        have g_9 : RG j49_l6 5 5 := RG_lt2 (RG_k 4 4 rfl) g_j49_l6 c_8 (by decide +kernel)
        have hK9 := hK.sub (tys' := []) [] rfl
        exact W.vret hx hb hr (fun t ht hW => ⟨⟨(j49_h1_f2, j49_h1_f3, h0_f1, h0_f2, 1, j49_h0_0c), rfl, ⟨g_j49_h1_f2, g_j49_h1_f3, g_h0_f1, g_h0_f2, (RG_w (RG_k 1 1 rfl) (by decide +kernel)), a_j49_h0_0c, (hR.trans hEX).symm⟩, by rw [ht]; exact hP, va_K.moved hW.alike hK9, hD⟩, hS.F ht⟩) hS.2.2 dX0_readClause_154
      · replace hEX := hEX.trans (if_neg c_8)
        have d_10 := Int32.not_lt.mp c_8
        have g_11 : RG j49_l6 0 4 := RG_le1 g_j49_l6 (RG_k 4 4 rfl) d_10 (by decide +kernel)
        refine lv_aload_n hx hb dX0_readClause_59 rfl (lv_at hl 6 rfl) ?_
        obtain ⟨hPc, hDc, hFc, hqc⟩ := cl_cut (wc := (wd_c_X9_isRight h1 h1_0 h1_f1 j49_h1_f2 j49_h1_f3)) hP hD hS hA [0] (by decide +kernel) rfl
        have hKc := hK.sub (tys' := []) [] rfl
        have hrv := va_recv hKc hPc (ci := 9) (q0 := 0) rfl rfl
        refine va_calli (va_runV (As := []) (rest := []) ⟨hx, hb, hml, hown, hts⟩ (c_X9_isRight l dC dI H.size h1 h1_0 h1_f1 j49_h1_f2 j49_h1_f3 (RG_w g_h1_f1 (by decide +kernel)) g_j49_h1_f2 g_j49_h1_f3) (cwV 0 hts gf_c_X0_readClause_c_X9_isRight rfl rfl rfl mdV_X9_isRight ⟨Nat.le_of_ble_eq_true rfl, Nat.le_of_ble_eq_true rfl⟩) ⟨fun a U g mk q => by obtain ⟨q0, q1, qP, qK, qD⟩ := q; exact ⟨q0, q1, qP, va_K.moved (u := U) (U := U.calling g mk a) (Vm.Alike.refl U.vm) qK, qD⟩, hrv, fun U hU hW => ⟨rfl, by rw [hU], by rw [hU]; exact hPc, va_K.moved hW.alike hKc, hDc.weaken (fun _ _ _ _ => trivial)⟩⟩ rfl rfl hl.1 rfl (lv_room (Nat.le_of_ble_eq_true rfl)) dX0_readClause_60 ⟨Nat.le_of_ble_eq_true rfl, Nat.le_of_ble_eq_true rfl⟩) hS (fun q _ h => hFc q h) hFc (fun r_12 u t H1 locs ht hvm hw hB hz1 hk1 hS => ?_)
        as_aux_lemma =>
        obtain ⟨hP1, hK1, hD1⟩ := hB
        rw [ht] at hP1
        obtain ⟨hP, hD⟩ := cl_put (w1 := (wd_c_X9_isRight h1 h1_0 h1_f1 j49_h1_f2 j49_h1_f3)) (nw := (wd_c_X0_readClause h1 h1_0 h1_f1 j49_h1_f2 j49_h1_f3 h1_0 h1_0k h1_0c h0 h0_0 h0_f1 h0_f2 1 h0_0 h0_0k j49_h0_0c)) hP hD [0] [4, 1, 2, 3] 4 rfl hqc (by decide +kernel) rfl hk1 hFc hP1 hD1
        generalize H1 = H at hP hS ⊢
        as_aux_lemma =>
        rcases hw with ⟨h_13, h_14, h_15⟩ | ⟨h_16, h_17, h_18⟩
        · have h_15 : r_12 = _ := h_15
          replace hEX := hEX.trans (exc1_eq h_15)
          replace hEX := hEX.trans (if_pos (show r_12 = 0 from h_13))
          rw [h_13]
          refine lv_if_eq (tgt := 154) hx hb dX0_readClause_63 rfl (fun c_19 => ?_) (fun c_19 => absurd c_19 (by decide +kernel))
          have hK9 := hK.sub (tys' := []) [] rfl
          exact W.vret hx hb hr (fun t ht hW => ⟨⟨(j49_h1_f2, j49_h1_f3, h0_f1, h0_f2, 1, j49_h0_0c), rfl, ⟨g_j49_h1_f2, (RG_w h_14 (by decide +kernel)), g_h0_f1, g_h0_f2, (RG_w (RG_k 1 1 rfl) (by decide +kernel)), a_j49_h0_0c, (hR.trans hEX).symm⟩, by rw [ht]; exact hP, va_K.moved hW.alike hK9, hD⟩, hS.F ht⟩) hS.2.2 dX0_readClause_154
        · have h_18 : r_12 = _ := h_18
          replace hEX := hEX.trans (exc1_eq h_18)
          replace hEX := hEX.trans (if_neg (fun q9 : r_12 = 0 => absurd ((show r_12 = 1 from h_16).symm.trans q9) (by decide +kernel)))
          rw [h_16]
          refine lv_if_eq (tgt := 154) hx hb dX0_readClause_63 rfl (fun c_20 => absurd c_20 (by decide +kernel)) (fun c_20 => ?_)
          refine lv_aload hx hb dX0_readClause_66 (lv_at hl 2 rfl) ?_
          as_aux_lemma =>
          refine lv_aload_n hx hb dX0_readClause_68 rfl (lv_at hl 6 rfl) ?_
          obtain ⟨hPc, hDc, hFc, hqc⟩ := cl_cut (wc := (wd_c_X9_peek h1 h1_0 h1_f1 j49_h1_f2 j49_h1_f3 h1_0 h1_0k h1_0c)) hP hD hS hA [0, 1] (by decide +kernel) rfl
          have hKc := hK.sub (tys' := [(h1_0k, .int)]) [0] rfl
          have hrv := va_recv hKc hPc (ci := 9) (q0 := 0) rfl rfl
          refine va_calli (va_runV (As := []) (rest := [.ref ts1]) ⟨hx, hb, hml, hown, hts⟩ (c_X9_peek l dC dI H.size h1 h1_0 h1_f1 j49_h1_f2 j49_h1_f3 h1_0k h1_0c (RG_w g_h1_f1 (by decide +kernel)) g_j49_h1_f2 (RG_w h_17 (by decide +kernel)) a_h1_0c) (cwV 0 hts gf_c_X0_readClause_c_X9_peek rfl rfl rfl mdV_X9_peek ⟨Nat.le_of_ble_eq_true rfl, Nat.le_of_ble_eq_true rfl⟩) ⟨fun a U g mk q => by obtain ⟨q0, q1, qP, qK, qD⟩ := q; exact ⟨q0, q1, qP, va_K.moved (u := U) (U := U.calling g mk a) (Vm.Alike.refl U.vm) qK, qD⟩, hrv, fun U hU hW => ⟨rfl, by rw [hU], by rw [hU]; exact hPc, va_K.moved hW.alike hKc, hDc.weaken (fun _ _ _ _ => trivial)⟩⟩ rfl rfl hl.1 rfl (lv_room (Nat.le_of_ble_eq_true rfl)) dX0_readClause_69 ⟨Nat.le_of_ble_eq_true rfl, Nat.le_of_ble_eq_true rfl⟩) hS (fun q _ h => hFc q h) hFc (fun r_21 x_22 t H1 locs ht hvm hw hB hz1 hk1 hS => ?_)
          obtain ⟨hP1, hK1, hD1⟩ := hB
          rw [ht] at hP1
          obtain ⟨hP, hD⟩ := cl_put (w1 := (wd_c_X9_peek h1 h1_0 h1_f1 x_22 j49_h1_f3 h1_0 h1_0k h1_0c)) (nw := (wd_c_X0_readClause h1 h1_0 h1_f1 x_22 j49_h1_f3 h1_0 h1_0k h1_0c h0 h0_0 h0_f1 h0_f2 1 h0_0 h0_0k j49_h0_0c)) hP hD [0, 1] [4, 5, 2, 3] 4 rfl hqc (by decide +kernel) rfl hk1 hFc hP1 hD1
          generalize H1 = H at hP hS ⊢
          as_aux_lemma =>
          rcases hw with ⟨h_23, h_24, h_25, h_26⟩ | ⟨h_27, h_28, h_29, h_30, h_31⟩
          · have h_26 : (r_21, x_22) = _ := h_26
            replace hEX := hEX.trans (exc2_eq h_26)
            replace hEX := hEX.trans (if_pos (show r_21 = (-1) from h_23))
            rw [h_23]
            obtain ⟨hPc, hDc, hFc, hqc⟩ := cl_cut (wc := []) hP hD hS hA [] (by decide +kernel) rfl
            have hKc := hK.sub (tys' := []) [] rfl
            refine va_calli (va_runS (As := [.ref ts1, .int (-1)]) (rest := []) ⟨hx, hb, hml, hown, hts⟩ (c_X0_placeIn_2 l dC dI H.size ts1 (-1) (RG_k (-1) (-1) rfl)) (va_cwS 2 hts gf_c_X0_readClause_c_X0_placeIn_2 rfl rfl rfl md_X0_placeIn ⟨Nat.le_of_ble_eq_true rfl, Nat.le_of_ble_eq_true rfl⟩) ⟨fun a U g mk q => by obtain ⟨q0, q1, qP, qK, qD⟩ := q; exact ⟨q0, q1, qP, va_K.moved (u := U) (U := U.calling g mk a) (Vm.Alike.refl U.vm) qK, qD⟩, fun U hU hW => ⟨rfl, by rw [hU], by rw [hU]; exact hPc, va_K.moved hW.alike hKc, hDc.weaken (fun _ _ _ _ => trivial)⟩⟩ rfl rfl hl.1 rfl (lv_room (Nat.le_of_ble_eq_true rfl)) dX0_readClause_72 ⟨Nat.le_of_ble_eq_true rfl, Nat.le_of_ble_eq_true rfl⟩) hS (fun q _ h => hFc q h) hFc (fun r_32 u t H1 locs ht hvm hw hB hz1 hk1 hS => ?_)
            obtain ⟨hP1, hK1, hD1⟩ := hB
            rw [ht] at hP1
            have hP := bv_still hP hk1
            generalize H1 = H at hP hS ⊢
            as_aux_lemma =>
            rcases hw with ⟨h_33, h_34⟩
            have h_34 : r_32 = _ := h_34
            replace hEX := hEX.trans (exc1_eq h_34)
            rw [h_33]
            refine lv_istore (lv' := [(7, .int (-1)), (6, .int j49_l6), (5, .int j49_l5), (4, .ref ts1), (3, .int 0), (2, .int 0), (0, .ref h0), (1, .ref h1)]) hx hb dX0_readClause_75 hl (Nat.le_of_ble_eq_true rfl) rfl (fun ls hl => ?_)
            refine lv_iload hx hb dX0_readClause_77 (lv_at hl 0 rfl) ?_
            refine lv_if_ge (tgt := 83) hx hb dX0_readClause_79 rfl (fun c_35 => absurd c_35 (by decide +kernel)) (fun c_35 => ?_)
            have hK9 := hK.sub (tys' := []) [] rfl
            exact W.vret hx hb hr (fun t ht hW => ⟨⟨(x_22, j49_h1_f3, h0_f1, h0_f2, 1, j49_h0_0c), rfl, ⟨h_24, (RG_w h_17 (by decide +kernel)), g_h0_f1, g_h0_f2, (RG_w (RG_k 1 1 rfl) (by decide +kernel)), a_j49_h0_0c, (hR.trans hEX).symm⟩, by rw [ht]; exact hP, va_K.moved hW.alike hK9, hD⟩, hS.F ht⟩) hS.2.2 dX0_readClause_82
          · have h_31 : (r_21, x_22) = _ := h_31
            replace hEX := hEX.trans (exc2_eq h_31)
            replace hEX := hEX.trans (if_neg (RG_neq (x := r_21) (c := (-1)) (show RG r_21 0 255 from h_27) (by decide +kernel)))
            obtain ⟨hPc, hDc, hFc, hqc⟩ := cl_cut (wc := []) hP hD hS hA [] (by decide +kernel) rfl
            have hKc := hK.sub (tys' := []) [] rfl
            refine va_calli (va_runS (As := [.ref ts1, .int r_21]) (rest := []) ⟨hx, hb, hml, hown, hts⟩ (c_X0_placeIn_3 l dC dI H.size ts1 r_21 tv1 h_27) (va_cwS 2 hts gf_c_X0_readClause_c_X0_placeIn_3 rfl rfl rfl md_X0_placeIn ⟨Nat.le_of_ble_eq_true rfl, Nat.le_of_ble_eq_true rfl⟩) ⟨fun a U g mk q => by obtain ⟨q0, q1, qP, qK, qD, qE0, qE1, qE2, qE3, qE4⟩ := q; exact ⟨q0, q1, qP, va_K.moved (u := U) (U := U.calling g mk a) (Vm.Alike.refl U.vm) qK, qD, va_Z.moved (u := U) (U := U.calling g mk a) (Vm.Alike.refl U.vm) qE0, va_OF.moved (u := U) (U := U.calling g mk a) (Vm.Alike.refl U.vm) qE1, va_O.moved (u := U) (U := U.calling g mk a) (Vm.Alike.refl U.vm) qE2, va_OF.moved (u := U) (U := U.calling g mk a) (Vm.Alike.refl U.vm) qE3, va_T.moved (u := U) (U := U.calling g mk a) (Vm.Alike.refl U.vm) qE4⟩, fun U hU hW => ⟨rfl, by rw [hU], by rw [hU]; exact hPc, va_K.moved hW.alike hKc, hDc.weaken (fun _ _ _ _ => trivial), va_Z.moved hW.alike (by rw [hU]; exact (hE_10.kept hS.2.1).narrow hFc), va_OF.moved hW.alike (by rw [hU]; exact (hE_19.kept hS.2.1).narrow hFc), va_O.moved hW.alike (by rw [hU]; exact (hE_18.kept hS.2.1).narrow hFc), va_OF.moved hW.alike (by rw [hU]; exact (hE_20.kept hS.2.1).narrow hFc), va_T.moved hW.alike (by rw [hU]; exact (hE_21.kept hS.2.1).narrow hFc)⟩⟩ rfl rfl hl.1 rfl (lv_room (Nat.le_of_ble_eq_true rfl)) dX0_readClause_72 ⟨Nat.le_of_ble_eq_true rfl, Nat.le_of_ble_eq_true rfl⟩) hS (fun q _ h => hFc q h) hFc (fun r_36 u t H1 locs ht hvm hw hB hz1 hk1 hS => ?_)
            as_aux_lemma =>
            obtain ⟨hP1, hK1, hD1⟩ := hB
            rw [ht] at hP1
            have hP := bv_still hP hk1
            generalize H1 = H at hP hS ⊢
            as_aux_lemma =>
            rcases hw with ⟨h_37, h_38⟩ | ⟨h_39, h_40⟩
            · have h_38 : r_36 = _ := h_38
              replace hEX := hEX.trans (exc1_eq h_38)
              replace hEX := hEX.trans (if_pos (show r_36 = (-1) from h_37))
              rw [h_37]
              refine lv_istore (lv' := [(7, .int (-1)), (6, .int j49_l6), (5, .int j49_l5), (4, .ref ts1), (3, .int 0), (2, .int 0), (0, .ref h0), (1, .ref h1)]) hx hb dX0_readClause_75 hl (Nat.le_of_ble_eq_true rfl) rfl (fun ls hl => ?_)
              refine lv_iload hx hb dX0_readClause_77 (lv_at hl 0 rfl) ?_
              refine lv_if_ge (tgt := 83) hx hb dX0_readClause_79 rfl (fun c_41 => absurd c_41 (by decide +kernel)) (fun c_41 => ?_)
              have hK9 := hK.sub (tys' := []) [] rfl
              exact W.vret hx hb hr (fun t ht hW => ⟨⟨(x_22, j49_h1_f3, h0_f1, h0_f2, 1, j49_h0_0c), rfl, ⟨(RG_w h_28 (by decide +kernel)), (RG_w h_17 (by decide +kernel)), g_h0_f1, g_h0_f2, (RG_w (RG_k 1 1 rfl) (by decide +kernel)), a_j49_h0_0c, (hR.trans hEX).symm⟩, by rw [ht]; exact hP, va_K.moved hW.alike hK9, hD⟩, hS.F ht⟩) hS.2.2 dX0_readClause_82
            · have h_40 : r_36 = _ := h_40
              replace hEX := hEX.trans (exc1_eq h_40)
              replace hEX := hEX.trans (if_neg (RG_neq (x := r_36) (c := (-1)) (show RG r_36 0 3 from h_39) (by decide +kernel)))
              refine lv_istore (lv' := [(7, .int r_36), (6, .int j49_l6), (5, .int j49_l5), (4, .ref ts1), (3, .int 0), (2, .int 0), (0, .ref h0), (1, .ref h1)]) hx hb dX0_readClause_75 hl (Nat.le_of_ble_eq_true rfl) rfl (fun ls hl => ?_)
              as_aux_lemma =>
              refine lv_iload hx hb dX0_readClause_77 (lv_at hl 0 rfl) ?_
              refine lv_if_ge (tgt := 83) hx hb dX0_readClause_79 rfl (fun c_42 => ?_) (fun c_42 => ?_)
              · replace hEX := hEX.trans (if_pos c_42)
                refine lv_iload hx hb dX0_readClause_83 (lv_at hl 2 rfl) ?_
                refine lv_iload hx hb dX0_readClause_85 (lv_at hl 0 rfl) ?_
                refine lv_ishr hx hb dX0_readClause_87 ?_
                refine lv_topi (fun x_43 ex_43 => ?_)
                replace hEX := hEX.trans (exl_eq ex_43)
                refine lv_iconst (v := 1) hx hb dX0_readClause_88 kc_iconst_1 ?_
                refine lv_iand hx hb dX0_readClause_89 ?_
                refine lv_topi (fun x_44 ex_44 => ?_)
                replace hEX := hEX.trans (exl_eq ex_44)
                have g_45 : RG x_44 0 1 := RG_andr ex_44 (RG_k 1 1 rfl) (by decide +kernel)
                refine lv_if_eq (tgt := 98) hx hb dX0_readClause_90 rfl (fun c_46 => ?_) (fun c_46 => ?_)
                · replace hEX := hEX.trans (if_pos c_46)
                  have g_47 : RG x_44 0 0 := RG_eq1 g_45 (RG_k 0 0 rfl) c_46 (by decide +kernel)
                  refine lv_iload hx hb dX0_readClause_98 (lv_at hl 2 rfl) ?_
                  as_aux_lemma =>
                  refine lv_iconst (v := 1) hx hb dX0_readClause_100 kc_iconst_1 ?_
                  refine lv_iload hx hb dX0_readClause_101 (lv_at hl 0 rfl) ?_
                  refine lv_ishl hx hb dX0_readClause_103 ?_
                  refine lv_topi (fun x_48 ex_48 => ?_)
                  replace hEX := hEX.trans (exl_eq ex_48)
                  have g_49 : RG x_48 1 8 := RG_shl1 ex_48 h_39 (by decide +kernel)
                  refine lv_ior hx hb dX0_readClause_104 ?_
                  refine lv_topi (fun x_50 ex_50 => ?_)
                  replace hEX := hEX.trans (exl_eq ex_50)
                  refine lv_istore (lv' := [(5, .int x_50), (7, .int r_36), (6, .int j49_l6), (4, .ref ts1), (3, .int 0), (2, .int 0), (0, .ref h0), (1, .ref h1)]) hx hb dX0_readClause_105 hl (Nat.le_of_ble_eq_true rfl) rfl (fun ls hl => ?_)
                  refine lv_aload_n hx hb dX0_readClause_107 rfl (lv_at hl 7 rfl) ?_
                  obtain ⟨hPc, hDc, hFc, hqc⟩ := cl_cut (wc := (wd_c_X9_skip h1 h1_0 h1_f1 x_22 j49_h1_f3)) hP hD hS hA [0] (by decide +kernel) rfl
                  have hKc := hK.sub (tys' := []) [] rfl
                  have hrv := va_recv hKc hPc (ci := 9) (q0 := 0) rfl rfl
                  refine va_callv (va_runV (As := []) (rest := []) ⟨hx, hb, hml, hown, hts⟩ (c_X9_skip l dC dI H.size h1 h1_0 h1_f1 x_22 j49_h1_f3 (RG_w g_h1_f1 (by decide +kernel)) h_28 (RG_w h_17 (by decide +kernel))) (cwV 0 hts gf_c_X0_readClause_c_X9_skip rfl rfl rfl mdV_X9_skip ⟨Nat.le_of_ble_eq_true rfl, Nat.le_of_ble_eq_true rfl⟩) ⟨fun a U g mk q => by obtain ⟨q0, q1, qP, qK, qD⟩ := q; exact ⟨q0, q1, qP, va_K.moved (u := U) (U := U.calling g mk a) (Vm.Alike.refl U.vm) qK, qD⟩, hrv, fun U hU hW => ⟨rfl, by rw [hU], by rw [hU]; exact hPc, va_K.moved hW.alike hKc, hDc.weaken (fun _ _ _ _ => trivial)⟩⟩ rfl rfl hl.1 rfl (lv_room (Nat.le_of_ble_eq_true rfl)) dX0_readClause_108 ⟨Nat.le_of_ble_eq_true rfl, Nat.le_of_ble_eq_true rfl⟩) hS (fun q _ h => hFc q h) hFc (fun x_52 t H1 locs ht hvm hw hB hz1 hk1 hS => ?_)
                  as_aux_lemma =>
                  obtain ⟨hP1, hK1, hD1⟩ := hB
                  rw [ht] at hP1
                  obtain ⟨hP, hD⟩ := cl_put (w1 := (wd_c_X9_skip h1 h1_0 h1_f1 x_52 j49_h1_f3)) (nw := (wd_c_X0_readClause h1 h1_0 h1_f1 x_52 j49_h1_f3 h1_0 h1_0k h1_0c h0 h0_0 h0_f1 h0_f2 1 h0_0 h0_0k j49_h0_0c)) hP hD [0] [4, 1, 2, 3] 4 rfl hqc (by decide +kernel) rfl hk1 hFc hP1 hD1
                  generalize H1 = H at hP hS ⊢
                  as_aux_lemma =>
                  rcases hw with ⟨h_53, h_54, h_55, h_56⟩
                  have h_56 : x_52 = _ := h_56
                  replace hEX := hEX.trans (exc1_eq h_56)
                  refine lv_aload_n hx hb dX0_readClause_111 rfl (lv_at hl 6 rfl) ?_
                  refine va_get (D := (dC, dI)) (ci := 0) (v := .ref h0_0) (C := RX0) (T := TX0) (N := 4) hx hb hts iw_c_X0_readClause_X0 hown hK hP 2 rfl rfl 0 (by decide +kernel) (hts (.fieldLink RX0 11 "BuoyVote$Borough" "values" "[I") (List.mem_of_getElem? (i := 75) rfl)) (fun _ h9 => h9) rfl dX0_readClause_112 ?_
                  refine lv_iload_n hx hb dX0_readClause_115 rfl (lv_at hl 4 rfl) ?_
                  refine lv_iload hx hb dX0_readClause_116 (lv_at hl 1 rfl) ?_
                  refine lv_iadd hx hb dX0_readClause_118 ?_
                  refine lv_topi (fun x_57 ex_57 => ?_)
                  replace hEX := hEX.trans (exl_eq ex_57)
                  have g_58 : RG x_57 0 3 := RG_add ex_57 (RG_k 0 0 rfl) h_39 (by decide +kernel)
                  refine lv_aload_n hx hb dX0_readClause_119 rfl (lv_at hl 7 rfl) ?_
                  refine va_gets hx hb hE_2 hS hown (hts (.fieldLink RX0 100 "BuoyVote$Borough" "LOW" "[I") (List.mem_of_getElem? (i := 93) rfl)) (fun _ h9 => h9) dX0_readClause_120 ?_
                  refine va_gets hx hb hE_0 hS hown (hts (.fieldLink RX0 103 "BuoyVote$Borough" "FIRST" "[I") (List.mem_of_getElem? (i := 77) rfl)) (fun _ h9 => h9) dX0_readClause_123 ?_
                  as_aux_lemma =>
                  refine lv_iload_n hx hb dX0_readClause_126 rfl (lv_at hl 5 rfl) ?_
                  refine va_ti (v := .int 0) hx hb hE_1 hS (by unfold vp_in; decide) rfl dX0_readClause_127 ?_
                  refine lv_iload hx hb dX0_readClause_128 (lv_at hl 1 rfl) ?_
                  refine lv_iadd hx hb dX0_readClause_130 ?_
                  refine lv_topi (fun x_59 ex_59 => ?_)
                  obtain rfl : x_57 = x_59 := ex_57.trans ex_59.symm
                  refine va_ti hx hb hE_3 hS (RG_in g_58 (by decide +kernel)) rfl dX0_readClause_131 ?_
                  refine lv_topi (fun x_60 ex_60 => ?_)
                  replace hEX := hEX.trans (exl_eq ex_60)
                  have g_61 : RG x_60 0 1 := RG_tab ex_60 (by decide +kernel)
                  refine va_gets hx hb hE_4 hS hown (hts (.fieldLink RX0 106 "BuoyVote$Borough" "HIGH" "[I") (List.mem_of_getElem? (i := 94) rfl)) (fun _ h9 => h9) dX0_readClause_132 ?_
                  refine va_gets hx hb hE_0 hS hown (hts (.fieldLink RX0 103 "BuoyVote$Borough" "FIRST" "[I") (List.mem_of_getElem? (i := 77) rfl)) (fun _ h9 => h9) dX0_readClause_135 ?_
                  refine lv_iload_n hx hb dX0_readClause_138 rfl (lv_at hl 5 rfl) ?_
                  refine va_ti (v := .int 0) hx hb hE_1 hS (by unfold vp_in; decide) rfl dX0_readClause_139 ?_
                  as_aux_lemma =>
                  refine lv_iload hx hb dX0_readClause_140 (lv_at hl 1 rfl) ?_
                  refine lv_iadd hx hb dX0_readClause_142 ?_
                  refine lv_topi (fun x_62 ex_62 => ?_)
                  obtain rfl : x_57 = x_62 := ex_57.trans ex_62.symm
                  refine va_ti hx hb hE_5 hS (RG_in g_58 (by decide +kernel)) rfl dX0_readClause_143 ?_
                  refine lv_topi (fun x_63 ex_63 => ?_)
                  replace hEX := hEX.trans (exl_eq ex_63)
                  have g_64 : RG x_63 0 20 := RG_tab ex_63 (by decide +kernel)
                  obtain ⟨hPc, hDc, hFc, hqc⟩ := cl_cut (wc := (wd_c_X9_numberWithin h1 h1_0 h1_f1 x_52 j49_h1_f3 h1_0 h1_0k h1_0c)) hP hD hS hA [0, 1] (by decide +kernel) rfl
                  have hKc := hK.sub (tys' := [(h1_0k, .int)]) [0] rfl
                  have hrv := va_recv hKc hPc (ci := 9) (q0 := 0) rfl rfl
                  refine va_calli (va_runV (As := [.int x_60, .int x_63]) (rest := [.int x_57, .ref h0_0]) ⟨hx, hb, hml, hown, hts⟩ (c_X9_numberWithin l dC dI H.size h1 x_60 x_63 h1_0 h1_f1 x_52 j49_h1_f3 h1_0k h1_0c g_61 g_64 (RG_w g_h1_f1 (by decide +kernel)) (RG_w h_53 (by decide +kernel)) (RG_w h_17 (by decide +kernel)) a_h1_0c) (cwV 2 hts gf_c_X0_readClause_c_X9_numberWithin rfl rfl rfl mdV_X9_numberWithin ⟨Nat.le_of_ble_eq_true rfl, Nat.le_of_ble_eq_true rfl⟩) ⟨fun a U g mk q => by obtain ⟨q0, q1, qP, qK, qD⟩ := q; exact ⟨q0, q1, qP, va_K.moved (u := U) (U := U.calling g mk a) (Vm.Alike.refl U.vm) qK, qD⟩, hrv, fun U hU hW => ⟨rfl, by rw [hU], by rw [hU]; exact hPc, va_K.moved hW.alike hKc, hDc.weaken (fun _ _ _ _ => trivial)⟩⟩ rfl rfl hl.1 rfl (lv_room (Nat.le_of_ble_eq_true rfl)) dX0_readClause_144 ⟨Nat.le_of_ble_eq_true rfl, Nat.le_of_ble_eq_true rfl⟩) hS (fun q _ h => hFc q h) hFc (fun r_65 u t H1 locs ht hvm hw hB hz1 hk1 hS => ?_)
                  obtain ⟨x_66, x_67⟩ := u
                  obtain ⟨hP1, hK1, hD1⟩ := hB
                  rw [ht] at hP1
                  obtain ⟨hP, hD⟩ := cl_put (w1 := (wd_c_X9_numberWithin h1 h1_0 h1_f1 x_66 x_67 h1_0 h1_0k h1_0c)) (nw := (wd_c_X0_readClause h1 h1_0 h1_f1 x_66 x_67 h1_0 h1_0k h1_0c h0 h0_0 h0_f1 h0_f2 1 h0_0 h0_0k j49_h0_0c)) hP hD [0, 1] [4, 5, 2, 3] 4 rfl hqc (by decide +kernel) rfl hk1 hFc hP1 hD1
                  generalize H1 = H at hP hS ⊢
                  as_aux_lemma =>
                  rcases hw with ⟨h_68, h_69, h_70, h_71, h_72⟩ | ⟨h_73, h_74, h_75, h_76, h_77, h_78⟩
                  · have h_72 : (r_65, x_66, x_67) = _ := h_72
                    replace hEX := hEX.trans (exc3_eq h_72)
                    replace hEX := hEX.trans (if_pos (show r_65 = (-1) from h_68))
                    rw [h_68]
                    refine va_iast hx hb hK hP hD hS 3 1 rfl rfl (RG_in g_58 (by decide +kernel)) dX0_readClause_147 (fun H locs hP hD hS => ?_)
                    have hP : va_P (dC, dI) vwCl (wd_c_X0_readClause h1 h1_0 h1_f1 x_66 x_67 h1_0 h1_0k h1_0c h0 h0_0 h0_f1 h0_f2 1 h0_0 h0_0k (upd j49_h0_0c (x_57 : Int32).toNatClampNeg (-1))) H := hP
                    have hD : va_D A (wd_c_X0_readClause h1 h1_0 h1_f1 x_66 x_67 h1_0 h1_0k h1_0c h0 h0_0 h0_f1 h0_f2 1 h0_0 h0_0k (upd j49_h0_0c (x_57 : Int32).toNatClampNeg (-1))) := hD
                    have l_80 : (upd j49_h0_0c (x_57 : Int32).toNatClampNeg (-1)) (x_57 : Int32).toNatClampNeg = (-1) := pk_us
                    have a_81 : AI (upd j49_h0_0c (x_57 : Int32).toNatClampNeg (-1)) (-1) 99 := AI_up a_j49_h0_0c (RG_k (-1) (-1) rfl) (by decide +kernel)
                    generalize huw_79 : (upd j49_h0_0c (x_57 : Int32).toNatClampNeg (-1)) = w_79 at hP hD a_81 l_80
                    replace hEX := hEX.trans (exl_eq huw_79.symm)
                    have hP : va_P (dC, dI) vwCl (wd_c_X0_readClause h1 h1_0 h1_f1 x_66 x_67 h1_0 h1_0k h1_0c h0 h0_0 h0_f1 h0_f2 1 h0_0 h0_0k w_79) H := hP
                    have hD : va_D A (wd_c_X0_readClause h1 h1_0 h1_f1 x_66 x_67 h1_0 h1_0k h1_0c h0 h0_0 h0_f1 h0_f2 1 h0_0 h0_0k w_79) := hD
                    obtain ⟨x_82, ex_82⟩ : ∃ y : Int32, y = j49_l6 + 1 := ⟨_, rfl⟩
                    have g_83 : RG x_82 1 5 := RG_add ex_82 g_11 (RG_k 1 1 rfl) (by decide +kernel)
                    replace hEX := hEX.trans (exl_eq ex_82)
                    refine lv_iinc (v := x_82) (lv' := [(6, .int x_82), (5, .int x_50), (7, .int r_36), (4, .ref ts1), (3, .int 0), (2, .int 0), (0, .ref h0), (1, .ref h1)]) hx hb dX0_readClause_148 hl (k := 2) rfl (by rw [ex_82]; rfl) (Nat.le_of_ble_eq_true rfl) rfl (fun ls hl => ?_)
                    as_aux_lemma =>
                    refine lv_goto (tgt := 49) hx hb dX0_readClause_151 rfl ?_
                    exact hU _ _ _ (ih49 x_82 x_50 x_66 x_67 w_79 (mu_s (MU_add ex_82 g_11 (q := 1) rfl (by decide +kernel)) hM49) g_h0_f1 g_h0_f2 g_h0_f3 g_h1_f1 g_h1_f2 g_h1_f3 h_69 (RG_w h_70 (by decide +kernel)) (RG_w g_83 (by decide +kernel)) a_81 hEX _ _ _ hP hD hS (lv_sub hl [0, 1, 3, 4, 5, 6, 7] rfl))
                  · have h_78 : (r_65, x_66, x_67) = _ := h_78
                    replace hEX := hEX.trans (exc3_eq h_78)
                    replace hEX := hEX.trans (if_neg (RG_neq (x := r_65) (c := (-1)) (show RG r_65 0 99 from h_73) (by decide +kernel)))
                    refine va_iast hx hb hK hP hD hS 3 1 rfl rfl (RG_in g_58 (by decide +kernel)) dX0_readClause_147 (fun H locs hP hD hS => ?_)
                    have hP : va_P (dC, dI) vwCl (wd_c_X0_readClause h1 h1_0 h1_f1 x_66 x_67 h1_0 h1_0k h1_0c h0 h0_0 h0_f1 h0_f2 1 h0_0 h0_0k (upd j49_h0_0c (x_57 : Int32).toNatClampNeg r_65)) H := hP
                    have hD : va_D A (wd_c_X0_readClause h1 h1_0 h1_f1 x_66 x_67 h1_0 h1_0k h1_0c h0 h0_0 h0_f1 h0_f2 1 h0_0 h0_0k (upd j49_h0_0c (x_57 : Int32).toNatClampNeg r_65)) := hD
                    have l_85 : (upd j49_h0_0c (x_57 : Int32).toNatClampNeg r_65) (x_57 : Int32).toNatClampNeg = r_65 := pk_us
                    have a_86 : AI (upd j49_h0_0c (x_57 : Int32).toNatClampNeg r_65) (-1) 99 := AI_up a_j49_h0_0c h_73 (by decide +kernel)
                    generalize huw_84 : (upd j49_h0_0c (x_57 : Int32).toNatClampNeg r_65) = w_84 at hP hD a_86 l_85
                    replace hEX := hEX.trans (exl_eq huw_84.symm)
                    have hP : va_P (dC, dI) vwCl (wd_c_X0_readClause h1 h1_0 h1_f1 x_66 x_67 h1_0 h1_0k h1_0c h0 h0_0 h0_f1 h0_f2 1 h0_0 h0_0k w_84) H := hP
                    have hD : va_D A (wd_c_X0_readClause h1 h1_0 h1_f1 x_66 x_67 h1_0 h1_0k h1_0c h0 h0_0 h0_f1 h0_f2 1 h0_0 h0_0k w_84) := hD
                    obtain ⟨x_87, ex_87⟩ : ∃ y : Int32, y = j49_l6 + 1 := ⟨_, rfl⟩
                    have g_88 : RG x_87 1 5 := RG_add ex_87 g_11 (RG_k 1 1 rfl) (by decide +kernel)
                    replace hEX := hEX.trans (exl_eq ex_87)
                    refine lv_iinc (v := x_87) (lv' := [(6, .int x_87), (5, .int x_50), (7, .int r_36), (4, .ref ts1), (3, .int 0), (2, .int 0), (0, .ref h0), (1, .ref h1)]) hx hb dX0_readClause_148 hl (k := 2) rfl (by rw [ex_87]; rfl) (Nat.le_of_ble_eq_true rfl) rfl (fun ls hl => ?_)
                    as_aux_lemma =>
                    refine lv_goto (tgt := 49) hx hb dX0_readClause_151 rfl ?_
                    exact hU _ _ _ (ih49 x_87 x_50 x_66 x_67 w_84 (mu_s (MU_add ex_87 g_11 (q := 1) rfl (by decide +kernel)) hM49) g_h0_f1 g_h0_f2 g_h0_f3 g_h1_f1 g_h1_f2 g_h1_f3 (RG_w h_74 (by decide +kernel)) h_75 (RG_w g_88 (by decide +kernel)) a_86 hEX _ _ _ hP hD hS (lv_sub hl [0, 1, 3, 4, 5, 6, 7] rfl))
                · replace hEX := hEX.trans (if_neg c_46)
                  have g_89 : RG x_44 1 1 := RG_ne1 g_45 (q := 0) rfl c_46 (by decide +kernel)
                  refine lv_aload_n hx hb dX0_readClause_93 rfl (lv_at hl 7 rfl) ?_
                  obtain ⟨hPc, hDc, hFc, hqc⟩ := cl_cut (wc := (wd_c_X9_refuseHere h1 h1_0 h1_f1 x_22 j49_h1_f3)) hP hD hS hA [0] (by decide +kernel) rfl
                  have hKc := hK.sub (tys' := []) [] rfl
                  have hrv := va_recv hKc hPc (ci := 9) (q0 := 0) rfl rfl
                  refine va_callv (va_runV (As := []) (rest := []) ⟨hx, hb, hml, hown, hts⟩ (c_X9_refuseHere l dC dI H.size h1 h1_0 h1_f1 x_22 j49_h1_f3 (RG_w g_h1_f1 (by decide +kernel)) (RG_w h_28 (by decide +kernel)) (RG_w h_17 (by decide +kernel))) (cwV 0 hts gf_c_X0_readClause_c_X9_refuseHere rfl rfl rfl mdV_X9_refuseHere ⟨Nat.le_of_ble_eq_true rfl, Nat.le_of_ble_eq_true rfl⟩) ⟨fun a U g mk q => by obtain ⟨q0, q1, qP, qK, qD⟩ := q; exact ⟨q0, q1, qP, va_K.moved (u := U) (U := U.calling g mk a) (Vm.Alike.refl U.vm) qK, qD⟩, hrv, fun U hU hW => ⟨rfl, by rw [hU], by rw [hU]; exact hPc, va_K.moved hW.alike hKc, hDc.weaken (fun _ _ _ _ => trivial)⟩⟩ rfl rfl hl.1 rfl (lv_room (Nat.le_of_ble_eq_true rfl)) dX0_readClause_94 ⟨Nat.le_of_ble_eq_true rfl, Nat.le_of_ble_eq_true rfl⟩) hS (fun q _ h => hFc q h) hFc (fun x_91 t H1 locs ht hvm hw hB hz1 hk1 hS => ?_)
                  obtain ⟨hP1, hK1, hD1⟩ := hB
                  rw [ht] at hP1
                  obtain ⟨hP, hD⟩ := cl_put (w1 := (wd_c_X9_refuseHere h1 h1_0 h1_f1 x_22 x_91)) (nw := (wd_c_X0_readClause h1 h1_0 h1_f1 x_22 x_91 h1_0 h1_0k h1_0c h0 h0_0 h0_f1 h0_f2 1 h0_0 h0_0k j49_h0_0c)) hP hD [0] [4, 1, 2, 3] 4 rfl hqc (by decide +kernel) rfl hk1 hFc hP1 hD1
                  generalize H1 = H at hP hS ⊢
                  as_aux_lemma =>
                  rcases hw with ⟨h_92, h_93⟩
                  have h_93 : x_91 = _ := h_93
                  replace hEX := hEX.trans (exc1_eq h_93)
                  have hK9 := hK.sub (tys' := []) [] rfl
                  exact W.vret hx hb hr (fun t ht hW => ⟨⟨(x_22, x_91, h0_f1, h0_f2, 1, j49_h0_0c), rfl, ⟨(RG_w h_28 (by decide +kernel)), (RG_w h_92 (by decide +kernel)), g_h0_f1, g_h0_f2, (RG_w (RG_k 1 1 rfl) (by decide +kernel)), a_j49_h0_0c, (hR.trans hEX).symm⟩, by rw [ht]; exact hP, va_K.moved hW.alike hK9, hD⟩, hS.F ht⟩) hS.2.2 dX0_readClause_97
              · replace hEX := hEX.trans (if_neg c_42)
                have d_94 := Int32.not_le.mp c_42
                have g_95 : RG r_36 0 (-1) := RG_lt1 h_39 (RG_k 0 0 rfl) d_94 (by decide +kernel)
                exact RG_dead (RG_lt1 h_39 (RG_k 0 0 rfl) d_94 (b' := (-1)) (by decide +kernel)) (by decide +kernel)
  have J49b : ∀ (n49b : Nat) (j49b_l6 : Int32) (j49b_l5 : Int32) (j49b_l3 : Int32) (j49b_h1_f2 : Int32) (j49b_h1_f3 : Int32) (j49b_h0_f1 : Int32) (j49b_h0_0c : Nat → Int32) (hM49b : MU j49b_l6 < n49b) (g_h0_f1 : RG h0_f1 0 7) (g_h0_f2 : RG h0_f2 0 3) (g_h0_f3 : RG h0_f3 0 1) (g_h1_f1 : RG h1_f1 1 240) (g_h1_f2 : RG h1_f2 0 240) (g_h1_f3 : RG h1_f3 (-1) 240) (g_j49b_h0_f1 : RG j49b_h0_f1 1 8) (g_j49b_h1_f2 : RG j49b_h1_f2 0 240) (g_j49b_h1_f3 : RG j49b_h1_f3 (-1) 240) (g_j49b_l3 : RG j49b_l3 4 60) (g_j49b_l6 : RG j49b_l6 0 9) (a_j49b_h0_0c : AI j49b_h0_0c (-1) 99) (hEX : RES = fx_c_X0_readClause_p49b h1_f1 h1_0c h0_f2 h0_f3 n49b j49b_l6 j49b_l5 j49b_l3 j49b_h1_f2 j49b_h1_f3 j49b_h0_f1 j49b_h0_0c) (H : Heap) (locs : List Loc) (ls : Array Slot) (hP : va_P (dC, dI) vwCl (wd_c_X0_readClause h1 h1_0 h1_f1 j49b_h1_f2 j49b_h1_f3 h1_0 h1_0k h1_0c h0 h0_0 j49b_h0_f1 h0_f2 h0_f3 h0_0 h0_0k j49b_h0_0c) H) (hD : va_D A (wd_c_X0_readClause h1 h1_0 h1_f1 j49b_h1_f2 j49b_h1_f3 h1_0 h1_0k h1_0c h0 h0_0 j49b_h0_f1 h0_f2 h0_f3 h0_0 h0_0k j49b_h0_0c)) (hS : va_S A s.heap H locs) (hl : lv_has ls 8 [(6, .int j49b_l6), (5, .int j49b_l5), (4, .ref ts2), (3, .int j49b_l3), (2, .int 1), (0, .ref h0), (1, .ref h1)]), G H locs (F0 m 49 ls []) := by
    as_aux_lemma =>
    intro n49b
    induction n49b with
    | zero => intros; exact absurd (by assumption) (Nat.not_lt_zero _)
    | succ n49b ih49b =>
      intro j49b_l6 j49b_l5 j49b_l3 j49b_h1_f2 j49b_h1_f3 j49b_h0_f1 j49b_h0_0c hM49b g_h0_f1 g_h0_f2 g_h0_f3 g_h1_f1 g_h1_f2 g_h1_f3 g_j49b_h0_f1 g_j49b_h1_f2 g_j49b_h1_f3 g_j49b_l3 g_j49b_l6 a_j49b_h0_0c hEX H locs ls hP hD hS hl
      refine hG _ _ _ ?_
      replace hEX := hEX.trans (if_pos (rfl : j49b_l6 = j49b_l6))
      refine lv_iload hx hb dX0_readClause_49 (lv_at hl 0 rfl) ?_
      refine lv_aload hx hb dX0_readClause_51 (lv_at hl 2 rfl) ?_
      obtain ⟨hPc, hDc, hFc, hqc⟩ := cl_cut (wc := []) hP hD hS hA [] (by decide +kernel) rfl
      have hKc := hK.sub (tys' := []) [] rfl
      have hrv := bv_Orecv hE_23 hS
      refine va_calli (va_runV (As := []) (rest := [.int j49b_l6]) ⟨hx, hb, hml, hown, hts⟩ (c_J0_length_8abf5_2 l dC dI H.size ts2 tv2) (cwV 0 hts gf_c_X0_readClause_c_J0_length_8abf5_2 rfl rfl rfl mdV_J0_length_8abf5 ⟨Nat.le_of_ble_eq_true rfl, Nat.le_of_ble_eq_true rfl⟩) ⟨fun a U g mk q => by obtain ⟨q0, q1, qP, qK, qD, qE0, qE1, qE2, qE3, qE4⟩ := q; exact ⟨q0, q1, qP, va_K.moved (u := U) (U := U.calling g mk a) (Vm.Alike.refl U.vm) qK, qD, va_OF.moved (u := U) (U := U.calling g mk a) (Vm.Alike.refl U.vm) qE0, va_T.moved (u := U) (U := U.calling g mk a) (Vm.Alike.refl U.vm) qE1, va_Z.moved (u := U) (U := U.calling g mk a) (Vm.Alike.refl U.vm) qE2, va_OF.moved (u := U) (U := U.calling g mk a) (Vm.Alike.refl U.vm) qE3, va_O.moved (u := U) (U := U.calling g mk a) (Vm.Alike.refl U.vm) qE4⟩, hrv, fun U hU hW => ⟨rfl, by rw [hU], by rw [hU]; exact hPc, va_K.moved hW.alike hKc, hDc.weaken (fun _ _ _ _ => trivial), va_OF.moved hW.alike (by rw [hU]; exact (hE_25.kept hS.2.1).narrow hFc), va_T.moved hW.alike (by rw [hU]; exact (hE_26.kept hS.2.1).narrow hFc), va_Z.moved hW.alike (by rw [hU]; exact (hE_10.kept hS.2.1).narrow hFc), va_OF.moved hW.alike (by rw [hU]; exact (hE_24.kept hS.2.1).narrow hFc), va_O.moved hW.alike (by rw [hU]; exact (hE_23.kept hS.2.1).narrow hFc)⟩⟩ rfl rfl hl.1 rfl (lv_room (Nat.le_of_ble_eq_true rfl)) dX0_readClause_53 ⟨Nat.le_of_ble_eq_true rfl, Nat.le_of_ble_eq_true rfl⟩) hS (fun q _ h => hFc q h) hFc (fun r_96 u t H1 locs ht hvm hw hB hz1 hk1 hS => ?_)
      obtain ⟨hP1, hK1, hD1⟩ := hB
      rw [ht] at hP1
      have hP := bv_still hP hk1
      generalize H1 = H at hP hS ⊢
      as_aux_lemma =>
      rcases hw with ⟨h_97, h_98⟩
      have h_98 : r_96 = _ := h_98
      replace hEX := hEX.trans (exc1_eq h_98)
      rw [h_97]
      refine lv_icmp_gt (tgt := 154) hx hb dX0_readClause_56 rfl (fun c_99 => ?_) (fun c_99 => ?_)
      · replace hEX := hEX.trans (if_pos c_99)
        have g_100 : RG j49b_l6 9 9 := RG_lt2 (RG_k 8 8 rfl) g_j49b_l6 c_99 (by decide +kernel)
        have hK9 := hK.sub (tys' := []) [] rfl
        exact W.vret hx hb hr (fun t ht hW => ⟨⟨(j49b_h1_f2, j49b_h1_f3, j49b_h0_f1, h0_f2, h0_f3, j49b_h0_0c), rfl, ⟨g_j49b_h1_f2, g_j49b_h1_f3, (RG_w g_j49b_h0_f1 (by decide +kernel)), g_h0_f2, g_h0_f3, a_j49b_h0_0c, (hR.trans hEX).symm⟩, by rw [ht]; exact hP, va_K.moved hW.alike hK9, hD⟩, hS.F ht⟩) hS.2.2 dX0_readClause_154
      · replace hEX := hEX.trans (if_neg c_99)
        have d_101 := Int32.not_lt.mp c_99
        have g_102 : RG j49b_l6 0 8 := RG_le1 g_j49b_l6 (RG_k 8 8 rfl) d_101 (by decide +kernel)
        refine lv_aload_n hx hb dX0_readClause_59 rfl (lv_at hl 6 rfl) ?_
        obtain ⟨hPc, hDc, hFc, hqc⟩ := cl_cut (wc := (wd_c_X9_isRight h1 h1_0 h1_f1 j49b_h1_f2 j49b_h1_f3)) hP hD hS hA [0] (by decide +kernel) rfl
        have hKc := hK.sub (tys' := []) [] rfl
        have hrv := va_recv hKc hPc (ci := 9) (q0 := 0) rfl rfl
        refine va_calli (va_runV (As := []) (rest := []) ⟨hx, hb, hml, hown, hts⟩ (c_X9_isRight l dC dI H.size h1 h1_0 h1_f1 j49b_h1_f2 j49b_h1_f3 (RG_w g_h1_f1 (by decide +kernel)) g_j49b_h1_f2 g_j49b_h1_f3) (cwV 0 hts gf_c_X0_readClause_c_X9_isRight rfl rfl rfl mdV_X9_isRight ⟨Nat.le_of_ble_eq_true rfl, Nat.le_of_ble_eq_true rfl⟩) ⟨fun a U g mk q => by obtain ⟨q0, q1, qP, qK, qD⟩ := q; exact ⟨q0, q1, qP, va_K.moved (u := U) (U := U.calling g mk a) (Vm.Alike.refl U.vm) qK, qD⟩, hrv, fun U hU hW => ⟨rfl, by rw [hU], by rw [hU]; exact hPc, va_K.moved hW.alike hKc, hDc.weaken (fun _ _ _ _ => trivial)⟩⟩ rfl rfl hl.1 rfl (lv_room (Nat.le_of_ble_eq_true rfl)) dX0_readClause_60 ⟨Nat.le_of_ble_eq_true rfl, Nat.le_of_ble_eq_true rfl⟩) hS (fun q _ h => hFc q h) hFc (fun r_103 u t H1 locs ht hvm hw hB hz1 hk1 hS => ?_)
        as_aux_lemma =>
        obtain ⟨hP1, hK1, hD1⟩ := hB
        rw [ht] at hP1
        obtain ⟨hP, hD⟩ := cl_put (w1 := (wd_c_X9_isRight h1 h1_0 h1_f1 j49b_h1_f2 j49b_h1_f3)) (nw := (wd_c_X0_readClause h1 h1_0 h1_f1 j49b_h1_f2 j49b_h1_f3 h1_0 h1_0k h1_0c h0 h0_0 j49b_h0_f1 h0_f2 h0_f3 h0_0 h0_0k j49b_h0_0c)) hP hD [0] [4, 1, 2, 3] 4 rfl hqc (by decide +kernel) rfl hk1 hFc hP1 hD1
        generalize H1 = H at hP hS ⊢
        as_aux_lemma =>
        rcases hw with ⟨h_104, h_105, h_106⟩ | ⟨h_107, h_108, h_109⟩
        · have h_106 : r_103 = _ := h_106
          replace hEX := hEX.trans (exc1_eq h_106)
          replace hEX := hEX.trans (if_pos (show r_103 = 0 from h_104))
          rw [h_104]
          refine lv_if_eq (tgt := 154) hx hb dX0_readClause_63 rfl (fun c_110 => ?_) (fun c_110 => absurd c_110 (by decide +kernel))
          have hK9 := hK.sub (tys' := []) [] rfl
          exact W.vret hx hb hr (fun t ht hW => ⟨⟨(j49b_h1_f2, j49b_h1_f3, j49b_h0_f1, h0_f2, h0_f3, j49b_h0_0c), rfl, ⟨g_j49b_h1_f2, (RG_w h_105 (by decide +kernel)), (RG_w g_j49b_h0_f1 (by decide +kernel)), g_h0_f2, g_h0_f3, a_j49b_h0_0c, (hR.trans hEX).symm⟩, by rw [ht]; exact hP, va_K.moved hW.alike hK9, hD⟩, hS.F ht⟩) hS.2.2 dX0_readClause_154
        · have h_109 : r_103 = _ := h_109
          replace hEX := hEX.trans (exc1_eq h_109)
          replace hEX := hEX.trans (if_neg (fun q9 : r_103 = 0 => absurd ((show r_103 = 1 from h_107).symm.trans q9) (by decide +kernel)))
          rw [h_107]
          refine lv_if_eq (tgt := 154) hx hb dX0_readClause_63 rfl (fun c_111 => absurd c_111 (by decide +kernel)) (fun c_111 => ?_)
          refine lv_aload hx hb dX0_readClause_66 (lv_at hl 2 rfl) ?_
          as_aux_lemma =>
          refine lv_aload_n hx hb dX0_readClause_68 rfl (lv_at hl 6 rfl) ?_
          obtain ⟨hPc, hDc, hFc, hqc⟩ := cl_cut (wc := (wd_c_X9_peek h1 h1_0 h1_f1 j49b_h1_f2 j49b_h1_f3 h1_0 h1_0k h1_0c)) hP hD hS hA [0, 1] (by decide +kernel) rfl
          have hKc := hK.sub (tys' := [(h1_0k, .int)]) [0] rfl
          have hrv := va_recv hKc hPc (ci := 9) (q0 := 0) rfl rfl
          refine va_calli (va_runV (As := []) (rest := [.ref ts2]) ⟨hx, hb, hml, hown, hts⟩ (c_X9_peek l dC dI H.size h1 h1_0 h1_f1 j49b_h1_f2 j49b_h1_f3 h1_0k h1_0c (RG_w g_h1_f1 (by decide +kernel)) g_j49b_h1_f2 (RG_w h_108 (by decide +kernel)) a_h1_0c) (cwV 0 hts gf_c_X0_readClause_c_X9_peek rfl rfl rfl mdV_X9_peek ⟨Nat.le_of_ble_eq_true rfl, Nat.le_of_ble_eq_true rfl⟩) ⟨fun a U g mk q => by obtain ⟨q0, q1, qP, qK, qD⟩ := q; exact ⟨q0, q1, qP, va_K.moved (u := U) (U := U.calling g mk a) (Vm.Alike.refl U.vm) qK, qD⟩, hrv, fun U hU hW => ⟨rfl, by rw [hU], by rw [hU]; exact hPc, va_K.moved hW.alike hKc, hDc.weaken (fun _ _ _ _ => trivial)⟩⟩ rfl rfl hl.1 rfl (lv_room (Nat.le_of_ble_eq_true rfl)) dX0_readClause_69 ⟨Nat.le_of_ble_eq_true rfl, Nat.le_of_ble_eq_true rfl⟩) hS (fun q _ h => hFc q h) hFc (fun r_112 x_113 t H1 locs ht hvm hw hB hz1 hk1 hS => ?_)
          obtain ⟨hP1, hK1, hD1⟩ := hB
          rw [ht] at hP1
          obtain ⟨hP, hD⟩ := cl_put (w1 := (wd_c_X9_peek h1 h1_0 h1_f1 x_113 j49b_h1_f3 h1_0 h1_0k h1_0c)) (nw := (wd_c_X0_readClause h1 h1_0 h1_f1 x_113 j49b_h1_f3 h1_0 h1_0k h1_0c h0 h0_0 j49b_h0_f1 h0_f2 h0_f3 h0_0 h0_0k j49b_h0_0c)) hP hD [0, 1] [4, 5, 2, 3] 4 rfl hqc (by decide +kernel) rfl hk1 hFc hP1 hD1
          generalize H1 = H at hP hS ⊢
          as_aux_lemma =>
          rcases hw with ⟨h_114, h_115, h_116, h_117⟩ | ⟨h_118, h_119, h_120, h_121, h_122⟩
          · have h_117 : (r_112, x_113) = _ := h_117
            replace hEX := hEX.trans (exc2_eq h_117)
            replace hEX := hEX.trans (if_pos (show r_112 = (-1) from h_114))
            rw [h_114]
            obtain ⟨hPc, hDc, hFc, hqc⟩ := cl_cut (wc := []) hP hD hS hA [] (by decide +kernel) rfl
            have hKc := hK.sub (tys' := []) [] rfl
            refine va_calli (va_runS (As := [.ref ts2, .int (-1)]) (rest := []) ⟨hx, hb, hml, hown, hts⟩ (c_X0_placeIn_4 l dC dI H.size ts2 (-1) (RG_k (-1) (-1) rfl)) (va_cwS 2 hts gf_c_X0_readClause_c_X0_placeIn_4 rfl rfl rfl md_X0_placeIn ⟨Nat.le_of_ble_eq_true rfl, Nat.le_of_ble_eq_true rfl⟩) ⟨fun a U g mk q => by obtain ⟨q0, q1, qP, qK, qD⟩ := q; exact ⟨q0, q1, qP, va_K.moved (u := U) (U := U.calling g mk a) (Vm.Alike.refl U.vm) qK, qD⟩, fun U hU hW => ⟨rfl, by rw [hU], by rw [hU]; exact hPc, va_K.moved hW.alike hKc, hDc.weaken (fun _ _ _ _ => trivial)⟩⟩ rfl rfl hl.1 rfl (lv_room (Nat.le_of_ble_eq_true rfl)) dX0_readClause_72 ⟨Nat.le_of_ble_eq_true rfl, Nat.le_of_ble_eq_true rfl⟩) hS (fun q _ h => hFc q h) hFc (fun r_123 u t H1 locs ht hvm hw hB hz1 hk1 hS => ?_)
            obtain ⟨hP1, hK1, hD1⟩ := hB
            rw [ht] at hP1
            have hP := bv_still hP hk1
            generalize H1 = H at hP hS ⊢
            as_aux_lemma =>
            rcases hw with ⟨h_124, h_125⟩
            have h_125 : r_123 = _ := h_125
            replace hEX := hEX.trans (exc1_eq h_125)
            rw [h_124]
            refine lv_istore (lv' := [(7, .int (-1)), (6, .int j49b_l6), (5, .int j49b_l5), (4, .ref ts2), (3, .int j49b_l3), (2, .int 1), (0, .ref h0), (1, .ref h1)]) hx hb dX0_readClause_75 hl (Nat.le_of_ble_eq_true rfl) rfl (fun ls hl => ?_)
            refine lv_iload hx hb dX0_readClause_77 (lv_at hl 0 rfl) ?_
            refine lv_if_ge (tgt := 83) hx hb dX0_readClause_79 rfl (fun c_126 => absurd c_126 (by decide +kernel)) (fun c_126 => ?_)
            have hK9 := hK.sub (tys' := []) [] rfl
            exact W.vret hx hb hr (fun t ht hW => ⟨⟨(x_113, j49b_h1_f3, j49b_h0_f1, h0_f2, h0_f3, j49b_h0_0c), rfl, ⟨h_115, (RG_w h_108 (by decide +kernel)), (RG_w g_j49b_h0_f1 (by decide +kernel)), g_h0_f2, g_h0_f3, a_j49b_h0_0c, (hR.trans hEX).symm⟩, by rw [ht]; exact hP, va_K.moved hW.alike hK9, hD⟩, hS.F ht⟩) hS.2.2 dX0_readClause_82
          · have h_122 : (r_112, x_113) = _ := h_122
            replace hEX := hEX.trans (exc2_eq h_122)
            replace hEX := hEX.trans (if_neg (RG_neq (x := r_112) (c := (-1)) (show RG r_112 0 255 from h_118) (by decide +kernel)))
            obtain ⟨hPc, hDc, hFc, hqc⟩ := cl_cut (wc := []) hP hD hS hA [] (by decide +kernel) rfl
            have hKc := hK.sub (tys' := []) [] rfl
            refine va_calli (va_runS (As := [.ref ts2, .int r_112]) (rest := []) ⟨hx, hb, hml, hown, hts⟩ (c_X0_placeIn_5 l dC dI H.size ts2 r_112 tv2 h_118) (va_cwS 2 hts gf_c_X0_readClause_c_X0_placeIn_5 rfl rfl rfl md_X0_placeIn ⟨Nat.le_of_ble_eq_true rfl, Nat.le_of_ble_eq_true rfl⟩) ⟨fun a U g mk q => by obtain ⟨q0, q1, qP, qK, qD, qE0, qE1, qE2, qE3, qE4⟩ := q; exact ⟨q0, q1, qP, va_K.moved (u := U) (U := U.calling g mk a) (Vm.Alike.refl U.vm) qK, qD, va_Z.moved (u := U) (U := U.calling g mk a) (Vm.Alike.refl U.vm) qE0, va_OF.moved (u := U) (U := U.calling g mk a) (Vm.Alike.refl U.vm) qE1, va_O.moved (u := U) (U := U.calling g mk a) (Vm.Alike.refl U.vm) qE2, va_OF.moved (u := U) (U := U.calling g mk a) (Vm.Alike.refl U.vm) qE3, va_T.moved (u := U) (U := U.calling g mk a) (Vm.Alike.refl U.vm) qE4⟩, fun U hU hW => ⟨rfl, by rw [hU], by rw [hU]; exact hPc, va_K.moved hW.alike hKc, hDc.weaken (fun _ _ _ _ => trivial), va_Z.moved hW.alike (by rw [hU]; exact (hE_10.kept hS.2.1).narrow hFc), va_OF.moved hW.alike (by rw [hU]; exact (hE_24.kept hS.2.1).narrow hFc), va_O.moved hW.alike (by rw [hU]; exact (hE_23.kept hS.2.1).narrow hFc), va_OF.moved hW.alike (by rw [hU]; exact (hE_25.kept hS.2.1).narrow hFc), va_T.moved hW.alike (by rw [hU]; exact (hE_26.kept hS.2.1).narrow hFc)⟩⟩ rfl rfl hl.1 rfl (lv_room (Nat.le_of_ble_eq_true rfl)) dX0_readClause_72 ⟨Nat.le_of_ble_eq_true rfl, Nat.le_of_ble_eq_true rfl⟩) hS (fun q _ h => hFc q h) hFc (fun r_127 u t H1 locs ht hvm hw hB hz1 hk1 hS => ?_)
            as_aux_lemma =>
            obtain ⟨hP1, hK1, hD1⟩ := hB
            rw [ht] at hP1
            have hP := bv_still hP hk1
            generalize H1 = H at hP hS ⊢
            as_aux_lemma =>
            rcases hw with ⟨h_128, h_129⟩ | ⟨h_130, h_131⟩
            · have h_129 : r_127 = _ := h_129
              replace hEX := hEX.trans (exc1_eq h_129)
              replace hEX := hEX.trans (if_pos (show r_127 = (-1) from h_128))
              rw [h_128]
              refine lv_istore (lv' := [(7, .int (-1)), (6, .int j49b_l6), (5, .int j49b_l5), (4, .ref ts2), (3, .int j49b_l3), (2, .int 1), (0, .ref h0), (1, .ref h1)]) hx hb dX0_readClause_75 hl (Nat.le_of_ble_eq_true rfl) rfl (fun ls hl => ?_)
              refine lv_iload hx hb dX0_readClause_77 (lv_at hl 0 rfl) ?_
              refine lv_if_ge (tgt := 83) hx hb dX0_readClause_79 rfl (fun c_132 => absurd c_132 (by decide +kernel)) (fun c_132 => ?_)
              have hK9 := hK.sub (tys' := []) [] rfl
              exact W.vret hx hb hr (fun t ht hW => ⟨⟨(x_113, j49b_h1_f3, j49b_h0_f1, h0_f2, h0_f3, j49b_h0_0c), rfl, ⟨(RG_w h_119 (by decide +kernel)), (RG_w h_108 (by decide +kernel)), (RG_w g_j49b_h0_f1 (by decide +kernel)), g_h0_f2, g_h0_f3, a_j49b_h0_0c, (hR.trans hEX).symm⟩, by rw [ht]; exact hP, va_K.moved hW.alike hK9, hD⟩, hS.F ht⟩) hS.2.2 dX0_readClause_82
            · have h_131 : r_127 = _ := h_131
              replace hEX := hEX.trans (exc1_eq h_131)
              replace hEX := hEX.trans (if_neg (RG_neq (x := r_127) (c := (-1)) (show RG r_127 0 7 from h_130) (by decide +kernel)))
              refine lv_istore (lv' := [(7, .int r_127), (6, .int j49b_l6), (5, .int j49b_l5), (4, .ref ts2), (3, .int j49b_l3), (2, .int 1), (0, .ref h0), (1, .ref h1)]) hx hb dX0_readClause_75 hl (Nat.le_of_ble_eq_true rfl) rfl (fun ls hl => ?_)
              as_aux_lemma =>
              refine lv_iload hx hb dX0_readClause_77 (lv_at hl 0 rfl) ?_
              refine lv_if_ge (tgt := 83) hx hb dX0_readClause_79 rfl (fun c_133 => ?_) (fun c_133 => ?_)
              · replace hEX := hEX.trans (if_pos c_133)
                refine lv_iload hx hb dX0_readClause_83 (lv_at hl 2 rfl) ?_
                refine lv_iload hx hb dX0_readClause_85 (lv_at hl 0 rfl) ?_
                refine lv_ishr hx hb dX0_readClause_87 ?_
                refine lv_topi (fun x_134 ex_134 => ?_)
                replace hEX := hEX.trans (exl_eq ex_134)
                refine lv_iconst (v := 1) hx hb dX0_readClause_88 kc_iconst_1 ?_
                refine lv_iand hx hb dX0_readClause_89 ?_
                refine lv_topi (fun x_135 ex_135 => ?_)
                replace hEX := hEX.trans (exl_eq ex_135)
                have g_136 : RG x_135 0 1 := RG_andr ex_135 (RG_k 1 1 rfl) (by decide +kernel)
                refine lv_if_eq (tgt := 98) hx hb dX0_readClause_90 rfl (fun c_137 => ?_) (fun c_137 => ?_)
                · replace hEX := hEX.trans (if_pos c_137)
                  have g_138 : RG x_135 0 0 := RG_eq1 g_136 (RG_k 0 0 rfl) c_137 (by decide +kernel)
                  refine lv_iload hx hb dX0_readClause_98 (lv_at hl 2 rfl) ?_
                  as_aux_lemma =>
                  refine lv_iconst (v := 1) hx hb dX0_readClause_100 kc_iconst_1 ?_
                  refine lv_iload hx hb dX0_readClause_101 (lv_at hl 0 rfl) ?_
                  refine lv_ishl hx hb dX0_readClause_103 ?_
                  refine lv_topi (fun x_139 ex_139 => ?_)
                  replace hEX := hEX.trans (exl_eq ex_139)
                  have g_140 : RG x_139 1 128 := RG_shl1 ex_139 h_130 (by decide +kernel)
                  refine lv_ior hx hb dX0_readClause_104 ?_
                  refine lv_topi (fun x_141 ex_141 => ?_)
                  replace hEX := hEX.trans (exl_eq ex_141)
                  refine lv_istore (lv' := [(5, .int x_141), (7, .int r_127), (6, .int j49b_l6), (4, .ref ts2), (3, .int j49b_l3), (2, .int 1), (0, .ref h0), (1, .ref h1)]) hx hb dX0_readClause_105 hl (Nat.le_of_ble_eq_true rfl) rfl (fun ls hl => ?_)
                  refine lv_aload_n hx hb dX0_readClause_107 rfl (lv_at hl 7 rfl) ?_
                  obtain ⟨hPc, hDc, hFc, hqc⟩ := cl_cut (wc := (wd_c_X9_skip h1 h1_0 h1_f1 x_113 j49b_h1_f3)) hP hD hS hA [0] (by decide +kernel) rfl
                  have hKc := hK.sub (tys' := []) [] rfl
                  have hrv := va_recv hKc hPc (ci := 9) (q0 := 0) rfl rfl
                  refine va_callv (va_runV (As := []) (rest := []) ⟨hx, hb, hml, hown, hts⟩ (c_X9_skip l dC dI H.size h1 h1_0 h1_f1 x_113 j49b_h1_f3 (RG_w g_h1_f1 (by decide +kernel)) h_119 (RG_w h_108 (by decide +kernel))) (cwV 0 hts gf_c_X0_readClause_c_X9_skip rfl rfl rfl mdV_X9_skip ⟨Nat.le_of_ble_eq_true rfl, Nat.le_of_ble_eq_true rfl⟩) ⟨fun a U g mk q => by obtain ⟨q0, q1, qP, qK, qD⟩ := q; exact ⟨q0, q1, qP, va_K.moved (u := U) (U := U.calling g mk a) (Vm.Alike.refl U.vm) qK, qD⟩, hrv, fun U hU hW => ⟨rfl, by rw [hU], by rw [hU]; exact hPc, va_K.moved hW.alike hKc, hDc.weaken (fun _ _ _ _ => trivial)⟩⟩ rfl rfl hl.1 rfl (lv_room (Nat.le_of_ble_eq_true rfl)) dX0_readClause_108 ⟨Nat.le_of_ble_eq_true rfl, Nat.le_of_ble_eq_true rfl⟩) hS (fun q _ h => hFc q h) hFc (fun x_143 t H1 locs ht hvm hw hB hz1 hk1 hS => ?_)
                  as_aux_lemma =>
                  obtain ⟨hP1, hK1, hD1⟩ := hB
                  rw [ht] at hP1
                  obtain ⟨hP, hD⟩ := cl_put (w1 := (wd_c_X9_skip h1 h1_0 h1_f1 x_143 j49b_h1_f3)) (nw := (wd_c_X0_readClause h1 h1_0 h1_f1 x_143 j49b_h1_f3 h1_0 h1_0k h1_0c h0 h0_0 j49b_h0_f1 h0_f2 h0_f3 h0_0 h0_0k j49b_h0_0c)) hP hD [0] [4, 1, 2, 3] 4 rfl hqc (by decide +kernel) rfl hk1 hFc hP1 hD1
                  generalize H1 = H at hP hS ⊢
                  as_aux_lemma =>
                  rcases hw with ⟨h_144, h_145, h_146, h_147⟩
                  have h_147 : x_143 = _ := h_147
                  replace hEX := hEX.trans (exc1_eq h_147)
                  refine lv_aload_n hx hb dX0_readClause_111 rfl (lv_at hl 6 rfl) ?_
                  refine va_get (D := (dC, dI)) (ci := 0) (v := .ref h0_0) (C := RX0) (T := TX0) (N := 4) hx hb hts iw_c_X0_readClause_X0 hown hK hP 2 rfl rfl 0 (by decide +kernel) (hts (.fieldLink RX0 11 "BuoyVote$Borough" "values" "[I") (List.mem_of_getElem? (i := 75) rfl)) (fun _ h9 => h9) rfl dX0_readClause_112 ?_
                  refine lv_iload_n hx hb dX0_readClause_115 rfl (lv_at hl 4 rfl) ?_
                  refine lv_iload hx hb dX0_readClause_116 (lv_at hl 1 rfl) ?_
                  refine lv_iadd hx hb dX0_readClause_118 ?_
                  refine lv_topi (fun x_148 ex_148 => ?_)
                  replace hEX := hEX.trans (exl_eq ex_148)
                  have g_149 : RG x_148 4 67 := RG_add ex_148 g_j49b_l3 h_130 (by decide +kernel)
                  refine lv_aload_n hx hb dX0_readClause_119 rfl (lv_at hl 7 rfl) ?_
                  refine va_gets hx hb hE_2 hS hown (hts (.fieldLink RX0 100 "BuoyVote$Borough" "LOW" "[I") (List.mem_of_getElem? (i := 93) rfl)) (fun _ h9 => h9) dX0_readClause_120 ?_
                  refine va_gets hx hb hE_0 hS hown (hts (.fieldLink RX0 103 "BuoyVote$Borough" "FIRST" "[I") (List.mem_of_getElem? (i := 77) rfl)) (fun _ h9 => h9) dX0_readClause_123 ?_
                  as_aux_lemma =>
                  refine lv_iload_n hx hb dX0_readClause_126 rfl (lv_at hl 5 rfl) ?_
                  refine va_ti (v := .int 4) hx hb hE_1 hS (by unfold vp_in; decide) rfl dX0_readClause_127 ?_
                  refine lv_iload hx hb dX0_readClause_128 (lv_at hl 1 rfl) ?_
                  refine lv_iadd hx hb dX0_readClause_130 ?_
                  refine lv_topi (fun x_150 ex_150 => ?_)
                  replace hEX := hEX.trans (exl_eq ex_150)
                  have g_151 : RG x_150 4 11 := RG_add ex_150 (RG_k 4 4 rfl) h_130 (by decide +kernel)
                  refine va_ti hx hb hE_3 hS (RG_in g_151 (by decide +kernel)) rfl dX0_readClause_131 ?_
                  refine lv_topi (fun x_152 ex_152 => ?_)
                  replace hEX := hEX.trans (exl_eq ex_152)
                  have g_153 : RG x_152 0 1 := RG_tab ex_152 (by decide +kernel)
                  refine va_gets hx hb hE_4 hS hown (hts (.fieldLink RX0 106 "BuoyVote$Borough" "HIGH" "[I") (List.mem_of_getElem? (i := 94) rfl)) (fun _ h9 => h9) dX0_readClause_132 ?_
                  refine va_gets hx hb hE_0 hS hown (hts (.fieldLink RX0 103 "BuoyVote$Borough" "FIRST" "[I") (List.mem_of_getElem? (i := 77) rfl)) (fun _ h9 => h9) dX0_readClause_135 ?_
                  refine lv_iload_n hx hb dX0_readClause_138 rfl (lv_at hl 5 rfl) ?_
                  as_aux_lemma =>
                  refine va_ti (v := .int 4) hx hb hE_1 hS (by unfold vp_in; decide) rfl dX0_readClause_139 ?_
                  refine lv_iload hx hb dX0_readClause_140 (lv_at hl 1 rfl) ?_
                  refine lv_iadd hx hb dX0_readClause_142 ?_
                  refine lv_topi (fun x_154 ex_154 => ?_)
                  obtain rfl : x_150 = x_154 := ex_150.trans ex_154.symm
                  refine va_ti hx hb hE_5 hS (RG_in g_151 (by decide +kernel)) rfl dX0_readClause_143 ?_
                  refine lv_topi (fun x_155 ex_155 => ?_)
                  replace hEX := hEX.trans (exl_eq ex_155)
                  have g_156 : RG x_155 0 20 := RG_tab ex_155 (by decide +kernel)
                  obtain ⟨hPc, hDc, hFc, hqc⟩ := cl_cut (wc := (wd_c_X9_numberWithin h1 h1_0 h1_f1 x_143 j49b_h1_f3 h1_0 h1_0k h1_0c)) hP hD hS hA [0, 1] (by decide +kernel) rfl
                  have hKc := hK.sub (tys' := [(h1_0k, .int)]) [0] rfl
                  have hrv := va_recv hKc hPc (ci := 9) (q0 := 0) rfl rfl
                  refine va_calli (va_runV (As := [.int x_152, .int x_155]) (rest := [.int x_148, .ref h0_0]) ⟨hx, hb, hml, hown, hts⟩ (c_X9_numberWithin l dC dI H.size h1 x_152 x_155 h1_0 h1_f1 x_143 j49b_h1_f3 h1_0k h1_0c g_153 g_156 (RG_w g_h1_f1 (by decide +kernel)) (RG_w h_144 (by decide +kernel)) (RG_w h_108 (by decide +kernel)) a_h1_0c) (cwV 2 hts gf_c_X0_readClause_c_X9_numberWithin rfl rfl rfl mdV_X9_numberWithin ⟨Nat.le_of_ble_eq_true rfl, Nat.le_of_ble_eq_true rfl⟩) ⟨fun a U g mk q => by obtain ⟨q0, q1, qP, qK, qD⟩ := q; exact ⟨q0, q1, qP, va_K.moved (u := U) (U := U.calling g mk a) (Vm.Alike.refl U.vm) qK, qD⟩, hrv, fun U hU hW => ⟨rfl, by rw [hU], by rw [hU]; exact hPc, va_K.moved hW.alike hKc, hDc.weaken (fun _ _ _ _ => trivial)⟩⟩ rfl rfl hl.1 rfl (lv_room (Nat.le_of_ble_eq_true rfl)) dX0_readClause_144 ⟨Nat.le_of_ble_eq_true rfl, Nat.le_of_ble_eq_true rfl⟩) hS (fun q _ h => hFc q h) hFc (fun r_157 u t H1 locs ht hvm hw hB hz1 hk1 hS => ?_)
                  obtain ⟨x_158, x_159⟩ := u
                  obtain ⟨hP1, hK1, hD1⟩ := hB
                  rw [ht] at hP1
                  obtain ⟨hP, hD⟩ := cl_put (w1 := (wd_c_X9_numberWithin h1 h1_0 h1_f1 x_158 x_159 h1_0 h1_0k h1_0c)) (nw := (wd_c_X0_readClause h1 h1_0 h1_f1 x_158 x_159 h1_0 h1_0k h1_0c h0 h0_0 j49b_h0_f1 h0_f2 h0_f3 h0_0 h0_0k j49b_h0_0c)) hP hD [0, 1] [4, 5, 2, 3] 4 rfl hqc (by decide +kernel) rfl hk1 hFc hP1 hD1
                  generalize H1 = H at hP hS ⊢
                  as_aux_lemma =>
                  rcases hw with ⟨h_160, h_161, h_162, h_163, h_164⟩ | ⟨h_165, h_166, h_167, h_168, h_169, h_170⟩
                  · have h_164 : (r_157, x_158, x_159) = _ := h_164
                    replace hEX := hEX.trans (exc3_eq h_164)
                    replace hEX := hEX.trans (if_pos (show r_157 = (-1) from h_160))
                    rw [h_160]
                    refine va_iast hx hb hK hP hD hS 3 1 rfl rfl (RG_in g_149 (by decide +kernel)) dX0_readClause_147 (fun H locs hP hD hS => ?_)
                    have hP : va_P (dC, dI) vwCl (wd_c_X0_readClause h1 h1_0 h1_f1 x_158 x_159 h1_0 h1_0k h1_0c h0 h0_0 j49b_h0_f1 h0_f2 h0_f3 h0_0 h0_0k (upd j49b_h0_0c (x_148 : Int32).toNatClampNeg (-1))) H := hP
                    have hD : va_D A (wd_c_X0_readClause h1 h1_0 h1_f1 x_158 x_159 h1_0 h1_0k h1_0c h0 h0_0 j49b_h0_f1 h0_f2 h0_f3 h0_0 h0_0k (upd j49b_h0_0c (x_148 : Int32).toNatClampNeg (-1))) := hD
                    have l_172 : (upd j49b_h0_0c (x_148 : Int32).toNatClampNeg (-1)) (x_148 : Int32).toNatClampNeg = (-1) := pk_us
                    have a_173 : AI (upd j49b_h0_0c (x_148 : Int32).toNatClampNeg (-1)) (-1) 99 := AI_up a_j49b_h0_0c (RG_k (-1) (-1) rfl) (by decide +kernel)
                    generalize huw_171 : (upd j49b_h0_0c (x_148 : Int32).toNatClampNeg (-1)) = w_171 at hP hD a_173 l_172
                    replace hEX := hEX.trans (exl_eq huw_171.symm)
                    have hP : va_P (dC, dI) vwCl (wd_c_X0_readClause h1 h1_0 h1_f1 x_158 x_159 h1_0 h1_0k h1_0c h0 h0_0 j49b_h0_f1 h0_f2 h0_f3 h0_0 h0_0k w_171) H := hP
                    have hD : va_D A (wd_c_X0_readClause h1 h1_0 h1_f1 x_158 x_159 h1_0 h1_0k h1_0c h0 h0_0 j49b_h0_f1 h0_f2 h0_f3 h0_0 h0_0k w_171) := hD
                    obtain ⟨x_174, ex_174⟩ : ∃ y : Int32, y = j49b_l6 + 1 := ⟨_, rfl⟩
                    have g_175 : RG x_174 1 9 := RG_add ex_174 g_102 (RG_k 1 1 rfl) (by decide +kernel)
                    replace hEX := hEX.trans (exl_eq ex_174)
                    refine lv_iinc (v := x_174) (lv' := [(6, .int x_174), (5, .int x_141), (7, .int r_127), (4, .ref ts2), (3, .int j49b_l3), (2, .int 1), (0, .ref h0), (1, .ref h1)]) hx hb dX0_readClause_148 hl (k := 2) rfl (by rw [ex_174]; rfl) (Nat.le_of_ble_eq_true rfl) rfl (fun ls hl => ?_)
                    as_aux_lemma =>
                    refine lv_goto (tgt := 49) hx hb dX0_readClause_151 rfl ?_
                    exact hU _ _ _ (ih49b x_174 x_141 j49b_l3 x_158 x_159 j49b_h0_f1 w_171 (mu_s (MU_add ex_174 g_102 (q := 1) rfl (by decide +kernel)) hM49b) g_h0_f1 g_h0_f2 g_h0_f3 g_h1_f1 g_h1_f2 g_h1_f3 g_j49b_h0_f1 h_161 (RG_w h_162 (by decide +kernel)) g_j49b_l3 (RG_w g_175 (by decide +kernel)) a_173 hEX _ _ _ hP hD hS (lv_sub hl [0, 1, 3, 4, 5, 6, 7] rfl))
                  · have h_170 : (r_157, x_158, x_159) = _ := h_170
                    replace hEX := hEX.trans (exc3_eq h_170)
                    replace hEX := hEX.trans (if_neg (RG_neq (x := r_157) (c := (-1)) (show RG r_157 0 99 from h_165) (by decide +kernel)))
                    refine va_iast hx hb hK hP hD hS 3 1 rfl rfl (RG_in g_149 (by decide +kernel)) dX0_readClause_147 (fun H locs hP hD hS => ?_)
                    have hP : va_P (dC, dI) vwCl (wd_c_X0_readClause h1 h1_0 h1_f1 x_158 x_159 h1_0 h1_0k h1_0c h0 h0_0 j49b_h0_f1 h0_f2 h0_f3 h0_0 h0_0k (upd j49b_h0_0c (x_148 : Int32).toNatClampNeg r_157)) H := hP
                    have hD : va_D A (wd_c_X0_readClause h1 h1_0 h1_f1 x_158 x_159 h1_0 h1_0k h1_0c h0 h0_0 j49b_h0_f1 h0_f2 h0_f3 h0_0 h0_0k (upd j49b_h0_0c (x_148 : Int32).toNatClampNeg r_157)) := hD
                    have l_177 : (upd j49b_h0_0c (x_148 : Int32).toNatClampNeg r_157) (x_148 : Int32).toNatClampNeg = r_157 := pk_us
                    have a_178 : AI (upd j49b_h0_0c (x_148 : Int32).toNatClampNeg r_157) (-1) 99 := AI_up a_j49b_h0_0c h_165 (by decide +kernel)
                    generalize huw_176 : (upd j49b_h0_0c (x_148 : Int32).toNatClampNeg r_157) = w_176 at hP hD a_178 l_177
                    replace hEX := hEX.trans (exl_eq huw_176.symm)
                    have hP : va_P (dC, dI) vwCl (wd_c_X0_readClause h1 h1_0 h1_f1 x_158 x_159 h1_0 h1_0k h1_0c h0 h0_0 j49b_h0_f1 h0_f2 h0_f3 h0_0 h0_0k w_176) H := hP
                    have hD : va_D A (wd_c_X0_readClause h1 h1_0 h1_f1 x_158 x_159 h1_0 h1_0k h1_0c h0 h0_0 j49b_h0_f1 h0_f2 h0_f3 h0_0 h0_0k w_176) := hD
                    obtain ⟨x_179, ex_179⟩ : ∃ y : Int32, y = j49b_l6 + 1 := ⟨_, rfl⟩
                    have g_180 : RG x_179 1 9 := RG_add ex_179 g_102 (RG_k 1 1 rfl) (by decide +kernel)
                    replace hEX := hEX.trans (exl_eq ex_179)
                    refine lv_iinc (v := x_179) (lv' := [(6, .int x_179), (5, .int x_141), (7, .int r_127), (4, .ref ts2), (3, .int j49b_l3), (2, .int 1), (0, .ref h0), (1, .ref h1)]) hx hb dX0_readClause_148 hl (k := 2) rfl (by rw [ex_179]; rfl) (Nat.le_of_ble_eq_true rfl) rfl (fun ls hl => ?_)
                    as_aux_lemma =>
                    refine lv_goto (tgt := 49) hx hb dX0_readClause_151 rfl ?_
                    exact hU _ _ _ (ih49b x_179 x_141 j49b_l3 x_158 x_159 j49b_h0_f1 w_176 (mu_s (MU_add ex_179 g_102 (q := 1) rfl (by decide +kernel)) hM49b) g_h0_f1 g_h0_f2 g_h0_f3 g_h1_f1 g_h1_f2 g_h1_f3 g_j49b_h0_f1 (RG_w h_166 (by decide +kernel)) h_167 g_j49b_l3 (RG_w g_180 (by decide +kernel)) a_178 hEX _ _ _ hP hD hS (lv_sub hl [0, 1, 3, 4, 5, 6, 7] rfl))
                · replace hEX := hEX.trans (if_neg c_137)
                  have g_181 : RG x_135 1 1 := RG_ne1 g_136 (q := 0) rfl c_137 (by decide +kernel)
                  refine lv_aload_n hx hb dX0_readClause_93 rfl (lv_at hl 7 rfl) ?_
                  obtain ⟨hPc, hDc, hFc, hqc⟩ := cl_cut (wc := (wd_c_X9_refuseHere h1 h1_0 h1_f1 x_113 j49b_h1_f3)) hP hD hS hA [0] (by decide +kernel) rfl
                  have hKc := hK.sub (tys' := []) [] rfl
                  have hrv := va_recv hKc hPc (ci := 9) (q0 := 0) rfl rfl
                  refine va_callv (va_runV (As := []) (rest := []) ⟨hx, hb, hml, hown, hts⟩ (c_X9_refuseHere l dC dI H.size h1 h1_0 h1_f1 x_113 j49b_h1_f3 (RG_w g_h1_f1 (by decide +kernel)) (RG_w h_119 (by decide +kernel)) (RG_w h_108 (by decide +kernel))) (cwV 0 hts gf_c_X0_readClause_c_X9_refuseHere rfl rfl rfl mdV_X9_refuseHere ⟨Nat.le_of_ble_eq_true rfl, Nat.le_of_ble_eq_true rfl⟩) ⟨fun a U g mk q => by obtain ⟨q0, q1, qP, qK, qD⟩ := q; exact ⟨q0, q1, qP, va_K.moved (u := U) (U := U.calling g mk a) (Vm.Alike.refl U.vm) qK, qD⟩, hrv, fun U hU hW => ⟨rfl, by rw [hU], by rw [hU]; exact hPc, va_K.moved hW.alike hKc, hDc.weaken (fun _ _ _ _ => trivial)⟩⟩ rfl rfl hl.1 rfl (lv_room (Nat.le_of_ble_eq_true rfl)) dX0_readClause_94 ⟨Nat.le_of_ble_eq_true rfl, Nat.le_of_ble_eq_true rfl⟩) hS (fun q _ h => hFc q h) hFc (fun x_183 t H1 locs ht hvm hw hB hz1 hk1 hS => ?_)
                  obtain ⟨hP1, hK1, hD1⟩ := hB
                  rw [ht] at hP1
                  obtain ⟨hP, hD⟩ := cl_put (w1 := (wd_c_X9_refuseHere h1 h1_0 h1_f1 x_113 x_183)) (nw := (wd_c_X0_readClause h1 h1_0 h1_f1 x_113 x_183 h1_0 h1_0k h1_0c h0 h0_0 j49b_h0_f1 h0_f2 h0_f3 h0_0 h0_0k j49b_h0_0c)) hP hD [0] [4, 1, 2, 3] 4 rfl hqc (by decide +kernel) rfl hk1 hFc hP1 hD1
                  generalize H1 = H at hP hS ⊢
                  as_aux_lemma =>
                  rcases hw with ⟨h_184, h_185⟩
                  have h_185 : x_183 = _ := h_185
                  replace hEX := hEX.trans (exc1_eq h_185)
                  have hK9 := hK.sub (tys' := []) [] rfl
                  exact W.vret hx hb hr (fun t ht hW => ⟨⟨(x_113, x_183, j49b_h0_f1, h0_f2, h0_f3, j49b_h0_0c), rfl, ⟨(RG_w h_119 (by decide +kernel)), (RG_w h_184 (by decide +kernel)), (RG_w g_j49b_h0_f1 (by decide +kernel)), g_h0_f2, g_h0_f3, a_j49b_h0_0c, (hR.trans hEX).symm⟩, by rw [ht]; exact hP, va_K.moved hW.alike hK9, hD⟩, hS.F ht⟩) hS.2.2 dX0_readClause_97
              · replace hEX := hEX.trans (if_neg c_133)
                have d_186 := Int32.not_le.mp c_133
                have g_187 : RG r_127 0 (-1) := RG_lt1 h_130 (RG_k 0 0 rfl) d_186 (by decide +kernel)
                exact RG_dead (RG_lt1 h_130 (RG_k 0 0 rfl) d_186 (b' := (-1)) (by decide +kernel)) (by decide +kernel)
  have J49c : ∀ (n49c : Nat) (j49c_l6 : Int32) (j49c_l5 : Int32) (j49c_l3 : Int32) (j49c_h1_f2 : Int32) (j49c_h1_f3 : Int32) (j49c_h0_f2 : Int32) (j49c_h0_0c : Nat → Int32) (hM49c : MU j49c_l6 < n49c) (g_h0_f1 : RG h0_f1 0 8) (g_h0_f2 : RG h0_f2 0 2) (g_h0_f3 : RG h0_f3 0 1) (g_h1_f1 : RG h1_f1 1 240) (g_h1_f2 : RG h1_f2 0 240) (g_h1_f3 : RG h1_f3 (-1) 240) (g_j49c_h0_f2 : RG j49c_h0_f2 1 3) (g_j49c_h1_f2 : RG j49c_h1_f2 0 240) (g_j49c_h1_f3 : RG j49c_h1_f3 (-1) 240) (g_j49c_l3 : RG j49c_l3 68 76) (g_j49c_l6 : RG j49c_l6 0 5) (a_j49c_h0_0c : AI j49c_h0_0c (-1) 99) (hEX : RES = fx_c_X0_readClause_p49c h1_f1 h1_0c h0_f1 h0_f3 n49c j49c_l6 j49c_l5 j49c_l3 j49c_h1_f2 j49c_h1_f3 j49c_h0_f2 j49c_h0_0c) (H : Heap) (locs : List Loc) (ls : Array Slot) (hP : va_P (dC, dI) vwCl (wd_c_X0_readClause h1 h1_0 h1_f1 j49c_h1_f2 j49c_h1_f3 h1_0 h1_0k h1_0c h0 h0_0 h0_f1 j49c_h0_f2 h0_f3 h0_0 h0_0k j49c_h0_0c) H) (hD : va_D A (wd_c_X0_readClause h1 h1_0 h1_f1 j49c_h1_f2 j49c_h1_f3 h1_0 h1_0k h1_0c h0 h0_0 h0_f1 j49c_h0_f2 h0_f3 h0_0 h0_0k j49c_h0_0c)) (hS : va_S A s.heap H locs) (hl : lv_has ls 8 [(6, .int j49c_l6), (5, .int j49c_l5), (4, .ref ts3), (3, .int j49c_l3), (2, .int 2), (0, .ref h0), (1, .ref h1)]), G H locs (F0 m 49 ls []) := by
    as_aux_lemma =>
    intro n49c
    induction n49c with
    | zero => intros; exact absurd (by assumption) (Nat.not_lt_zero _)
    | succ n49c ih49c =>
      intro j49c_l6 j49c_l5 j49c_l3 j49c_h1_f2 j49c_h1_f3 j49c_h0_f2 j49c_h0_0c hM49c g_h0_f1 g_h0_f2 g_h0_f3 g_h1_f1 g_h1_f2 g_h1_f3 g_j49c_h0_f2 g_j49c_h1_f2 g_j49c_h1_f3 g_j49c_l3 g_j49c_l6 a_j49c_h0_0c hEX H locs ls hP hD hS hl
      refine hG _ _ _ ?_
      replace hEX := hEX.trans (if_pos (rfl : j49c_l6 = j49c_l6))
      refine lv_iload hx hb dX0_readClause_49 (lv_at hl 0 rfl) ?_
      refine lv_aload hx hb dX0_readClause_51 (lv_at hl 2 rfl) ?_
      obtain ⟨hPc, hDc, hFc, hqc⟩ := cl_cut (wc := []) hP hD hS hA [] (by decide +kernel) rfl
      have hKc := hK.sub (tys' := []) [] rfl
      have hrv := bv_Orecv hE_28 hS
      refine va_calli (va_runV (As := []) (rest := [.int j49c_l6]) ⟨hx, hb, hml, hown, hts⟩ (c_J0_length_8abf5_3 l dC dI H.size ts3 tv3) (cwV 0 hts gf_c_X0_readClause_c_J0_length_8abf5_3 rfl rfl rfl mdV_J0_length_8abf5 ⟨Nat.le_of_ble_eq_true rfl, Nat.le_of_ble_eq_true rfl⟩) ⟨fun a U g mk q => by obtain ⟨q0, q1, qP, qK, qD, qE0, qE1, qE2, qE3, qE4⟩ := q; exact ⟨q0, q1, qP, va_K.moved (u := U) (U := U.calling g mk a) (Vm.Alike.refl U.vm) qK, qD, va_OF.moved (u := U) (U := U.calling g mk a) (Vm.Alike.refl U.vm) qE0, va_T.moved (u := U) (U := U.calling g mk a) (Vm.Alike.refl U.vm) qE1, va_Z.moved (u := U) (U := U.calling g mk a) (Vm.Alike.refl U.vm) qE2, va_OF.moved (u := U) (U := U.calling g mk a) (Vm.Alike.refl U.vm) qE3, va_O.moved (u := U) (U := U.calling g mk a) (Vm.Alike.refl U.vm) qE4⟩, hrv, fun U hU hW => ⟨rfl, by rw [hU], by rw [hU]; exact hPc, va_K.moved hW.alike hKc, hDc.weaken (fun _ _ _ _ => trivial), va_OF.moved hW.alike (by rw [hU]; exact (hE_30.kept hS.2.1).narrow hFc), va_T.moved hW.alike (by rw [hU]; exact (hE_31.kept hS.2.1).narrow hFc), va_Z.moved hW.alike (by rw [hU]; exact (hE_10.kept hS.2.1).narrow hFc), va_OF.moved hW.alike (by rw [hU]; exact (hE_29.kept hS.2.1).narrow hFc), va_O.moved hW.alike (by rw [hU]; exact (hE_28.kept hS.2.1).narrow hFc)⟩⟩ rfl rfl hl.1 rfl (lv_room (Nat.le_of_ble_eq_true rfl)) dX0_readClause_53 ⟨Nat.le_of_ble_eq_true rfl, Nat.le_of_ble_eq_true rfl⟩) hS (fun q _ h => hFc q h) hFc (fun r_188 u t H1 locs ht hvm hw hB hz1 hk1 hS => ?_)
      obtain ⟨hP1, hK1, hD1⟩ := hB
      rw [ht] at hP1
      have hP := bv_still hP hk1
      generalize H1 = H at hP hS ⊢
      as_aux_lemma =>
      rcases hw with ⟨h_189, h_190⟩
      have h_190 : r_188 = _ := h_190
      replace hEX := hEX.trans (exc1_eq h_190)
      rw [h_189]
      refine lv_icmp_gt (tgt := 154) hx hb dX0_readClause_56 rfl (fun c_191 => ?_) (fun c_191 => ?_)
      · replace hEX := hEX.trans (if_pos c_191)
        have g_192 : RG j49c_l6 5 5 := RG_lt2 (RG_k 4 4 rfl) g_j49c_l6 c_191 (by decide +kernel)
        have hK9 := hK.sub (tys' := []) [] rfl
        exact W.vret hx hb hr (fun t ht hW => ⟨⟨(j49c_h1_f2, j49c_h1_f3, h0_f1, j49c_h0_f2, h0_f3, j49c_h0_0c), rfl, ⟨g_j49c_h1_f2, g_j49c_h1_f3, g_h0_f1, (RG_w g_j49c_h0_f2 (by decide +kernel)), g_h0_f3, a_j49c_h0_0c, (hR.trans hEX).symm⟩, by rw [ht]; exact hP, va_K.moved hW.alike hK9, hD⟩, hS.F ht⟩) hS.2.2 dX0_readClause_154
      · replace hEX := hEX.trans (if_neg c_191)
        have d_193 := Int32.not_lt.mp c_191
        have g_194 : RG j49c_l6 0 4 := RG_le1 g_j49c_l6 (RG_k 4 4 rfl) d_193 (by decide +kernel)
        refine lv_aload_n hx hb dX0_readClause_59 rfl (lv_at hl 6 rfl) ?_
        obtain ⟨hPc, hDc, hFc, hqc⟩ := cl_cut (wc := (wd_c_X9_isRight h1 h1_0 h1_f1 j49c_h1_f2 j49c_h1_f3)) hP hD hS hA [0] (by decide +kernel) rfl
        have hKc := hK.sub (tys' := []) [] rfl
        have hrv := va_recv hKc hPc (ci := 9) (q0 := 0) rfl rfl
        refine va_calli (va_runV (As := []) (rest := []) ⟨hx, hb, hml, hown, hts⟩ (c_X9_isRight l dC dI H.size h1 h1_0 h1_f1 j49c_h1_f2 j49c_h1_f3 (RG_w g_h1_f1 (by decide +kernel)) g_j49c_h1_f2 g_j49c_h1_f3) (cwV 0 hts gf_c_X0_readClause_c_X9_isRight rfl rfl rfl mdV_X9_isRight ⟨Nat.le_of_ble_eq_true rfl, Nat.le_of_ble_eq_true rfl⟩) ⟨fun a U g mk q => by obtain ⟨q0, q1, qP, qK, qD⟩ := q; exact ⟨q0, q1, qP, va_K.moved (u := U) (U := U.calling g mk a) (Vm.Alike.refl U.vm) qK, qD⟩, hrv, fun U hU hW => ⟨rfl, by rw [hU], by rw [hU]; exact hPc, va_K.moved hW.alike hKc, hDc.weaken (fun _ _ _ _ => trivial)⟩⟩ rfl rfl hl.1 rfl (lv_room (Nat.le_of_ble_eq_true rfl)) dX0_readClause_60 ⟨Nat.le_of_ble_eq_true rfl, Nat.le_of_ble_eq_true rfl⟩) hS (fun q _ h => hFc q h) hFc (fun r_195 u t H1 locs ht hvm hw hB hz1 hk1 hS => ?_)
        as_aux_lemma =>
        obtain ⟨hP1, hK1, hD1⟩ := hB
        rw [ht] at hP1
        obtain ⟨hP, hD⟩ := cl_put (w1 := (wd_c_X9_isRight h1 h1_0 h1_f1 j49c_h1_f2 j49c_h1_f3)) (nw := (wd_c_X0_readClause h1 h1_0 h1_f1 j49c_h1_f2 j49c_h1_f3 h1_0 h1_0k h1_0c h0 h0_0 h0_f1 j49c_h0_f2 h0_f3 h0_0 h0_0k j49c_h0_0c)) hP hD [0] [4, 1, 2, 3] 4 rfl hqc (by decide +kernel) rfl hk1 hFc hP1 hD1
        generalize H1 = H at hP hS ⊢
        as_aux_lemma =>
        rcases hw with ⟨h_196, h_197, h_198⟩ | ⟨h_199, h_200, h_201⟩
        · have h_198 : r_195 = _ := h_198
          replace hEX := hEX.trans (exc1_eq h_198)
          replace hEX := hEX.trans (if_pos (show r_195 = 0 from h_196))
          rw [h_196]
          refine lv_if_eq (tgt := 154) hx hb dX0_readClause_63 rfl (fun c_202 => ?_) (fun c_202 => absurd c_202 (by decide +kernel))
          have hK9 := hK.sub (tys' := []) [] rfl
          exact W.vret hx hb hr (fun t ht hW => ⟨⟨(j49c_h1_f2, j49c_h1_f3, h0_f1, j49c_h0_f2, h0_f3, j49c_h0_0c), rfl, ⟨g_j49c_h1_f2, (RG_w h_197 (by decide +kernel)), g_h0_f1, (RG_w g_j49c_h0_f2 (by decide +kernel)), g_h0_f3, a_j49c_h0_0c, (hR.trans hEX).symm⟩, by rw [ht]; exact hP, va_K.moved hW.alike hK9, hD⟩, hS.F ht⟩) hS.2.2 dX0_readClause_154
        · have h_201 : r_195 = _ := h_201
          replace hEX := hEX.trans (exc1_eq h_201)
          replace hEX := hEX.trans (if_neg (fun q9 : r_195 = 0 => absurd ((show r_195 = 1 from h_199).symm.trans q9) (by decide +kernel)))
          rw [h_199]
          refine lv_if_eq (tgt := 154) hx hb dX0_readClause_63 rfl (fun c_203 => absurd c_203 (by decide +kernel)) (fun c_203 => ?_)
          refine lv_aload hx hb dX0_readClause_66 (lv_at hl 2 rfl) ?_
          as_aux_lemma =>
          refine lv_aload_n hx hb dX0_readClause_68 rfl (lv_at hl 6 rfl) ?_
          obtain ⟨hPc, hDc, hFc, hqc⟩ := cl_cut (wc := (wd_c_X9_peek h1 h1_0 h1_f1 j49c_h1_f2 j49c_h1_f3 h1_0 h1_0k h1_0c)) hP hD hS hA [0, 1] (by decide +kernel) rfl
          have hKc := hK.sub (tys' := [(h1_0k, .int)]) [0] rfl
          have hrv := va_recv hKc hPc (ci := 9) (q0 := 0) rfl rfl
          refine va_calli (va_runV (As := []) (rest := [.ref ts3]) ⟨hx, hb, hml, hown, hts⟩ (c_X9_peek l dC dI H.size h1 h1_0 h1_f1 j49c_h1_f2 j49c_h1_f3 h1_0k h1_0c (RG_w g_h1_f1 (by decide +kernel)) g_j49c_h1_f2 (RG_w h_200 (by decide +kernel)) a_h1_0c) (cwV 0 hts gf_c_X0_readClause_c_X9_peek rfl rfl rfl mdV_X9_peek ⟨Nat.le_of_ble_eq_true rfl, Nat.le_of_ble_eq_true rfl⟩) ⟨fun a U g mk q => by obtain ⟨q0, q1, qP, qK, qD⟩ := q; exact ⟨q0, q1, qP, va_K.moved (u := U) (U := U.calling g mk a) (Vm.Alike.refl U.vm) qK, qD⟩, hrv, fun U hU hW => ⟨rfl, by rw [hU], by rw [hU]; exact hPc, va_K.moved hW.alike hKc, hDc.weaken (fun _ _ _ _ => trivial)⟩⟩ rfl rfl hl.1 rfl (lv_room (Nat.le_of_ble_eq_true rfl)) dX0_readClause_69 ⟨Nat.le_of_ble_eq_true rfl, Nat.le_of_ble_eq_true rfl⟩) hS (fun q _ h => hFc q h) hFc (fun r_204 x_205 t H1 locs ht hvm hw hB hz1 hk1 hS => ?_)
          obtain ⟨hP1, hK1, hD1⟩ := hB
          rw [ht] at hP1
          obtain ⟨hP, hD⟩ := cl_put (w1 := (wd_c_X9_peek h1 h1_0 h1_f1 x_205 j49c_h1_f3 h1_0 h1_0k h1_0c)) (nw := (wd_c_X0_readClause h1 h1_0 h1_f1 x_205 j49c_h1_f3 h1_0 h1_0k h1_0c h0 h0_0 h0_f1 j49c_h0_f2 h0_f3 h0_0 h0_0k j49c_h0_0c)) hP hD [0, 1] [4, 5, 2, 3] 4 rfl hqc (by decide +kernel) rfl hk1 hFc hP1 hD1
          generalize H1 = H at hP hS ⊢
          as_aux_lemma =>
          rcases hw with ⟨h_206, h_207, h_208, h_209⟩ | ⟨h_210, h_211, h_212, h_213, h_214⟩
          · have h_209 : (r_204, x_205) = _ := h_209
            replace hEX := hEX.trans (exc2_eq h_209)
            replace hEX := hEX.trans (if_pos (show r_204 = (-1) from h_206))
            rw [h_206]
            obtain ⟨hPc, hDc, hFc, hqc⟩ := cl_cut (wc := []) hP hD hS hA [] (by decide +kernel) rfl
            have hKc := hK.sub (tys' := []) [] rfl
            refine va_calli (va_runS (As := [.ref ts3, .int (-1)]) (rest := []) ⟨hx, hb, hml, hown, hts⟩ (c_X0_placeIn_6 l dC dI H.size ts3 (-1) (RG_k (-1) (-1) rfl)) (va_cwS 2 hts gf_c_X0_readClause_c_X0_placeIn_6 rfl rfl rfl md_X0_placeIn ⟨Nat.le_of_ble_eq_true rfl, Nat.le_of_ble_eq_true rfl⟩) ⟨fun a U g mk q => by obtain ⟨q0, q1, qP, qK, qD⟩ := q; exact ⟨q0, q1, qP, va_K.moved (u := U) (U := U.calling g mk a) (Vm.Alike.refl U.vm) qK, qD⟩, fun U hU hW => ⟨rfl, by rw [hU], by rw [hU]; exact hPc, va_K.moved hW.alike hKc, hDc.weaken (fun _ _ _ _ => trivial)⟩⟩ rfl rfl hl.1 rfl (lv_room (Nat.le_of_ble_eq_true rfl)) dX0_readClause_72 ⟨Nat.le_of_ble_eq_true rfl, Nat.le_of_ble_eq_true rfl⟩) hS (fun q _ h => hFc q h) hFc (fun r_215 u t H1 locs ht hvm hw hB hz1 hk1 hS => ?_)
            obtain ⟨hP1, hK1, hD1⟩ := hB
            rw [ht] at hP1
            have hP := bv_still hP hk1
            generalize H1 = H at hP hS ⊢
            as_aux_lemma =>
            rcases hw with ⟨h_216, h_217⟩
            have h_217 : r_215 = _ := h_217
            replace hEX := hEX.trans (exc1_eq h_217)
            rw [h_216]
            refine lv_istore (lv' := [(7, .int (-1)), (6, .int j49c_l6), (5, .int j49c_l5), (4, .ref ts3), (3, .int j49c_l3), (2, .int 2), (0, .ref h0), (1, .ref h1)]) hx hb dX0_readClause_75 hl (Nat.le_of_ble_eq_true rfl) rfl (fun ls hl => ?_)
            refine lv_iload hx hb dX0_readClause_77 (lv_at hl 0 rfl) ?_
            refine lv_if_ge (tgt := 83) hx hb dX0_readClause_79 rfl (fun c_218 => absurd c_218 (by decide +kernel)) (fun c_218 => ?_)
            have hK9 := hK.sub (tys' := []) [] rfl
            exact W.vret hx hb hr (fun t ht hW => ⟨⟨(x_205, j49c_h1_f3, h0_f1, j49c_h0_f2, h0_f3, j49c_h0_0c), rfl, ⟨h_207, (RG_w h_200 (by decide +kernel)), g_h0_f1, (RG_w g_j49c_h0_f2 (by decide +kernel)), g_h0_f3, a_j49c_h0_0c, (hR.trans hEX).symm⟩, by rw [ht]; exact hP, va_K.moved hW.alike hK9, hD⟩, hS.F ht⟩) hS.2.2 dX0_readClause_82
          · have h_214 : (r_204, x_205) = _ := h_214
            replace hEX := hEX.trans (exc2_eq h_214)
            replace hEX := hEX.trans (if_neg (RG_neq (x := r_204) (c := (-1)) (show RG r_204 0 255 from h_210) (by decide +kernel)))
            obtain ⟨hPc, hDc, hFc, hqc⟩ := cl_cut (wc := []) hP hD hS hA [] (by decide +kernel) rfl
            have hKc := hK.sub (tys' := []) [] rfl
            refine va_calli (va_runS (As := [.ref ts3, .int r_204]) (rest := []) ⟨hx, hb, hml, hown, hts⟩ (c_X0_placeIn_7 l dC dI H.size ts3 r_204 tv3 h_210) (va_cwS 2 hts gf_c_X0_readClause_c_X0_placeIn_7 rfl rfl rfl md_X0_placeIn ⟨Nat.le_of_ble_eq_true rfl, Nat.le_of_ble_eq_true rfl⟩) ⟨fun a U g mk q => by obtain ⟨q0, q1, qP, qK, qD, qE0, qE1, qE2, qE3, qE4⟩ := q; exact ⟨q0, q1, qP, va_K.moved (u := U) (U := U.calling g mk a) (Vm.Alike.refl U.vm) qK, qD, va_Z.moved (u := U) (U := U.calling g mk a) (Vm.Alike.refl U.vm) qE0, va_OF.moved (u := U) (U := U.calling g mk a) (Vm.Alike.refl U.vm) qE1, va_O.moved (u := U) (U := U.calling g mk a) (Vm.Alike.refl U.vm) qE2, va_OF.moved (u := U) (U := U.calling g mk a) (Vm.Alike.refl U.vm) qE3, va_T.moved (u := U) (U := U.calling g mk a) (Vm.Alike.refl U.vm) qE4⟩, fun U hU hW => ⟨rfl, by rw [hU], by rw [hU]; exact hPc, va_K.moved hW.alike hKc, hDc.weaken (fun _ _ _ _ => trivial), va_Z.moved hW.alike (by rw [hU]; exact (hE_10.kept hS.2.1).narrow hFc), va_OF.moved hW.alike (by rw [hU]; exact (hE_29.kept hS.2.1).narrow hFc), va_O.moved hW.alike (by rw [hU]; exact (hE_28.kept hS.2.1).narrow hFc), va_OF.moved hW.alike (by rw [hU]; exact (hE_30.kept hS.2.1).narrow hFc), va_T.moved hW.alike (by rw [hU]; exact (hE_31.kept hS.2.1).narrow hFc)⟩⟩ rfl rfl hl.1 rfl (lv_room (Nat.le_of_ble_eq_true rfl)) dX0_readClause_72 ⟨Nat.le_of_ble_eq_true rfl, Nat.le_of_ble_eq_true rfl⟩) hS (fun q _ h => hFc q h) hFc (fun r_219 u t H1 locs ht hvm hw hB hz1 hk1 hS => ?_)
            as_aux_lemma =>
            obtain ⟨hP1, hK1, hD1⟩ := hB
            rw [ht] at hP1
            have hP := bv_still hP hk1
            generalize H1 = H at hP hS ⊢
            as_aux_lemma =>
            rcases hw with ⟨h_220, h_221⟩ | ⟨h_222, h_223⟩
            · have h_221 : r_219 = _ := h_221
              replace hEX := hEX.trans (exc1_eq h_221)
              replace hEX := hEX.trans (if_pos (show r_219 = (-1) from h_220))
              rw [h_220]
              refine lv_istore (lv' := [(7, .int (-1)), (6, .int j49c_l6), (5, .int j49c_l5), (4, .ref ts3), (3, .int j49c_l3), (2, .int 2), (0, .ref h0), (1, .ref h1)]) hx hb dX0_readClause_75 hl (Nat.le_of_ble_eq_true rfl) rfl (fun ls hl => ?_)
              refine lv_iload hx hb dX0_readClause_77 (lv_at hl 0 rfl) ?_
              refine lv_if_ge (tgt := 83) hx hb dX0_readClause_79 rfl (fun c_224 => absurd c_224 (by decide +kernel)) (fun c_224 => ?_)
              have hK9 := hK.sub (tys' := []) [] rfl
              exact W.vret hx hb hr (fun t ht hW => ⟨⟨(x_205, j49c_h1_f3, h0_f1, j49c_h0_f2, h0_f3, j49c_h0_0c), rfl, ⟨(RG_w h_211 (by decide +kernel)), (RG_w h_200 (by decide +kernel)), g_h0_f1, (RG_w g_j49c_h0_f2 (by decide +kernel)), g_h0_f3, a_j49c_h0_0c, (hR.trans hEX).symm⟩, by rw [ht]; exact hP, va_K.moved hW.alike hK9, hD⟩, hS.F ht⟩) hS.2.2 dX0_readClause_82
            · have h_223 : r_219 = _ := h_223
              replace hEX := hEX.trans (exc1_eq h_223)
              replace hEX := hEX.trans (if_neg (RG_neq (x := r_219) (c := (-1)) (show RG r_219 0 3 from h_222) (by decide +kernel)))
              refine lv_istore (lv' := [(7, .int r_219), (6, .int j49c_l6), (5, .int j49c_l5), (4, .ref ts3), (3, .int j49c_l3), (2, .int 2), (0, .ref h0), (1, .ref h1)]) hx hb dX0_readClause_75 hl (Nat.le_of_ble_eq_true rfl) rfl (fun ls hl => ?_)
              as_aux_lemma =>
              refine lv_iload hx hb dX0_readClause_77 (lv_at hl 0 rfl) ?_
              refine lv_if_ge (tgt := 83) hx hb dX0_readClause_79 rfl (fun c_225 => ?_) (fun c_225 => ?_)
              · replace hEX := hEX.trans (if_pos c_225)
                refine lv_iload hx hb dX0_readClause_83 (lv_at hl 2 rfl) ?_
                refine lv_iload hx hb dX0_readClause_85 (lv_at hl 0 rfl) ?_
                refine lv_ishr hx hb dX0_readClause_87 ?_
                refine lv_topi (fun x_226 ex_226 => ?_)
                replace hEX := hEX.trans (exl_eq ex_226)
                refine lv_iconst (v := 1) hx hb dX0_readClause_88 kc_iconst_1 ?_
                refine lv_iand hx hb dX0_readClause_89 ?_
                refine lv_topi (fun x_227 ex_227 => ?_)
                replace hEX := hEX.trans (exl_eq ex_227)
                have g_228 : RG x_227 0 1 := RG_andr ex_227 (RG_k 1 1 rfl) (by decide +kernel)
                refine lv_if_eq (tgt := 98) hx hb dX0_readClause_90 rfl (fun c_229 => ?_) (fun c_229 => ?_)
                · replace hEX := hEX.trans (if_pos c_229)
                  have g_230 : RG x_227 0 0 := RG_eq1 g_228 (RG_k 0 0 rfl) c_229 (by decide +kernel)
                  refine lv_iload hx hb dX0_readClause_98 (lv_at hl 2 rfl) ?_
                  as_aux_lemma =>
                  refine lv_iconst (v := 1) hx hb dX0_readClause_100 kc_iconst_1 ?_
                  refine lv_iload hx hb dX0_readClause_101 (lv_at hl 0 rfl) ?_
                  refine lv_ishl hx hb dX0_readClause_103 ?_
                  refine lv_topi (fun x_231 ex_231 => ?_)
                  replace hEX := hEX.trans (exl_eq ex_231)
                  have g_232 : RG x_231 1 8 := RG_shl1 ex_231 h_222 (by decide +kernel)
                  refine lv_ior hx hb dX0_readClause_104 ?_
                  refine lv_topi (fun x_233 ex_233 => ?_)
                  replace hEX := hEX.trans (exl_eq ex_233)
                  refine lv_istore (lv' := [(5, .int x_233), (7, .int r_219), (6, .int j49c_l6), (4, .ref ts3), (3, .int j49c_l3), (2, .int 2), (0, .ref h0), (1, .ref h1)]) hx hb dX0_readClause_105 hl (Nat.le_of_ble_eq_true rfl) rfl (fun ls hl => ?_)
                  refine lv_aload_n hx hb dX0_readClause_107 rfl (lv_at hl 7 rfl) ?_
                  obtain ⟨hPc, hDc, hFc, hqc⟩ := cl_cut (wc := (wd_c_X9_skip h1 h1_0 h1_f1 x_205 j49c_h1_f3)) hP hD hS hA [0] (by decide +kernel) rfl
                  have hKc := hK.sub (tys' := []) [] rfl
                  have hrv := va_recv hKc hPc (ci := 9) (q0 := 0) rfl rfl
                  refine va_callv (va_runV (As := []) (rest := []) ⟨hx, hb, hml, hown, hts⟩ (c_X9_skip l dC dI H.size h1 h1_0 h1_f1 x_205 j49c_h1_f3 (RG_w g_h1_f1 (by decide +kernel)) h_211 (RG_w h_200 (by decide +kernel))) (cwV 0 hts gf_c_X0_readClause_c_X9_skip rfl rfl rfl mdV_X9_skip ⟨Nat.le_of_ble_eq_true rfl, Nat.le_of_ble_eq_true rfl⟩) ⟨fun a U g mk q => by obtain ⟨q0, q1, qP, qK, qD⟩ := q; exact ⟨q0, q1, qP, va_K.moved (u := U) (U := U.calling g mk a) (Vm.Alike.refl U.vm) qK, qD⟩, hrv, fun U hU hW => ⟨rfl, by rw [hU], by rw [hU]; exact hPc, va_K.moved hW.alike hKc, hDc.weaken (fun _ _ _ _ => trivial)⟩⟩ rfl rfl hl.1 rfl (lv_room (Nat.le_of_ble_eq_true rfl)) dX0_readClause_108 ⟨Nat.le_of_ble_eq_true rfl, Nat.le_of_ble_eq_true rfl⟩) hS (fun q _ h => hFc q h) hFc (fun x_235 t H1 locs ht hvm hw hB hz1 hk1 hS => ?_)
                  as_aux_lemma =>
                  obtain ⟨hP1, hK1, hD1⟩ := hB
                  rw [ht] at hP1
                  obtain ⟨hP, hD⟩ := cl_put (w1 := (wd_c_X9_skip h1 h1_0 h1_f1 x_235 j49c_h1_f3)) (nw := (wd_c_X0_readClause h1 h1_0 h1_f1 x_235 j49c_h1_f3 h1_0 h1_0k h1_0c h0 h0_0 h0_f1 j49c_h0_f2 h0_f3 h0_0 h0_0k j49c_h0_0c)) hP hD [0] [4, 1, 2, 3] 4 rfl hqc (by decide +kernel) rfl hk1 hFc hP1 hD1
                  generalize H1 = H at hP hS ⊢
                  as_aux_lemma =>
                  rcases hw with ⟨h_236, h_237, h_238, h_239⟩
                  have h_239 : x_235 = _ := h_239
                  replace hEX := hEX.trans (exc1_eq h_239)
                  refine lv_aload_n hx hb dX0_readClause_111 rfl (lv_at hl 6 rfl) ?_
                  refine va_get (D := (dC, dI)) (ci := 0) (v := .ref h0_0) (C := RX0) (T := TX0) (N := 4) hx hb hts iw_c_X0_readClause_X0 hown hK hP 2 rfl rfl 0 (by decide +kernel) (hts (.fieldLink RX0 11 "BuoyVote$Borough" "values" "[I") (List.mem_of_getElem? (i := 75) rfl)) (fun _ h9 => h9) rfl dX0_readClause_112 ?_
                  refine lv_iload_n hx hb dX0_readClause_115 rfl (lv_at hl 4 rfl) ?_
                  refine lv_iload hx hb dX0_readClause_116 (lv_at hl 1 rfl) ?_
                  refine lv_iadd hx hb dX0_readClause_118 ?_
                  refine lv_topi (fun x_240 ex_240 => ?_)
                  replace hEX := hEX.trans (exl_eq ex_240)
                  have g_241 : RG x_240 68 79 := RG_add ex_240 g_j49c_l3 h_222 (by decide +kernel)
                  refine lv_aload_n hx hb dX0_readClause_119 rfl (lv_at hl 7 rfl) ?_
                  refine va_gets hx hb hE_2 hS hown (hts (.fieldLink RX0 100 "BuoyVote$Borough" "LOW" "[I") (List.mem_of_getElem? (i := 93) rfl)) (fun _ h9 => h9) dX0_readClause_120 ?_
                  refine va_gets hx hb hE_0 hS hown (hts (.fieldLink RX0 103 "BuoyVote$Borough" "FIRST" "[I") (List.mem_of_getElem? (i := 77) rfl)) (fun _ h9 => h9) dX0_readClause_123 ?_
                  as_aux_lemma =>
                  refine lv_iload_n hx hb dX0_readClause_126 rfl (lv_at hl 5 rfl) ?_
                  refine va_ti (v := .int 12) hx hb hE_1 hS (by unfold vp_in; decide) rfl dX0_readClause_127 ?_
                  refine lv_iload hx hb dX0_readClause_128 (lv_at hl 1 rfl) ?_
                  refine lv_iadd hx hb dX0_readClause_130 ?_
                  refine lv_topi (fun x_242 ex_242 => ?_)
                  replace hEX := hEX.trans (exl_eq ex_242)
                  have g_243 : RG x_242 12 15 := RG_add ex_242 (RG_k 12 12 rfl) h_222 (by decide +kernel)
                  refine va_ti hx hb hE_3 hS (RG_in g_243 (by decide +kernel)) rfl dX0_readClause_131 ?_
                  refine lv_topi (fun x_244 ex_244 => ?_)
                  replace hEX := hEX.trans (exl_eq ex_244)
                  have g_245 : RG x_244 0 1 := RG_tab ex_244 (by decide +kernel)
                  refine va_gets hx hb hE_4 hS hown (hts (.fieldLink RX0 106 "BuoyVote$Borough" "HIGH" "[I") (List.mem_of_getElem? (i := 94) rfl)) (fun _ h9 => h9) dX0_readClause_132 ?_
                  refine va_gets hx hb hE_0 hS hown (hts (.fieldLink RX0 103 "BuoyVote$Borough" "FIRST" "[I") (List.mem_of_getElem? (i := 77) rfl)) (fun _ h9 => h9) dX0_readClause_135 ?_
                  refine lv_iload_n hx hb dX0_readClause_138 rfl (lv_at hl 5 rfl) ?_
                  as_aux_lemma =>
                  refine va_ti (v := .int 12) hx hb hE_1 hS (by unfold vp_in; decide) rfl dX0_readClause_139 ?_
                  refine lv_iload hx hb dX0_readClause_140 (lv_at hl 1 rfl) ?_
                  refine lv_iadd hx hb dX0_readClause_142 ?_
                  refine lv_topi (fun x_246 ex_246 => ?_)
                  obtain rfl : x_242 = x_246 := ex_242.trans ex_246.symm
                  refine va_ti hx hb hE_5 hS (RG_in g_243 (by decide +kernel)) rfl dX0_readClause_143 ?_
                  refine lv_topi (fun x_247 ex_247 => ?_)
                  replace hEX := hEX.trans (exl_eq ex_247)
                  have g_248 : RG x_247 0 20 := RG_tab ex_247 (by decide +kernel)
                  obtain ⟨hPc, hDc, hFc, hqc⟩ := cl_cut (wc := (wd_c_X9_numberWithin h1 h1_0 h1_f1 x_235 j49c_h1_f3 h1_0 h1_0k h1_0c)) hP hD hS hA [0, 1] (by decide +kernel) rfl
                  have hKc := hK.sub (tys' := [(h1_0k, .int)]) [0] rfl
                  have hrv := va_recv hKc hPc (ci := 9) (q0 := 0) rfl rfl
                  refine va_calli (va_runV (As := [.int x_244, .int x_247]) (rest := [.int x_240, .ref h0_0]) ⟨hx, hb, hml, hown, hts⟩ (c_X9_numberWithin l dC dI H.size h1 x_244 x_247 h1_0 h1_f1 x_235 j49c_h1_f3 h1_0k h1_0c g_245 g_248 (RG_w g_h1_f1 (by decide +kernel)) (RG_w h_236 (by decide +kernel)) (RG_w h_200 (by decide +kernel)) a_h1_0c) (cwV 2 hts gf_c_X0_readClause_c_X9_numberWithin rfl rfl rfl mdV_X9_numberWithin ⟨Nat.le_of_ble_eq_true rfl, Nat.le_of_ble_eq_true rfl⟩) ⟨fun a U g mk q => by obtain ⟨q0, q1, qP, qK, qD⟩ := q; exact ⟨q0, q1, qP, va_K.moved (u := U) (U := U.calling g mk a) (Vm.Alike.refl U.vm) qK, qD⟩, hrv, fun U hU hW => ⟨rfl, by rw [hU], by rw [hU]; exact hPc, va_K.moved hW.alike hKc, hDc.weaken (fun _ _ _ _ => trivial)⟩⟩ rfl rfl hl.1 rfl (lv_room (Nat.le_of_ble_eq_true rfl)) dX0_readClause_144 ⟨Nat.le_of_ble_eq_true rfl, Nat.le_of_ble_eq_true rfl⟩) hS (fun q _ h => hFc q h) hFc (fun r_249 u t H1 locs ht hvm hw hB hz1 hk1 hS => ?_)
                  obtain ⟨x_250, x_251⟩ := u
                  obtain ⟨hP1, hK1, hD1⟩ := hB
                  rw [ht] at hP1
                  obtain ⟨hP, hD⟩ := cl_put (w1 := (wd_c_X9_numberWithin h1 h1_0 h1_f1 x_250 x_251 h1_0 h1_0k h1_0c)) (nw := (wd_c_X0_readClause h1 h1_0 h1_f1 x_250 x_251 h1_0 h1_0k h1_0c h0 h0_0 h0_f1 j49c_h0_f2 h0_f3 h0_0 h0_0k j49c_h0_0c)) hP hD [0, 1] [4, 5, 2, 3] 4 rfl hqc (by decide +kernel) rfl hk1 hFc hP1 hD1
                  generalize H1 = H at hP hS ⊢
                  as_aux_lemma =>
                  rcases hw with ⟨h_252, h_253, h_254, h_255, h_256⟩ | ⟨h_257, h_258, h_259, h_260, h_261, h_262⟩
                  · have h_256 : (r_249, x_250, x_251) = _ := h_256
                    replace hEX := hEX.trans (exc3_eq h_256)
                    replace hEX := hEX.trans (if_pos (show r_249 = (-1) from h_252))
                    rw [h_252]
                    refine va_iast hx hb hK hP hD hS 3 1 rfl rfl (RG_in g_241 (by decide +kernel)) dX0_readClause_147 (fun H locs hP hD hS => ?_)
                    have hP : va_P (dC, dI) vwCl (wd_c_X0_readClause h1 h1_0 h1_f1 x_250 x_251 h1_0 h1_0k h1_0c h0 h0_0 h0_f1 j49c_h0_f2 h0_f3 h0_0 h0_0k (upd j49c_h0_0c (x_240 : Int32).toNatClampNeg (-1))) H := hP
                    have hD : va_D A (wd_c_X0_readClause h1 h1_0 h1_f1 x_250 x_251 h1_0 h1_0k h1_0c h0 h0_0 h0_f1 j49c_h0_f2 h0_f3 h0_0 h0_0k (upd j49c_h0_0c (x_240 : Int32).toNatClampNeg (-1))) := hD
                    have l_264 : (upd j49c_h0_0c (x_240 : Int32).toNatClampNeg (-1)) (x_240 : Int32).toNatClampNeg = (-1) := pk_us
                    have a_265 : AI (upd j49c_h0_0c (x_240 : Int32).toNatClampNeg (-1)) (-1) 99 := AI_up a_j49c_h0_0c (RG_k (-1) (-1) rfl) (by decide +kernel)
                    generalize huw_263 : (upd j49c_h0_0c (x_240 : Int32).toNatClampNeg (-1)) = w_263 at hP hD a_265 l_264
                    replace hEX := hEX.trans (exl_eq huw_263.symm)
                    have hP : va_P (dC, dI) vwCl (wd_c_X0_readClause h1 h1_0 h1_f1 x_250 x_251 h1_0 h1_0k h1_0c h0 h0_0 h0_f1 j49c_h0_f2 h0_f3 h0_0 h0_0k w_263) H := hP
                    have hD : va_D A (wd_c_X0_readClause h1 h1_0 h1_f1 x_250 x_251 h1_0 h1_0k h1_0c h0 h0_0 h0_f1 j49c_h0_f2 h0_f3 h0_0 h0_0k w_263) := hD
                    obtain ⟨x_266, ex_266⟩ : ∃ y : Int32, y = j49c_l6 + 1 := ⟨_, rfl⟩
                    have g_267 : RG x_266 1 5 := RG_add ex_266 g_194 (RG_k 1 1 rfl) (by decide +kernel)
                    replace hEX := hEX.trans (exl_eq ex_266)
                    refine lv_iinc (v := x_266) (lv' := [(6, .int x_266), (5, .int x_233), (7, .int r_219), (4, .ref ts3), (3, .int j49c_l3), (2, .int 2), (0, .ref h0), (1, .ref h1)]) hx hb dX0_readClause_148 hl (k := 2) rfl (by rw [ex_266]; rfl) (Nat.le_of_ble_eq_true rfl) rfl (fun ls hl => ?_)
                    as_aux_lemma =>
                    refine lv_goto (tgt := 49) hx hb dX0_readClause_151 rfl ?_
                    exact hU _ _ _ (ih49c x_266 x_233 j49c_l3 x_250 x_251 j49c_h0_f2 w_263 (mu_s (MU_add ex_266 g_194 (q := 1) rfl (by decide +kernel)) hM49c) g_h0_f1 g_h0_f2 g_h0_f3 g_h1_f1 g_h1_f2 g_h1_f3 g_j49c_h0_f2 h_253 (RG_w h_254 (by decide +kernel)) g_j49c_l3 (RG_w g_267 (by decide +kernel)) a_265 hEX _ _ _ hP hD hS (lv_sub hl [0, 1, 3, 4, 5, 6, 7] rfl))
                  · have h_262 : (r_249, x_250, x_251) = _ := h_262
                    replace hEX := hEX.trans (exc3_eq h_262)
                    replace hEX := hEX.trans (if_neg (RG_neq (x := r_249) (c := (-1)) (show RG r_249 0 99 from h_257) (by decide +kernel)))
                    refine va_iast hx hb hK hP hD hS 3 1 rfl rfl (RG_in g_241 (by decide +kernel)) dX0_readClause_147 (fun H locs hP hD hS => ?_)
                    have hP : va_P (dC, dI) vwCl (wd_c_X0_readClause h1 h1_0 h1_f1 x_250 x_251 h1_0 h1_0k h1_0c h0 h0_0 h0_f1 j49c_h0_f2 h0_f3 h0_0 h0_0k (upd j49c_h0_0c (x_240 : Int32).toNatClampNeg r_249)) H := hP
                    have hD : va_D A (wd_c_X0_readClause h1 h1_0 h1_f1 x_250 x_251 h1_0 h1_0k h1_0c h0 h0_0 h0_f1 j49c_h0_f2 h0_f3 h0_0 h0_0k (upd j49c_h0_0c (x_240 : Int32).toNatClampNeg r_249)) := hD
                    have l_269 : (upd j49c_h0_0c (x_240 : Int32).toNatClampNeg r_249) (x_240 : Int32).toNatClampNeg = r_249 := pk_us
                    have a_270 : AI (upd j49c_h0_0c (x_240 : Int32).toNatClampNeg r_249) (-1) 99 := AI_up a_j49c_h0_0c h_257 (by decide +kernel)
                    generalize huw_268 : (upd j49c_h0_0c (x_240 : Int32).toNatClampNeg r_249) = w_268 at hP hD a_270 l_269
                    replace hEX := hEX.trans (exl_eq huw_268.symm)
                    have hP : va_P (dC, dI) vwCl (wd_c_X0_readClause h1 h1_0 h1_f1 x_250 x_251 h1_0 h1_0k h1_0c h0 h0_0 h0_f1 j49c_h0_f2 h0_f3 h0_0 h0_0k w_268) H := hP
                    have hD : va_D A (wd_c_X0_readClause h1 h1_0 h1_f1 x_250 x_251 h1_0 h1_0k h1_0c h0 h0_0 h0_f1 j49c_h0_f2 h0_f3 h0_0 h0_0k w_268) := hD
                    obtain ⟨x_271, ex_271⟩ : ∃ y : Int32, y = j49c_l6 + 1 := ⟨_, rfl⟩
                    have g_272 : RG x_271 1 5 := RG_add ex_271 g_194 (RG_k 1 1 rfl) (by decide +kernel)
                    replace hEX := hEX.trans (exl_eq ex_271)
                    refine lv_iinc (v := x_271) (lv' := [(6, .int x_271), (5, .int x_233), (7, .int r_219), (4, .ref ts3), (3, .int j49c_l3), (2, .int 2), (0, .ref h0), (1, .ref h1)]) hx hb dX0_readClause_148 hl (k := 2) rfl (by rw [ex_271]; rfl) (Nat.le_of_ble_eq_true rfl) rfl (fun ls hl => ?_)
                    as_aux_lemma =>
                    refine lv_goto (tgt := 49) hx hb dX0_readClause_151 rfl ?_
                    exact hU _ _ _ (ih49c x_271 x_233 j49c_l3 x_250 x_251 j49c_h0_f2 w_268 (mu_s (MU_add ex_271 g_194 (q := 1) rfl (by decide +kernel)) hM49c) g_h0_f1 g_h0_f2 g_h0_f3 g_h1_f1 g_h1_f2 g_h1_f3 g_j49c_h0_f2 (RG_w h_258 (by decide +kernel)) h_259 g_j49c_l3 (RG_w g_272 (by decide +kernel)) a_270 hEX _ _ _ hP hD hS (lv_sub hl [0, 1, 3, 4, 5, 6, 7] rfl))
                · replace hEX := hEX.trans (if_neg c_229)
                  have g_273 : RG x_227 1 1 := RG_ne1 g_228 (q := 0) rfl c_229 (by decide +kernel)
                  refine lv_aload_n hx hb dX0_readClause_93 rfl (lv_at hl 7 rfl) ?_
                  obtain ⟨hPc, hDc, hFc, hqc⟩ := cl_cut (wc := (wd_c_X9_refuseHere h1 h1_0 h1_f1 x_205 j49c_h1_f3)) hP hD hS hA [0] (by decide +kernel) rfl
                  have hKc := hK.sub (tys' := []) [] rfl
                  have hrv := va_recv hKc hPc (ci := 9) (q0 := 0) rfl rfl
                  refine va_callv (va_runV (As := []) (rest := []) ⟨hx, hb, hml, hown, hts⟩ (c_X9_refuseHere l dC dI H.size h1 h1_0 h1_f1 x_205 j49c_h1_f3 (RG_w g_h1_f1 (by decide +kernel)) (RG_w h_211 (by decide +kernel)) (RG_w h_200 (by decide +kernel))) (cwV 0 hts gf_c_X0_readClause_c_X9_refuseHere rfl rfl rfl mdV_X9_refuseHere ⟨Nat.le_of_ble_eq_true rfl, Nat.le_of_ble_eq_true rfl⟩) ⟨fun a U g mk q => by obtain ⟨q0, q1, qP, qK, qD⟩ := q; exact ⟨q0, q1, qP, va_K.moved (u := U) (U := U.calling g mk a) (Vm.Alike.refl U.vm) qK, qD⟩, hrv, fun U hU hW => ⟨rfl, by rw [hU], by rw [hU]; exact hPc, va_K.moved hW.alike hKc, hDc.weaken (fun _ _ _ _ => trivial)⟩⟩ rfl rfl hl.1 rfl (lv_room (Nat.le_of_ble_eq_true rfl)) dX0_readClause_94 ⟨Nat.le_of_ble_eq_true rfl, Nat.le_of_ble_eq_true rfl⟩) hS (fun q _ h => hFc q h) hFc (fun x_275 t H1 locs ht hvm hw hB hz1 hk1 hS => ?_)
                  obtain ⟨hP1, hK1, hD1⟩ := hB
                  rw [ht] at hP1
                  obtain ⟨hP, hD⟩ := cl_put (w1 := (wd_c_X9_refuseHere h1 h1_0 h1_f1 x_205 x_275)) (nw := (wd_c_X0_readClause h1 h1_0 h1_f1 x_205 x_275 h1_0 h1_0k h1_0c h0 h0_0 h0_f1 j49c_h0_f2 h0_f3 h0_0 h0_0k j49c_h0_0c)) hP hD [0] [4, 1, 2, 3] 4 rfl hqc (by decide +kernel) rfl hk1 hFc hP1 hD1
                  generalize H1 = H at hP hS ⊢
                  as_aux_lemma =>
                  rcases hw with ⟨h_276, h_277⟩
                  have h_277 : x_275 = _ := h_277
                  replace hEX := hEX.trans (exc1_eq h_277)
                  have hK9 := hK.sub (tys' := []) [] rfl
                  exact W.vret hx hb hr (fun t ht hW => ⟨⟨(x_205, x_275, h0_f1, j49c_h0_f2, h0_f3, j49c_h0_0c), rfl, ⟨(RG_w h_211 (by decide +kernel)), (RG_w h_276 (by decide +kernel)), g_h0_f1, (RG_w g_j49c_h0_f2 (by decide +kernel)), g_h0_f3, a_j49c_h0_0c, (hR.trans hEX).symm⟩, by rw [ht]; exact hP, va_K.moved hW.alike hK9, hD⟩, hS.F ht⟩) hS.2.2 dX0_readClause_97
              · replace hEX := hEX.trans (if_neg c_225)
                have d_278 := Int32.not_le.mp c_225
                have g_279 : RG r_219 0 (-1) := RG_lt1 h_222 (RG_k 0 0 rfl) d_278 (by decide +kernel)
                exact RG_dead (RG_lt1 h_222 (RG_k 0 0 rfl) d_278 (b' := (-1)) (by decide +kernel)) (by decide +kernel)
  refine hG _ _ _ ?_
  refine va_ldcS hx hb hown hE_12 dX0_readClause_0 ?_
  refine lv_aload_n hx hb dX0_readClause_2 rfl (lv_at hl 1 rfl) ?_
  obtain ⟨hPc, hDc, hFc, hqc⟩ := cl_cut (wc := (wd_c_X9_peek h1 h1_0 h1_f1 h1_f2 h1_f3 h1_0 h1_0k h1_0c)) hP hD hS hA [0, 1] (by decide +kernel) rfl
  have hKc := hK.sub (tys' := [(h1_0k, .int)]) [0] rfl
  have hrv := va_recv hKc hPc (ci := 9) (q0 := 0) rfl rfl
  refine va_calli (va_runV (As := []) (rest := [.ref ts0]) ⟨hx, hb, hml, hown, hts⟩ (c_X9_peek l dC dI H.size h1 h1_0 h1_f1 h1_f2 h1_f3 h1_0k h1_0c g_h1_f1 g_h1_f2 g_h1_f3 a_h1_0c) (cwV 0 hts gf_c_X0_readClause_c_X9_peek rfl rfl rfl mdV_X9_peek ⟨Nat.le_of_ble_eq_true rfl, Nat.le_of_ble_eq_true rfl⟩) ⟨fun a U g mk q => by obtain ⟨q0, q1, qP, qK, qD⟩ := q; exact ⟨q0, q1, qP, va_K.moved (u := U) (U := U.calling g mk a) (Vm.Alike.refl U.vm) qK, qD⟩, hrv, fun U hU hW => ⟨rfl, by rw [hU], by rw [hU]; exact hPc, va_K.moved hW.alike hKc, hDc.weaken (fun _ _ _ _ => trivial)⟩⟩ rfl rfl hl.1 rfl (lv_room (Nat.le_of_ble_eq_true rfl)) dX0_readClause_3 ⟨Nat.le_of_ble_eq_true rfl, Nat.le_of_ble_eq_true rfl⟩) hS (fun q _ h => hFc q h) hFc (fun r_280 x_281 t H1 locs ht hvm hw hB hz1 hk1 hS => ?_)
  as_aux_lemma =>
  obtain ⟨hP1, hK1, hD1⟩ := hB
  rw [ht] at hP1
  obtain ⟨hP, hD⟩ := cl_put (w1 := (wd_c_X9_peek h1 h1_0 h1_f1 x_281 h1_f3 h1_0 h1_0k h1_0c)) (nw := (wd_c_X0_readClause h1 h1_0 h1_f1 x_281 h1_f3 h1_0 h1_0k h1_0c h0 h0_0 h0_f1 h0_f2 h0_f3 h0_0 h0_0k h0_0c)) hP hD [0, 1] [4, 5, 2, 3] 4 rfl hqc (by decide +kernel) rfl hk1 hFc hP1 hD1
  generalize H1 = H at hP hS ⊢
  as_aux_lemma =>
  rcases hw with ⟨h_282, h_283, h_284, h_285⟩ | ⟨h_286, h_287, h_288, h_289, h_290⟩
  · have h_285 : (r_280, x_281) = _ := h_285
    replace hEX := hEX.trans (exc2_eq h_285)
    replace hEX := hEX.trans (if_pos (show r_280 = (-1) from h_282))
    rw [h_282]
    obtain ⟨hPc, hDc, hFc, hqc⟩ := cl_cut (wc := []) hP hD hS hA [] (by decide +kernel) rfl
    have hKc := hK.sub (tys' := []) [] rfl
    refine va_calli (va_runS (As := [.ref ts0, .int (-1)]) (rest := []) ⟨hx, hb, hml, hown, hts⟩ (c_X0_placeIn l dC dI H.size ts0 (-1) (RG_k (-1) (-1) rfl)) (va_cwS 2 hts gf_c_X0_readClause_c_X0_placeIn rfl rfl rfl md_X0_placeIn ⟨Nat.le_of_ble_eq_true rfl, Nat.le_of_ble_eq_true rfl⟩) ⟨fun a U g mk q => by obtain ⟨q0, q1, qP, qK, qD⟩ := q; exact ⟨q0, q1, qP, va_K.moved (u := U) (U := U.calling g mk a) (Vm.Alike.refl U.vm) qK, qD⟩, fun U hU hW => ⟨rfl, by rw [hU], by rw [hU]; exact hPc, va_K.moved hW.alike hKc, hDc.weaken (fun _ _ _ _ => trivial)⟩⟩ rfl rfl hl.1 rfl (lv_room (Nat.le_of_ble_eq_true rfl)) dX0_readClause_6 ⟨Nat.le_of_ble_eq_true rfl, Nat.le_of_ble_eq_true rfl⟩) hS (fun q _ h => hFc q h) hFc (fun r_291 u t H1 locs ht hvm hw hB hz1 hk1 hS => ?_)
    obtain ⟨hP1, hK1, hD1⟩ := hB
    rw [ht] at hP1
    have hP := bv_still hP hk1
    generalize H1 = H at hP hS ⊢
    as_aux_lemma =>
    rcases hw with ⟨h_292, h_293⟩
    have h_293 : r_291 = _ := h_293
    replace hEX := hEX.trans (exc1_eq h_293)
    rw [h_292]
    refine lv_istore_n (lv' := [(2, .int (-1)), (0, .ref h0), (1, .ref h1)]) hx hb dX0_readClause_9 rfl hl (Nat.le_of_ble_eq_true rfl) rfl (fun ls hl => ?_)
    refine lv_iload_n hx hb dX0_readClause_10 rfl (lv_at hl 0 rfl) ?_
    refine lv_if_lt (tgt := 22) hx hb dX0_readClause_11 rfl (fun c_294 => ?_) (fun c_294 => absurd c_294 (by decide +kernel))
    exact hU _ _ _ (J22 x_281 g_h0_f1 g_h0_f2 g_h0_f3 g_h1_f1 g_h1_f2 g_h1_f3 h_283 hEX _ _ _ hP hD hS (lv_sub hl [2] rfl))
  · have h_290 : (r_280, x_281) = _ := h_290
    replace hEX := hEX.trans (exc2_eq h_290)
    replace hEX := hEX.trans (if_neg (RG_neq (x := r_280) (c := (-1)) (show RG r_280 0 255 from h_286) (by decide +kernel)))
    obtain ⟨hPc, hDc, hFc, hqc⟩ := cl_cut (wc := []) hP hD hS hA [] (by decide +kernel) rfl
    have hKc := hK.sub (tys' := []) [] rfl
    refine va_calli (va_runS (As := [.ref ts0, .int r_280]) (rest := []) ⟨hx, hb, hml, hown, hts⟩ (c_X0_placeIn_1 l dC dI H.size ts0 r_280 tv0 h_286) (va_cwS 2 hts gf_c_X0_readClause_c_X0_placeIn_1 rfl rfl rfl md_X0_placeIn ⟨Nat.le_of_ble_eq_true rfl, Nat.le_of_ble_eq_true rfl⟩) ⟨fun a U g mk q => by obtain ⟨q0, q1, qP, qK, qD, qE0, qE1, qE2, qE3, qE4⟩ := q; exact ⟨q0, q1, qP, va_K.moved (u := U) (U := U.calling g mk a) (Vm.Alike.refl U.vm) qK, qD, va_Z.moved (u := U) (U := U.calling g mk a) (Vm.Alike.refl U.vm) qE0, va_OF.moved (u := U) (U := U.calling g mk a) (Vm.Alike.refl U.vm) qE1, va_O.moved (u := U) (U := U.calling g mk a) (Vm.Alike.refl U.vm) qE2, va_OF.moved (u := U) (U := U.calling g mk a) (Vm.Alike.refl U.vm) qE3, va_T.moved (u := U) (U := U.calling g mk a) (Vm.Alike.refl U.vm) qE4⟩, fun U hU hW => ⟨rfl, by rw [hU], by rw [hU]; exact hPc, va_K.moved hW.alike hKc, hDc.weaken (fun _ _ _ _ => trivial), va_Z.moved hW.alike (by rw [hU]; exact (hE_10.kept hS.2.1).narrow hFc), va_OF.moved hW.alike (by rw [hU]; exact (hE_14.kept hS.2.1).narrow hFc), va_O.moved hW.alike (by rw [hU]; exact (hE_13.kept hS.2.1).narrow hFc), va_OF.moved hW.alike (by rw [hU]; exact (hE_15.kept hS.2.1).narrow hFc), va_T.moved hW.alike (by rw [hU]; exact (hE_16.kept hS.2.1).narrow hFc)⟩⟩ rfl rfl hl.1 rfl (lv_room (Nat.le_of_ble_eq_true rfl)) dX0_readClause_6 ⟨Nat.le_of_ble_eq_true rfl, Nat.le_of_ble_eq_true rfl⟩) hS (fun q _ h => hFc q h) hFc (fun r_295 u t H1 locs ht hvm hw hB hz1 hk1 hS => ?_)
    as_aux_lemma =>
    obtain ⟨hP1, hK1, hD1⟩ := hB
    rw [ht] at hP1
    have hP := bv_still hP hk1
    generalize H1 = H at hP hS ⊢
    as_aux_lemma =>
    rcases hw with ⟨h_296, h_297⟩ | ⟨h_298, h_299⟩
    · have h_297 : r_295 = _ := h_297
      replace hEX := hEX.trans (exc1_eq h_297)
      replace hEX := hEX.trans (if_pos (show r_295 = (-1) from h_296))
      rw [h_296]
      refine lv_istore_n (lv' := [(2, .int (-1)), (0, .ref h0), (1, .ref h1)]) hx hb dX0_readClause_9 rfl hl (Nat.le_of_ble_eq_true rfl) rfl (fun ls hl => ?_)
      refine lv_iload_n hx hb dX0_readClause_10 rfl (lv_at hl 0 rfl) ?_
      refine lv_if_lt (tgt := 22) hx hb dX0_readClause_11 rfl (fun c_300 => ?_) (fun c_300 => absurd c_300 (by decide +kernel))
      exact hU _ _ _ (J22 x_281 g_h0_f1 g_h0_f2 g_h0_f3 (RG_w h_288 (by decide +kernel)) g_h1_f2 g_h1_f3 (RG_w h_287 (by decide +kernel)) hEX _ _ _ hP hD hS (lv_sub hl [2] rfl))
    · have h_299 : r_295 = _ := h_299
      replace hEX := hEX.trans (exc1_eq h_299)
      replace hEX := hEX.trans (if_neg (RG_neq (x := r_295) (c := (-1)) (show RG r_295 0 2 from h_298) (by decide +kernel)))
      refine lv_istore_n (lv' := [(2, .int r_295), (0, .ref h0), (1, .ref h1)]) hx hb dX0_readClause_9 rfl hl (Nat.le_of_ble_eq_true rfl) rfl (fun ls hl => ?_)
      refine lv_iload_n hx hb dX0_readClause_10 rfl (lv_at hl 0 rfl) ?_
      as_aux_lemma =>
      refine lv_if_lt (tgt := 22) hx hb dX0_readClause_11 rfl (fun c_301 => ?_) (fun c_301 => ?_)
      · replace hEX := hEX.trans (if_pos c_301)
        have g_302 : RG r_295 0 (-1) := RG_lt1 h_298 (RG_k 0 0 rfl) c_301 (by decide +kernel)
        exact RG_dead (RG_lt1 h_298 (RG_k 0 0 rfl) c_301 (b' := (-1)) (by decide +kernel)) (by decide +kernel)
      · replace hEX := hEX.trans (if_neg c_301)
        have d_303 := Int32.not_lt.mp c_301
        by_cases c_304 : r_295 = 0
        · replace hEX := hEX.trans (if_pos c_304)
          subst c_304
          refine lv_aload_n hx hb dX0_readClause_14 rfl (lv_at hl 1 rfl) ?_
          refine lv_iload_n hx hb dX0_readClause_15 rfl (lv_at hl 0 rfl) ?_
          obtain ⟨hPc, hDc, hFc, hqc⟩ := cl_cut (wc := (wd_c_X0_hasRoomFor h0 h0_0 h0_f1 h0_f2 h0_f3)) hP hD hS hA [2] (by decide +kernel) rfl
          have hKc := hK.sub (tys' := []) [] rfl
          have hrv := va_recv hKc hPc (ci := 0) (q0 := 0) rfl rfl
          refine va_calli (va_runV (As := [.int 0]) (rest := []) ⟨hx, hb, hml, hown, hts⟩ (c_X0_hasRoomFor l dC dI H.size h0 h0_0 h0_f1 h0_f2 h0_f3 g_h0_f1 g_h0_f2 g_h0_f3) (cwV 1 hts gf_c_X0_readClause_c_X0_hasRoomFor rfl rfl rfl mdV_X0_hasRoomFor ⟨Nat.le_of_ble_eq_true rfl, Nat.le_of_ble_eq_true rfl⟩) ⟨fun a U g mk q => by obtain ⟨q0, q1, qP, qK, qD⟩ := q; exact ⟨q0, q1, qP, va_K.moved (u := U) (U := U.calling g mk a) (Vm.Alike.refl U.vm) qK, qD⟩, hrv, fun U hU hW => ⟨rfl, by rw [hU], by rw [hU]; exact hPc, va_K.moved hW.alike hKc, hDc.weaken (fun _ _ _ _ => trivial)⟩⟩ rfl rfl hl.1 rfl (lv_room (Nat.le_of_ble_eq_true rfl)) dX0_readClause_16 ⟨Nat.le_of_ble_eq_true rfl, Nat.le_of_ble_eq_true rfl⟩) hS (fun q _ h => hFc q h) hFc (fun r_305 u t H1 locs ht hvm hw hB hz1 hk1 hS => ?_)
          as_aux_lemma =>
          obtain ⟨hP1, hK1, hD1⟩ := hB
          rw [ht] at hP1
          obtain ⟨hP, hD⟩ := cl_put (w1 := (wd_c_X0_hasRoomFor h0 h0_0 h0_f1 h0_f2 h0_f3)) (nw := (wd_c_X0_readClause h1 h1_0 h1_f1 x_281 h1_f3 h1_0 h1_0k h1_0c h0 h0_0 h0_f1 h0_f2 h0_f3 h0_0 h0_0k h0_0c)) hP hD [2] [0, 1, 4, 3] 4 rfl hqc (by decide +kernel) rfl hk1 hFc hP1 hD1
          generalize H1 = H at hP hS ⊢
          as_aux_lemma =>
          rcases hw with ⟨h_306, h_307, h_308⟩ | ⟨h_309, h_310, h_311⟩
          · have h_308 : r_305 = _ := h_308
            replace hEX := hEX.trans (exc1_eq h_308)
            replace hEX := hEX.trans (if_pos (show r_305 = 0 from h_306))
            rw [h_306]
            refine lv_if_ne (tgt := 27) hx hb dX0_readClause_19 rfl (fun c_312 => absurd c_312 (by decide +kernel)) (fun c_312 => ?_)
            exact hU _ _ _ (J22 x_281 g_h0_f1 g_h0_f2 (RG_w h_307 (by decide +kernel)) (RG_w h_288 (by decide +kernel)) g_h1_f2 g_h1_f3 (RG_w h_287 (by decide +kernel)) hEX _ _ _ hP hD hS (lv_sub hl [2] rfl))
          · have h_311 : r_305 = _ := h_311
            replace hEX := hEX.trans (exc1_eq h_311)
            replace hEX := hEX.trans (if_neg (fun q9 : r_305 = 0 => absurd ((show r_305 = 1 from h_309).symm.trans q9) (by decide +kernel)))
            rw [h_309]
            refine lv_if_ne (tgt := 27) hx hb dX0_readClause_19 rfl (fun c_313 => ?_) (fun c_313 => absurd c_313 (by decide +kernel))
            refine lv_aload_n hx hb dX0_readClause_27 rfl (lv_at hl 2 rfl) ?_
            obtain ⟨hPc, hDc, hFc, hqc⟩ := cl_cut (wc := (wd_c_X9_skip h1 h1_0 h1_f1 x_281 h1_f3)) hP hD hS hA [0] (by decide +kernel) rfl
            have hKc := hK.sub (tys' := []) [] rfl
            have hrv := va_recv hKc hPc (ci := 9) (q0 := 0) rfl rfl
            refine va_callv (va_runV (As := []) (rest := []) ⟨hx, hb, hml, hown, hts⟩ (c_X9_skip l dC dI H.size h1 h1_0 h1_f1 x_281 h1_f3 (RG_w h_288 (by decide +kernel)) h_287 g_h1_f3) (cwV 0 hts gf_c_X0_readClause_c_X9_skip rfl rfl rfl mdV_X9_skip ⟨Nat.le_of_ble_eq_true rfl, Nat.le_of_ble_eq_true rfl⟩) ⟨fun a U g mk q => by obtain ⟨q0, q1, qP, qK, qD⟩ := q; exact ⟨q0, q1, qP, va_K.moved (u := U) (U := U.calling g mk a) (Vm.Alike.refl U.vm) qK, qD⟩, hrv, fun U hU hW => ⟨rfl, by rw [hU], by rw [hU]; exact hPc, va_K.moved hW.alike hKc, hDc.weaken (fun _ _ _ _ => trivial)⟩⟩ rfl rfl hl.1 rfl (lv_room (Nat.le_of_ble_eq_true rfl)) dX0_readClause_28 ⟨Nat.le_of_ble_eq_true rfl, Nat.le_of_ble_eq_true rfl⟩) hS (fun q _ h => hFc q h) hFc (fun x_315 t H1 locs ht hvm hw hB hz1 hk1 hS => ?_)
            as_aux_lemma =>
            obtain ⟨hP1, hK1, hD1⟩ := hB
            rw [ht] at hP1
            obtain ⟨hP, hD⟩ := cl_put (w1 := (wd_c_X9_skip h1 h1_0 h1_f1 x_315 h1_f3)) (nw := (wd_c_X0_readClause h1 h1_0 h1_f1 x_315 h1_f3 h1_0 h1_0k h1_0c h0 h0_0 h0_f1 h0_f2 h0_f3 h0_0 h0_0k h0_0c)) hP hD [0] [4, 1, 2, 3] 4 rfl hqc (by decide +kernel) rfl hk1 hFc hP1 hD1
            generalize H1 = H at hP hS ⊢
            as_aux_lemma =>
            rcases hw with ⟨h_316, h_317, h_318, h_319⟩
            have h_319 : x_315 = _ := h_319
            replace hEX := hEX.trans (exc1_eq h_319)
            refine lv_aload_n hx hb dX0_readClause_31 rfl (lv_at hl 1 rfl) ?_
            refine lv_iload_n hx hb dX0_readClause_32 rfl (lv_at hl 0 rfl) ?_
            obtain ⟨hPc, hDc, hFc, hqc⟩ := cl_cut (wc := (wd_c_X0_beginClause h0 h0_0 h0_f1 h0_f2 h0_f3 h0_0 h0_0k h0_0c)) hP hD hS hA [2, 3] (by decide +kernel) rfl
            have hKc := hK.sub (tys' := [(h0_0k, .int)]) [1] rfl
            have hrv := va_recv hKc hPc (ci := 0) (q0 := 0) rfl rfl
            refine va_calli (va_runV (As := [.int 0]) (rest := []) ⟨hx, hb, hml, hown, hts⟩ (c_X0_beginClause l dC dI H.size h0 h0_0 h0_f1 h0_f2 h0_f3 h0_0k h0_0c ts1 tv1 ta3 ta0 g_h0_f1 g_h0_f2 (RG_w h_310 (by decide +kernel)) a_h0_0c) (cwV 1 hts gf_c_X0_readClause_c_X0_beginClause rfl rfl rfl mdV_X0_beginClause ⟨Nat.le_of_ble_eq_true rfl, Nat.le_of_ble_eq_true rfl⟩) ⟨fun a U g mk q => by obtain ⟨q0, q1, qP, qK, qD, qE0, qE1, qE2, qE3, qE4, qE5, qE6, qE7, qE8, qE9⟩ := q; exact ⟨q0, q1, qP, va_K.moved (u := U) (U := U.calling g mk a) (Vm.Alike.refl U.vm) qK, qD, vk_R.same rfl qE0, va_OF.moved (u := U) (U := U.calling g mk a) (Vm.Alike.refl U.vm) qE1, va_T.moved (u := U) (U := U.calling g mk a) (Vm.Alike.refl U.vm) qE2, va_Z.moved (u := U) (U := U.calling g mk a) (Vm.Alike.refl U.vm) qE3, va_OF.moved (u := U) (U := U.calling g mk a) (Vm.Alike.refl U.vm) qE4, va_O.moved (u := U) (U := U.calling g mk a) (Vm.Alike.refl U.vm) qE5, va_Z.moved (u := U) (U := U.calling g mk a) (Vm.Alike.refl U.vm) qE6, va_Z.moved (u := U) (U := U.calling g mk a) (Vm.Alike.refl U.vm) qE7, va_T.moved (u := U) (U := U.calling g mk a) (Vm.Alike.refl U.vm) qE8, va_T.moved (u := U) (U := U.calling g mk a) (Vm.Alike.refl U.vm) qE9⟩, hrv, fun U hU hW => ⟨rfl, by rw [hU], by rw [hU]; exact hPc, va_K.moved hW.alike hKc, hDc.weaken (fun _ _ _ _ => trivial), vk_R.warm hW hE_17, va_OF.moved hW.alike (by rw [hU]; exact (hE_20.kept hS.2.1).narrow hFc), va_T.moved hW.alike (by rw [hU]; exact (hE_21.kept hS.2.1).narrow hFc), va_Z.moved hW.alike (by rw [hU]; exact (hE_10.kept hS.2.1).narrow hFc), va_OF.moved hW.alike (by rw [hU]; exact (hE_19.kept hS.2.1).narrow hFc), va_O.moved hW.alike (by rw [hU]; exact (hE_18.kept hS.2.1).narrow hFc), va_Z.moved hW.alike (by rw [hU]; exact (hE_6.kept hS.2.1).narrow hFc), va_Z.moved hW.alike (by rw [hU]; exact (hE_0.kept hS.2.1).narrow hFc), va_T.moved hW.alike (by rw [hU]; exact (hE_1.kept hS.2.1).narrow hFc), va_T.moved hW.alike (by rw [hU]; exact (hE_7.kept hS.2.1).narrow hFc)⟩⟩ rfl rfl hl.1 rfl (lv_room (Nat.le_of_ble_eq_true rfl)) dX0_readClause_33 ⟨Nat.le_of_ble_eq_true rfl, Nat.le_of_ble_eq_true rfl⟩) hS (fun q _ h => hFc q h) hFc (fun r_320 w_321 t H1 locs ht hvm hw hB hz1 hk1 hS => ?_)
            obtain ⟨hP1, hK1, hD1⟩ := hB
            rw [ht] at hP1
            obtain ⟨hP, hD⟩ := cl_put (w1 := (wd_c_X0_beginClause h0 h0_0 h0_f1 h0_f2 1 h0_0 h0_0k w_321)) (nw := (wd_c_X0_readClause h1 h1_0 h1_f1 x_315 h1_f3 h1_0 h1_0k h1_0c h0 h0_0 h0_f1 h0_f2 1 h0_0 h0_0k w_321)) hP hD [2, 3] [0, 1, 4, 5] 4 rfl hqc (by decide +kernel) rfl hk1 hFc hP1 hD1
            generalize H1 = H at hP hS ⊢
            as_aux_lemma =>
            rcases hw with ⟨h_322, h_323, h_324⟩
            have h_324 : (r_320, w_321) = _ := h_324
            replace hEX := hEX.trans (exc2_eq h_324)
            rw [h_322]
            refine lv_istore_n (lv' := [(3, .int 0), (2, .int 0), (0, .ref h0), (1, .ref h1)]) hx hb dX0_readClause_36 rfl hl (Nat.le_of_ble_eq_true rfl) rfl (fun ls hl => ?_)
            refine lv_iload_n hx hb dX0_readClause_37 rfl (lv_at hl 1 rfl) ?_
            obtain ⟨hPc, hDc, hFc, hqc⟩ := cl_cut (wc := []) hP hD hS hA [] (by decide +kernel) rfl
            have hKc := hK.sub (tys' := []) [] rfl
            refine va_callr (va_runS (As := [.int 0]) (rest := []) ⟨hx, hb, hml, hown, hts⟩ (c_X0_lettersOf l dC dI H.size ts1) (va_cwS 1 hts gf_c_X0_readClause_c_X0_lettersOf rfl rfl rfl md_X0_lettersOf ⟨Nat.le_of_ble_eq_true rfl, Nat.le_of_ble_eq_true rfl⟩) ⟨fun a U g mk q => by obtain ⟨q0, q1, qP, qK, qD, qE0⟩ := q; exact ⟨q0, q1, qP, va_K.moved (u := U) (U := U.calling g mk a) (Vm.Alike.refl U.vm) qK, qD, vk_R.same rfl qE0⟩, fun U hU hW => ⟨rfl, by rw [hU], by rw [hU]; exact hPc, va_K.moved hW.alike hKc, hDc.weaken (fun _ _ _ _ => trivial), vk_R.warm hW hE_17⟩⟩ rfl rfl hl.1 rfl (lv_room (Nat.le_of_ble_eq_true rfl)) dX0_readClause_38 ⟨Nat.le_of_ble_eq_true rfl, Nat.le_of_ble_eq_true rfl⟩) hS (fun q _ h => hFc q h) hFc (fun x_326 r_325 t H1 locs ht hvm hw hB hz1 hk1 hS => ?_)
            obtain ⟨hra, hP1, hK1, hD1⟩ := hB
            rw [ht] at hP1
            have hP := bv_still hP hk1
            generalize H1 = H at hP hS ⊢
            as_aux_lemma =>
            have h_327 := hw
            rw [hra, show x_326 = ts1 from h_327]
            refine lv_astore (lv' := [(4, .ref ts1), (3, .int 0), (2, .int 0), (0, .ref h0), (1, .ref h1)]) hx hb dX0_readClause_41 hl (Nat.le_of_ble_eq_true rfl) rfl (fun ls hl => ?_)
            refine lv_iconst (v := 0) hx hb dX0_readClause_43 kc_iconst_0 ?_
            refine lv_istore (lv' := [(5, .int 0), (4, .ref ts1), (3, .int 0), (2, .int 0), (0, .ref h0), (1, .ref h1)]) hx hb dX0_readClause_44 hl (Nat.le_of_ble_eq_true rfl) rfl (fun ls hl => ?_)
            refine lv_iconst (v := 0) hx hb dX0_readClause_46 kc_iconst_0 ?_
            refine lv_istore (lv' := [(6, .int 0), (5, .int 0), (4, .ref ts1), (3, .int 0), (2, .int 0), (0, .ref h0), (1, .ref h1)]) hx hb dX0_readClause_47 hl (Nat.le_of_ble_eq_true rfl) rfl (fun ls hl => ?_)
            exact hU _ _ _ (J49 exF 0 0 x_315 h1_f3 w_321 MU_F g_h0_f1 g_h0_f2 h_310 h_288 g_h1_f2 g_h1_f3 (RG_w h_316 (by decide +kernel)) g_h1_f3 (RG_w (RG_k 0 0 rfl) (by decide +kernel)) h_323 hEX _ _ _ hP hD hS (lv_sub hl [0, 1, 2, 3, 4, 5, 6] rfl))
        replace hEX := hEX.trans (if_neg c_304)
        by_cases c_328 : r_295 = 1
        · replace hEX := hEX.trans (if_pos c_328)
          subst c_328
          refine lv_aload_n hx hb dX0_readClause_14 rfl (lv_at hl 1 rfl) ?_
          refine lv_iload_n hx hb dX0_readClause_15 rfl (lv_at hl 0 rfl) ?_
          as_aux_lemma =>
          obtain ⟨hPc, hDc, hFc, hqc⟩ := cl_cut (wc := (wd_c_X0_hasRoomFor_1 h0 h0_0 h0_f1 h0_f2 h0_f3)) hP hD hS hA [2] (by decide +kernel) rfl
          have hKc := hK.sub (tys' := []) [] rfl
          have hrv := va_recv hKc hPc (ci := 0) (q0 := 0) rfl rfl
          refine va_calli (va_runV (As := [.int 1]) (rest := []) ⟨hx, hb, hml, hown, hts⟩ (c_X0_hasRoomFor_1 l dC dI H.size h0 h0_0 h0_f1 h0_f2 h0_f3 g_h0_f1 g_h0_f2 g_h0_f3) (cwV 1 hts gf_c_X0_readClause_c_X0_hasRoomFor_1 rfl rfl rfl mdV_X0_hasRoomFor ⟨Nat.le_of_ble_eq_true rfl, Nat.le_of_ble_eq_true rfl⟩) ⟨fun a U g mk q => by obtain ⟨q0, q1, qP, qK, qD⟩ := q; exact ⟨q0, q1, qP, va_K.moved (u := U) (U := U.calling g mk a) (Vm.Alike.refl U.vm) qK, qD⟩, hrv, fun U hU hW => ⟨rfl, by rw [hU], by rw [hU]; exact hPc, va_K.moved hW.alike hKc, hDc.weaken (fun _ _ _ _ => trivial)⟩⟩ rfl rfl hl.1 rfl (lv_room (Nat.le_of_ble_eq_true rfl)) dX0_readClause_16 ⟨Nat.le_of_ble_eq_true rfl, Nat.le_of_ble_eq_true rfl⟩) hS (fun q _ h => hFc q h) hFc (fun r_329 u t H1 locs ht hvm hw hB hz1 hk1 hS => ?_)
          obtain ⟨hP1, hK1, hD1⟩ := hB
          rw [ht] at hP1
          obtain ⟨hP, hD⟩ := cl_put (w1 := (wd_c_X0_hasRoomFor_1 h0 h0_0 h0_f1 h0_f2 h0_f3)) (nw := (wd_c_X0_readClause h1 h1_0 h1_f1 x_281 h1_f3 h1_0 h1_0k h1_0c h0 h0_0 h0_f1 h0_f2 h0_f3 h0_0 h0_0k h0_0c)) hP hD [2] [0, 1, 4, 3] 4 rfl hqc (by decide +kernel) rfl hk1 hFc hP1 hD1
          generalize H1 = H at hP hS ⊢
          as_aux_lemma =>
          rcases hw with ⟨h_330, h_331, h_332⟩ | ⟨h_333, h_334, h_335⟩
          · have h_332 : r_329 = _ := h_332
            replace hEX := hEX.trans (exc1_eq h_332)
            replace hEX := hEX.trans (if_pos (show r_329 = 0 from h_330))
            rw [h_330]
            refine lv_if_ne (tgt := 27) hx hb dX0_readClause_19 rfl (fun c_336 => absurd c_336 (by decide +kernel)) (fun c_336 => ?_)
            exact hU _ _ _ (J22 x_281 (RG_w h_331 (by decide +kernel)) g_h0_f2 g_h0_f3 (RG_w h_288 (by decide +kernel)) g_h1_f2 g_h1_f3 (RG_w h_287 (by decide +kernel)) hEX _ _ _ hP hD hS (lv_sub hl [2] rfl))
          · have h_335 : r_329 = _ := h_335
            replace hEX := hEX.trans (exc1_eq h_335)
            replace hEX := hEX.trans (if_neg (fun q9 : r_329 = 0 => absurd ((show r_329 = 1 from h_333).symm.trans q9) (by decide +kernel)))
            rw [h_333]
            refine lv_if_ne (tgt := 27) hx hb dX0_readClause_19 rfl (fun c_337 => ?_) (fun c_337 => absurd c_337 (by decide +kernel))
            refine lv_aload_n hx hb dX0_readClause_27 rfl (lv_at hl 2 rfl) ?_
            obtain ⟨hPc, hDc, hFc, hqc⟩ := cl_cut (wc := (wd_c_X9_skip h1 h1_0 h1_f1 x_281 h1_f3)) hP hD hS hA [0] (by decide +kernel) rfl
            have hKc := hK.sub (tys' := []) [] rfl
            have hrv := va_recv hKc hPc (ci := 9) (q0 := 0) rfl rfl
            refine va_callv (va_runV (As := []) (rest := []) ⟨hx, hb, hml, hown, hts⟩ (c_X9_skip l dC dI H.size h1 h1_0 h1_f1 x_281 h1_f3 (RG_w h_288 (by decide +kernel)) h_287 g_h1_f3) (cwV 0 hts gf_c_X0_readClause_c_X9_skip rfl rfl rfl mdV_X9_skip ⟨Nat.le_of_ble_eq_true rfl, Nat.le_of_ble_eq_true rfl⟩) ⟨fun a U g mk q => by obtain ⟨q0, q1, qP, qK, qD⟩ := q; exact ⟨q0, q1, qP, va_K.moved (u := U) (U := U.calling g mk a) (Vm.Alike.refl U.vm) qK, qD⟩, hrv, fun U hU hW => ⟨rfl, by rw [hU], by rw [hU]; exact hPc, va_K.moved hW.alike hKc, hDc.weaken (fun _ _ _ _ => trivial)⟩⟩ rfl rfl hl.1 rfl (lv_room (Nat.le_of_ble_eq_true rfl)) dX0_readClause_28 ⟨Nat.le_of_ble_eq_true rfl, Nat.le_of_ble_eq_true rfl⟩) hS (fun q _ h => hFc q h) hFc (fun x_339 t H1 locs ht hvm hw hB hz1 hk1 hS => ?_)
            as_aux_lemma =>
            obtain ⟨hP1, hK1, hD1⟩ := hB
            rw [ht] at hP1
            obtain ⟨hP, hD⟩ := cl_put (w1 := (wd_c_X9_skip h1 h1_0 h1_f1 x_339 h1_f3)) (nw := (wd_c_X0_readClause h1 h1_0 h1_f1 x_339 h1_f3 h1_0 h1_0k h1_0c h0 h0_0 h0_f1 h0_f2 h0_f3 h0_0 h0_0k h0_0c)) hP hD [0] [4, 1, 2, 3] 4 rfl hqc (by decide +kernel) rfl hk1 hFc hP1 hD1
            generalize H1 = H at hP hS ⊢
            as_aux_lemma =>
            rcases hw with ⟨h_340, h_341, h_342, h_343⟩
            have h_343 : x_339 = _ := h_343
            replace hEX := hEX.trans (exc1_eq h_343)
            refine lv_aload_n hx hb dX0_readClause_31 rfl (lv_at hl 1 rfl) ?_
            refine lv_iload_n hx hb dX0_readClause_32 rfl (lv_at hl 0 rfl) ?_
            obtain ⟨hPc, hDc, hFc, hqc⟩ := cl_cut (wc := (wd_c_X0_beginClause_1 h0 h0_0 h0_f1 h0_f2 h0_f3 h0_0 h0_0k h0_0c)) hP hD hS hA [2, 3] (by decide +kernel) rfl
            have hKc := hK.sub (tys' := [(h0_0k, .int)]) [1] rfl
            have hrv := va_recv hKc hPc (ci := 0) (q0 := 0) rfl rfl
            refine va_calli (va_runV (As := [.int 1]) (rest := []) ⟨hx, hb, hml, hown, hts⟩ (c_X0_beginClause_1 l dC dI H.size h0 h0_0 h0_f1 h0_f2 h0_f3 h0_0k h0_0c ts2 tv2 ta3 ta0 h_334 g_h0_f2 g_h0_f3 a_h0_0c) (cwV 1 hts gf_c_X0_readClause_c_X0_beginClause_1 rfl rfl rfl mdV_X0_beginClause ⟨Nat.le_of_ble_eq_true rfl, Nat.le_of_ble_eq_true rfl⟩) ⟨fun a U g mk q => by obtain ⟨q0, q1, qP, qK, qD, qE0, qE1, qE2, qE3, qE4, qE5, qE6, qE7, qE8, qE9⟩ := q; exact ⟨q0, q1, qP, va_K.moved (u := U) (U := U.calling g mk a) (Vm.Alike.refl U.vm) qK, qD, vk_R.same rfl qE0, va_OF.moved (u := U) (U := U.calling g mk a) (Vm.Alike.refl U.vm) qE1, va_T.moved (u := U) (U := U.calling g mk a) (Vm.Alike.refl U.vm) qE2, va_Z.moved (u := U) (U := U.calling g mk a) (Vm.Alike.refl U.vm) qE3, va_OF.moved (u := U) (U := U.calling g mk a) (Vm.Alike.refl U.vm) qE4, va_O.moved (u := U) (U := U.calling g mk a) (Vm.Alike.refl U.vm) qE5, va_Z.moved (u := U) (U := U.calling g mk a) (Vm.Alike.refl U.vm) qE6, va_Z.moved (u := U) (U := U.calling g mk a) (Vm.Alike.refl U.vm) qE7, va_T.moved (u := U) (U := U.calling g mk a) (Vm.Alike.refl U.vm) qE8, va_T.moved (u := U) (U := U.calling g mk a) (Vm.Alike.refl U.vm) qE9⟩, hrv, fun U hU hW => ⟨rfl, by rw [hU], by rw [hU]; exact hPc, va_K.moved hW.alike hKc, hDc.weaken (fun _ _ _ _ => trivial), vk_R.warm hW hE_22, va_OF.moved hW.alike (by rw [hU]; exact (hE_25.kept hS.2.1).narrow hFc), va_T.moved hW.alike (by rw [hU]; exact (hE_26.kept hS.2.1).narrow hFc), va_Z.moved hW.alike (by rw [hU]; exact (hE_10.kept hS.2.1).narrow hFc), va_OF.moved hW.alike (by rw [hU]; exact (hE_24.kept hS.2.1).narrow hFc), va_O.moved hW.alike (by rw [hU]; exact (hE_23.kept hS.2.1).narrow hFc), va_Z.moved hW.alike (by rw [hU]; exact (hE_6.kept hS.2.1).narrow hFc), va_Z.moved hW.alike (by rw [hU]; exact (hE_0.kept hS.2.1).narrow hFc), va_T.moved hW.alike (by rw [hU]; exact (hE_1.kept hS.2.1).narrow hFc), va_T.moved hW.alike (by rw [hU]; exact (hE_7.kept hS.2.1).narrow hFc)⟩⟩ rfl rfl hl.1 rfl (lv_room (Nat.le_of_ble_eq_true rfl)) dX0_readClause_33 ⟨Nat.le_of_ble_eq_true rfl, Nat.le_of_ble_eq_true rfl⟩) hS (fun q _ h => hFc q h) hFc (fun r_344 u t H1 locs ht hvm hw hB hz1 hk1 hS => ?_)
            obtain ⟨x_345, w_346⟩ := u
            obtain ⟨hP1, hK1, hD1⟩ := hB
            rw [ht] at hP1
            obtain ⟨hP, hD⟩ := cl_put (w1 := (wd_c_X0_beginClause_1 h0 h0_0 x_345 h0_f2 h0_f3 h0_0 h0_0k w_346)) (nw := (wd_c_X0_readClause h1 h1_0 h1_f1 x_339 h1_f3 h1_0 h1_0k h1_0c h0 h0_0 x_345 h0_f2 h0_f3 h0_0 h0_0k w_346)) hP hD [2, 3] [0, 1, 4, 5] 4 rfl hqc (by decide +kernel) rfl hk1 hFc hP1 hD1
            generalize H1 = H at hP hS ⊢
            as_aux_lemma =>
            rcases hw with ⟨h_347, h_348, h_349, h_350⟩
            have h_350 : (r_344, x_345, w_346) = _ := h_350
            replace hEX := hEX.trans (exc3_eq h_350)
            refine lv_istore_n (lv' := [(3, .int r_344), (2, .int 1), (0, .ref h0), (1, .ref h1)]) hx hb dX0_readClause_36 rfl hl (Nat.le_of_ble_eq_true rfl) rfl (fun ls hl => ?_)
            refine lv_iload_n hx hb dX0_readClause_37 rfl (lv_at hl 1 rfl) ?_
            obtain ⟨hPc, hDc, hFc, hqc⟩ := cl_cut (wc := []) hP hD hS hA [] (by decide +kernel) rfl
            have hKc := hK.sub (tys' := []) [] rfl
            refine va_callr (va_runS (As := [.int 1]) (rest := []) ⟨hx, hb, hml, hown, hts⟩ (c_X0_lettersOf_1 l dC dI H.size ts2) (va_cwS 1 hts gf_c_X0_readClause_c_X0_lettersOf_1 rfl rfl rfl md_X0_lettersOf ⟨Nat.le_of_ble_eq_true rfl, Nat.le_of_ble_eq_true rfl⟩) ⟨fun a U g mk q => by obtain ⟨q0, q1, qP, qK, qD, qE0⟩ := q; exact ⟨q0, q1, qP, va_K.moved (u := U) (U := U.calling g mk a) (Vm.Alike.refl U.vm) qK, qD, vk_R.same rfl qE0⟩, fun U hU hW => ⟨rfl, by rw [hU], by rw [hU]; exact hPc, va_K.moved hW.alike hKc, hDc.weaken (fun _ _ _ _ => trivial), vk_R.warm hW hE_22⟩⟩ rfl rfl hl.1 rfl (lv_room (Nat.le_of_ble_eq_true rfl)) dX0_readClause_38 ⟨Nat.le_of_ble_eq_true rfl, Nat.le_of_ble_eq_true rfl⟩) hS (fun q _ h => hFc q h) hFc (fun x_352 r_351 t H1 locs ht hvm hw hB hz1 hk1 hS => ?_)
            obtain ⟨hra, hP1, hK1, hD1⟩ := hB
            rw [ht] at hP1
            have hP := bv_still hP hk1
            generalize H1 = H at hP hS ⊢
            as_aux_lemma =>
            have h_353 := hw
            rw [hra, show x_352 = ts2 from h_353]
            refine lv_astore (lv' := [(4, .ref ts2), (3, .int r_344), (2, .int 1), (0, .ref h0), (1, .ref h1)]) hx hb dX0_readClause_41 hl (Nat.le_of_ble_eq_true rfl) rfl (fun ls hl => ?_)
            refine lv_iconst (v := 0) hx hb dX0_readClause_43 kc_iconst_0 ?_
            refine lv_istore (lv' := [(5, .int 0), (4, .ref ts2), (3, .int r_344), (2, .int 1), (0, .ref h0), (1, .ref h1)]) hx hb dX0_readClause_44 hl (Nat.le_of_ble_eq_true rfl) rfl (fun ls hl => ?_)
            refine lv_iconst (v := 0) hx hb dX0_readClause_46 kc_iconst_0 ?_
            refine lv_istore (lv' := [(6, .int 0), (5, .int 0), (4, .ref ts2), (3, .int r_344), (2, .int 1), (0, .ref h0), (1, .ref h1)]) hx hb dX0_readClause_47 hl (Nat.le_of_ble_eq_true rfl) rfl (fun ls hl => ?_)
            exact hU _ _ _ (J49b exF 0 0 r_344 x_339 h1_f3 x_345 w_346 MU_F h_334 g_h0_f2 g_h0_f3 h_288 g_h1_f2 g_h1_f3 h_348 (RG_w h_340 (by decide +kernel)) g_h1_f3 h_347 (RG_w (RG_k 0 0 rfl) (by decide +kernel)) h_349 hEX _ _ _ hP hD hS (lv_sub hl [0, 1, 2, 3, 4, 5, 6] rfl))
        replace hEX := hEX.trans (if_neg c_328)
        by_cases c_354 : r_295 = 2
        · replace hEX := hEX.trans (if_pos c_354)
          subst c_354
          refine lv_aload_n hx hb dX0_readClause_14 rfl (lv_at hl 1 rfl) ?_
          refine lv_iload_n hx hb dX0_readClause_15 rfl (lv_at hl 0 rfl) ?_
          as_aux_lemma =>
          obtain ⟨hPc, hDc, hFc, hqc⟩ := cl_cut (wc := (wd_c_X0_hasRoomFor_2 h0 h0_0 h0_f1 h0_f2 h0_f3)) hP hD hS hA [2] (by decide +kernel) rfl
          have hKc := hK.sub (tys' := []) [] rfl
          have hrv := va_recv hKc hPc (ci := 0) (q0 := 0) rfl rfl
          refine va_calli (va_runV (As := [.int 2]) (rest := []) ⟨hx, hb, hml, hown, hts⟩ (c_X0_hasRoomFor_2 l dC dI H.size h0 h0_0 h0_f1 h0_f2 h0_f3 g_h0_f1 g_h0_f2 g_h0_f3) (cwV 1 hts gf_c_X0_readClause_c_X0_hasRoomFor_2 rfl rfl rfl mdV_X0_hasRoomFor ⟨Nat.le_of_ble_eq_true rfl, Nat.le_of_ble_eq_true rfl⟩) ⟨fun a U g mk q => by obtain ⟨q0, q1, qP, qK, qD⟩ := q; exact ⟨q0, q1, qP, va_K.moved (u := U) (U := U.calling g mk a) (Vm.Alike.refl U.vm) qK, qD⟩, hrv, fun U hU hW => ⟨rfl, by rw [hU], by rw [hU]; exact hPc, va_K.moved hW.alike hKc, hDc.weaken (fun _ _ _ _ => trivial)⟩⟩ rfl rfl hl.1 rfl (lv_room (Nat.le_of_ble_eq_true rfl)) dX0_readClause_16 ⟨Nat.le_of_ble_eq_true rfl, Nat.le_of_ble_eq_true rfl⟩) hS (fun q _ h => hFc q h) hFc (fun r_355 u t H1 locs ht hvm hw hB hz1 hk1 hS => ?_)
          obtain ⟨hP1, hK1, hD1⟩ := hB
          rw [ht] at hP1
          obtain ⟨hP, hD⟩ := cl_put (w1 := (wd_c_X0_hasRoomFor_2 h0 h0_0 h0_f1 h0_f2 h0_f3)) (nw := (wd_c_X0_readClause h1 h1_0 h1_f1 x_281 h1_f3 h1_0 h1_0k h1_0c h0 h0_0 h0_f1 h0_f2 h0_f3 h0_0 h0_0k h0_0c)) hP hD [2] [0, 1, 4, 3] 4 rfl hqc (by decide +kernel) rfl hk1 hFc hP1 hD1
          generalize H1 = H at hP hS ⊢
          as_aux_lemma =>
          rcases hw with ⟨h_356, h_357, h_358⟩ | ⟨h_359, h_360, h_361⟩
          · have h_358 : r_355 = _ := h_358
            replace hEX := hEX.trans (exc1_eq h_358)
            replace hEX := hEX.trans (if_pos (show r_355 = 0 from h_356))
            rw [h_356]
            refine lv_if_ne (tgt := 27) hx hb dX0_readClause_19 rfl (fun c_362 => absurd c_362 (by decide +kernel)) (fun c_362 => ?_)
            exact hU _ _ _ (J22 x_281 g_h0_f1 (RG_w h_357 (by decide +kernel)) g_h0_f3 (RG_w h_288 (by decide +kernel)) g_h1_f2 g_h1_f3 (RG_w h_287 (by decide +kernel)) hEX _ _ _ hP hD hS (lv_sub hl [2] rfl))
          · have h_361 : r_355 = _ := h_361
            replace hEX := hEX.trans (exc1_eq h_361)
            replace hEX := hEX.trans (if_neg (fun q9 : r_355 = 0 => absurd ((show r_355 = 1 from h_359).symm.trans q9) (by decide +kernel)))
            rw [h_359]
            refine lv_if_ne (tgt := 27) hx hb dX0_readClause_19 rfl (fun c_363 => ?_) (fun c_363 => absurd c_363 (by decide +kernel))
            refine lv_aload_n hx hb dX0_readClause_27 rfl (lv_at hl 2 rfl) ?_
            obtain ⟨hPc, hDc, hFc, hqc⟩ := cl_cut (wc := (wd_c_X9_skip h1 h1_0 h1_f1 x_281 h1_f3)) hP hD hS hA [0] (by decide +kernel) rfl
            have hKc := hK.sub (tys' := []) [] rfl
            have hrv := va_recv hKc hPc (ci := 9) (q0 := 0) rfl rfl
            refine va_callv (va_runV (As := []) (rest := []) ⟨hx, hb, hml, hown, hts⟩ (c_X9_skip l dC dI H.size h1 h1_0 h1_f1 x_281 h1_f3 (RG_w h_288 (by decide +kernel)) h_287 g_h1_f3) (cwV 0 hts gf_c_X0_readClause_c_X9_skip rfl rfl rfl mdV_X9_skip ⟨Nat.le_of_ble_eq_true rfl, Nat.le_of_ble_eq_true rfl⟩) ⟨fun a U g mk q => by obtain ⟨q0, q1, qP, qK, qD⟩ := q; exact ⟨q0, q1, qP, va_K.moved (u := U) (U := U.calling g mk a) (Vm.Alike.refl U.vm) qK, qD⟩, hrv, fun U hU hW => ⟨rfl, by rw [hU], by rw [hU]; exact hPc, va_K.moved hW.alike hKc, hDc.weaken (fun _ _ _ _ => trivial)⟩⟩ rfl rfl hl.1 rfl (lv_room (Nat.le_of_ble_eq_true rfl)) dX0_readClause_28 ⟨Nat.le_of_ble_eq_true rfl, Nat.le_of_ble_eq_true rfl⟩) hS (fun q _ h => hFc q h) hFc (fun x_365 t H1 locs ht hvm hw hB hz1 hk1 hS => ?_)
            as_aux_lemma =>
            obtain ⟨hP1, hK1, hD1⟩ := hB
            rw [ht] at hP1
            obtain ⟨hP, hD⟩ := cl_put (w1 := (wd_c_X9_skip h1 h1_0 h1_f1 x_365 h1_f3)) (nw := (wd_c_X0_readClause h1 h1_0 h1_f1 x_365 h1_f3 h1_0 h1_0k h1_0c h0 h0_0 h0_f1 h0_f2 h0_f3 h0_0 h0_0k h0_0c)) hP hD [0] [4, 1, 2, 3] 4 rfl hqc (by decide +kernel) rfl hk1 hFc hP1 hD1
            generalize H1 = H at hP hS ⊢
            as_aux_lemma =>
            rcases hw with ⟨h_366, h_367, h_368, h_369⟩
            have h_369 : x_365 = _ := h_369
            replace hEX := hEX.trans (exc1_eq h_369)
            refine lv_aload_n hx hb dX0_readClause_31 rfl (lv_at hl 1 rfl) ?_
            refine lv_iload_n hx hb dX0_readClause_32 rfl (lv_at hl 0 rfl) ?_
            obtain ⟨hPc, hDc, hFc, hqc⟩ := cl_cut (wc := (wd_c_X0_beginClause_2 h0 h0_0 h0_f1 h0_f2 h0_f3 h0_0 h0_0k h0_0c)) hP hD hS hA [2, 3] (by decide +kernel) rfl
            have hKc := hK.sub (tys' := [(h0_0k, .int)]) [1] rfl
            have hrv := va_recv hKc hPc (ci := 0) (q0 := 0) rfl rfl
            refine va_calli (va_runV (As := [.int 2]) (rest := []) ⟨hx, hb, hml, hown, hts⟩ (c_X0_beginClause_2 l dC dI H.size h0 h0_0 h0_f1 h0_f2 h0_f3 h0_0k h0_0c ts3 tv3 ta3 ta0 g_h0_f1 h_360 g_h0_f3 a_h0_0c) (cwV 1 hts gf_c_X0_readClause_c_X0_beginClause_2 rfl rfl rfl mdV_X0_beginClause ⟨Nat.le_of_ble_eq_true rfl, Nat.le_of_ble_eq_true rfl⟩) ⟨fun a U g mk q => by obtain ⟨q0, q1, qP, qK, qD, qE0, qE1, qE2, qE3, qE4, qE5, qE6, qE7, qE8, qE9⟩ := q; exact ⟨q0, q1, qP, va_K.moved (u := U) (U := U.calling g mk a) (Vm.Alike.refl U.vm) qK, qD, vk_R.same rfl qE0, va_OF.moved (u := U) (U := U.calling g mk a) (Vm.Alike.refl U.vm) qE1, va_T.moved (u := U) (U := U.calling g mk a) (Vm.Alike.refl U.vm) qE2, va_Z.moved (u := U) (U := U.calling g mk a) (Vm.Alike.refl U.vm) qE3, va_OF.moved (u := U) (U := U.calling g mk a) (Vm.Alike.refl U.vm) qE4, va_O.moved (u := U) (U := U.calling g mk a) (Vm.Alike.refl U.vm) qE5, va_Z.moved (u := U) (U := U.calling g mk a) (Vm.Alike.refl U.vm) qE6, va_Z.moved (u := U) (U := U.calling g mk a) (Vm.Alike.refl U.vm) qE7, va_T.moved (u := U) (U := U.calling g mk a) (Vm.Alike.refl U.vm) qE8, va_T.moved (u := U) (U := U.calling g mk a) (Vm.Alike.refl U.vm) qE9⟩, hrv, fun U hU hW => ⟨rfl, by rw [hU], by rw [hU]; exact hPc, va_K.moved hW.alike hKc, hDc.weaken (fun _ _ _ _ => trivial), vk_R.warm hW hE_27, va_OF.moved hW.alike (by rw [hU]; exact (hE_30.kept hS.2.1).narrow hFc), va_T.moved hW.alike (by rw [hU]; exact (hE_31.kept hS.2.1).narrow hFc), va_Z.moved hW.alike (by rw [hU]; exact (hE_10.kept hS.2.1).narrow hFc), va_OF.moved hW.alike (by rw [hU]; exact (hE_29.kept hS.2.1).narrow hFc), va_O.moved hW.alike (by rw [hU]; exact (hE_28.kept hS.2.1).narrow hFc), va_Z.moved hW.alike (by rw [hU]; exact (hE_6.kept hS.2.1).narrow hFc), va_Z.moved hW.alike (by rw [hU]; exact (hE_0.kept hS.2.1).narrow hFc), va_T.moved hW.alike (by rw [hU]; exact (hE_1.kept hS.2.1).narrow hFc), va_T.moved hW.alike (by rw [hU]; exact (hE_7.kept hS.2.1).narrow hFc)⟩⟩ rfl rfl hl.1 rfl (lv_room (Nat.le_of_ble_eq_true rfl)) dX0_readClause_33 ⟨Nat.le_of_ble_eq_true rfl, Nat.le_of_ble_eq_true rfl⟩) hS (fun q _ h => hFc q h) hFc (fun r_370 u t H1 locs ht hvm hw hB hz1 hk1 hS => ?_)
            obtain ⟨x_371, w_372⟩ := u
            obtain ⟨hP1, hK1, hD1⟩ := hB
            rw [ht] at hP1
            obtain ⟨hP, hD⟩ := cl_put (w1 := (wd_c_X0_beginClause_2 h0 h0_0 h0_f1 x_371 h0_f3 h0_0 h0_0k w_372)) (nw := (wd_c_X0_readClause h1 h1_0 h1_f1 x_365 h1_f3 h1_0 h1_0k h1_0c h0 h0_0 h0_f1 x_371 h0_f3 h0_0 h0_0k w_372)) hP hD [2, 3] [0, 1, 4, 5] 4 rfl hqc (by decide +kernel) rfl hk1 hFc hP1 hD1
            generalize H1 = H at hP hS ⊢
            as_aux_lemma =>
            rcases hw with ⟨h_373, h_374, h_375, h_376⟩
            have h_376 : (r_370, x_371, w_372) = _ := h_376
            replace hEX := hEX.trans (exc3_eq h_376)
            refine lv_istore_n (lv' := [(3, .int r_370), (2, .int 2), (0, .ref h0), (1, .ref h1)]) hx hb dX0_readClause_36 rfl hl (Nat.le_of_ble_eq_true rfl) rfl (fun ls hl => ?_)
            refine lv_iload_n hx hb dX0_readClause_37 rfl (lv_at hl 1 rfl) ?_
            obtain ⟨hPc, hDc, hFc, hqc⟩ := cl_cut (wc := []) hP hD hS hA [] (by decide +kernel) rfl
            have hKc := hK.sub (tys' := []) [] rfl
            refine va_callr (va_runS (As := [.int 2]) (rest := []) ⟨hx, hb, hml, hown, hts⟩ (c_X0_lettersOf_2 l dC dI H.size ts3) (va_cwS 1 hts gf_c_X0_readClause_c_X0_lettersOf_2 rfl rfl rfl md_X0_lettersOf ⟨Nat.le_of_ble_eq_true rfl, Nat.le_of_ble_eq_true rfl⟩) ⟨fun a U g mk q => by obtain ⟨q0, q1, qP, qK, qD, qE0⟩ := q; exact ⟨q0, q1, qP, va_K.moved (u := U) (U := U.calling g mk a) (Vm.Alike.refl U.vm) qK, qD, vk_R.same rfl qE0⟩, fun U hU hW => ⟨rfl, by rw [hU], by rw [hU]; exact hPc, va_K.moved hW.alike hKc, hDc.weaken (fun _ _ _ _ => trivial), vk_R.warm hW hE_27⟩⟩ rfl rfl hl.1 rfl (lv_room (Nat.le_of_ble_eq_true rfl)) dX0_readClause_38 ⟨Nat.le_of_ble_eq_true rfl, Nat.le_of_ble_eq_true rfl⟩) hS (fun q _ h => hFc q h) hFc (fun x_378 r_377 t H1 locs ht hvm hw hB hz1 hk1 hS => ?_)
            obtain ⟨hra, hP1, hK1, hD1⟩ := hB
            rw [ht] at hP1
            have hP := bv_still hP hk1
            generalize H1 = H at hP hS ⊢
            as_aux_lemma =>
            have h_379 := hw
            rw [hra, show x_378 = ts3 from h_379]
            refine lv_astore (lv' := [(4, .ref ts3), (3, .int r_370), (2, .int 2), (0, .ref h0), (1, .ref h1)]) hx hb dX0_readClause_41 hl (Nat.le_of_ble_eq_true rfl) rfl (fun ls hl => ?_)
            refine lv_iconst (v := 0) hx hb dX0_readClause_43 kc_iconst_0 ?_
            refine lv_istore (lv' := [(5, .int 0), (4, .ref ts3), (3, .int r_370), (2, .int 2), (0, .ref h0), (1, .ref h1)]) hx hb dX0_readClause_44 hl (Nat.le_of_ble_eq_true rfl) rfl (fun ls hl => ?_)
            refine lv_iconst (v := 0) hx hb dX0_readClause_46 kc_iconst_0 ?_
            refine lv_istore (lv' := [(6, .int 0), (5, .int 0), (4, .ref ts3), (3, .int r_370), (2, .int 2), (0, .ref h0), (1, .ref h1)]) hx hb dX0_readClause_47 hl (Nat.le_of_ble_eq_true rfl) rfl (fun ls hl => ?_)
            exact hU _ _ _ (J49c exF 0 0 r_370 x_365 h1_f3 x_371 w_372 MU_F g_h0_f1 h_360 g_h0_f3 h_288 g_h1_f2 g_h1_f3 h_374 (RG_w h_366 (by decide +kernel)) g_h1_f3 h_373 (RG_w (RG_k 0 0 rfl) (by decide +kernel)) h_375 hEX _ _ _ hP hD hS (lv_sub hl [0, 1, 2, 3, 4, 5, 6] rfl))
        replace hEX := hEX.trans (if_neg c_354)
        exfalso
        have zc_304 := lv_neT c_304 (a := 0) (by decide +kernel)
        have zc_328 := lv_neT c_328 (a := 1) (by decide +kernel)
        have zc_354 := lv_neT c_354 (a := 2) (by decide +kernel)
        have zg1 := (h_298).1
        have zg2 := (h_298).2
        omega
noncomputable def wd_c_X9_take (a0 : Nat) (a1 : Nat) (a2 : Int32) (a3 : Int32) (a4 : Int32) (a5 : Nat) (a6 : ClassId) (a7 : Nat → Int32) : va_W := [(a0, .inr (9, [.ref a1, .int a2, .int a3, .int a4])), (a5, .inl (a6, 240, .inl a7))]
noncomputable def wf_c_X9_take : List Cond := List.cons (.code yX9_take cX9_take 2 (some .boolean)) (@HAppend.hAppend (List Cond) (List Cond) (List Cond) _ [.fieldLink RX9 15 "BuoyVote$Tape" "wrong" "I", .methodLink RX9 29 yX9_peek, .instanceMethod yX9_peek, .selects RX9 yX9_peek yX9_peek, .initialized RX9, .code yX9_peek cX9_peek 1 (some .int), .fieldLink RX9 22 "BuoyVote$Tape" "at" "I", .fieldLink RX9 19 "BuoyVote$Tape" "length" "I", .fieldLink RX9 11 "BuoyVote$Tape" "bytes" "[I"] wsX90)
theorem iw_c_X9_take_X9 : ∀ w ∈ wsX90, w ∈ wf_c_X9_take := fun w h => List.mem_cons_of_mem _ (List.mem_append_right _ h)
set_option maxRecDepth 20000 in
theorem gf_c_X9_take_c_X9_peek : GoodIn wf_c_X9_take (wsV RX9 29 RX9 yX9_peek wf_c_X9_peek) := goodIn_app (gi_l [2, 3, 4, 5] rfl rfl) (gi_cons (j := 6) rfl rfl (goodIn_app (gi_l [7, 8, 9] rfl rfl) (goodIn_sub iw_c_X9_take_X9 gw_X9)))
set_option maxHeartbeats 4000000 in
set_option maxRecDepth 100000 in
theorem c_X9_take (l : Launch) (dC : Nat → ClassId) (dI : Nat → Nat → Nat) (sz : Nat) (h0 : Nat) (p1 : Int32) (h0_0 : Nat) (h0_f1 : Int32) (h0_f2 : Int32) (h0_f3 : Int32) (h0_0k : ClassId) (h0_0c : Nat → Int32) (g_p1 : RG p1 0 60) (g_h0_f1 : RG h0_f1 0 240) (g_h0_f2 : RG h0_f2 0 240) (g_h0_f3 : RG h0_f3 (-1) 240) (a_h0_0c : AI h0_0c 0 255) : Met l yX9_take wf_c_X9_take ({ frames := 1, cells := 0, slots := 0, locals := 20 }) (va_Pc [.ref h0, .int p1] (fun U => U.heap.size = sz ∧ va_P (dC, dI) vwCl (wd_c_X9_take h0 h0_0 h0_f1 h0_f2 h0_f3 h0_0 h0_0k h0_0c) U.heap ∧ va_K (dC, dI) vwCl [(h0_0k, .int)] U ∧ va_D (fun _ => True) (wd_c_X9_take h0 h0_0 h0_f1 h0_f2 h0_f3 h0_0 h0_0k h0_0c))) (va_Qi (fun (r : Int32) (u : (Int32)) => (r = 0 ∧ RG u 0 240 ∧ h0_f2.toInt + 0 ≤ (u).toInt ∧ (r, u) = fx_c_X9_take p1 h0_f1 h0_f2 h0_f3 h0_0c) ∨ (r = 1 ∧ RG u 1 240 ∧ RG h0_f1 1 240 ∧ RG h0_f3 (-1) (-1) ∧ h0_f2.toInt + 1 ≤ (u).toInt ∧ (r, u) = fx_c_X9_take p1 h0_f1 h0_f2 h0_f3 h0_0c)) (fun (u : (Int32)) t => va_P (dC, dI) vwCl (wd_c_X9_take h0 h0_0 h0_f1 u h0_f3 h0_0 h0_0k h0_0c) t.heap ∧ va_K (dC, dI) vwCl [] t ∧ va_D (va_A (wd_c_X9_take h0 h0_0 h0_f1 h0_f2 h0_f3 h0_0 h0_0k h0_0c) sz) (wd_c_X9_take h0 h0_0 h0_f1 u h0_f3 h0_0 h0_0k h0_0c)) (va_A (wd_c_X9_take h0 h0_0 h0_f1 h0_f2 h0_f3 h0_0 h0_0k h0_0c) sz)) 0 0 (va_A (wd_c_X9_take h0 h0_0 h0_f1 h0_f2 h0_f3 h0_0 h0_0k h0_0c) sz) := by
  refine Met.ofW (cc := cX9_take) (maxL := 2) (ret := (some .boolean)) (by decide +kernel) rfl ?_
  intro p e s m args below meth c s₁ B hml hv
  obtain ⟨rfl, hsz, hP, hK, hD0⟩ := hv
  have hx := B.exec
  have hb := B.bytes
  have hr := B.returns
  have hts := atoms_spec (ws := wf_c_X9_take) B.pre
  have hown : s.vm.findClass RX9 = some m.cls := findClass_of_methodNamed B.named
  have hlocks := B.notSynchronized
  subst hsz
  have hD := hD0.self (sz := s.heap.size)
  generalize hAe : va_A (wd_c_X9_take h0 h0_0 h0_f1 h0_f2 h0_f3 h0_0 h0_0k h0_0c) s.heap.size = A at hD ⊢
  have hA : ∀ q : Nat, s.heap.size ≤ q → A q := fun q h => by rw [← hAe]; exact Or.inr h
  have hP : va_P (dC, dI) vwCl (wd_c_X9_take h0 h0_0 h0_f1 h0_f2 h0_f3 h0_0 h0_0k h0_0c) s.heap := hP
  have hl := lv_entry ([.ref h0, .int p1]) (n := 2) (Nat.le_of_ble_eq_true rfl)
  rw [lg_entry_eq]
  generalize (lg_sl ([.ref h0, .int p1]) ++ List.replicate (2 - (lg_sl ([.ref h0, .int p1])).length) Slot.unset).toArray = ls at hl ⊢
  have hl : lv_has ls 2 [(0, .ref h0), (1, .int p1)] := hl
  obtain ⟨H, hHe⟩ : ∃ H : Heap, s.heap = H := ⟨_, rfl⟩
  have hS : va_S A s.heap H [] := by rw [hHe]; exact va_S.rf
  have hP : va_P (dC, dI) vwCl (wd_c_X9_take h0 h0_0 h0_f1 h0_f2 h0_f3 h0_0 h0_0k h0_0c) H := by rw [← hHe]; exact hP
  rw [hHe]
  obtain ⟨RES, hR⟩ : ∃ z, fx_c_X9_take p1 h0_f1 h0_f2 h0_f3 h0_0c = z := ⟨_, rfl⟩
  have hEX : RES = fx_c_X9_take p1 h0_f1 h0_f2 h0_f3 h0_0c := hR.symm
  refine lv_aload_n hx hb dX9_take_0 rfl (lv_at hl 0 rfl) ?_
  as_aux_lemma =>
  refine va_get (D := (dC, dI)) (ci := 9) (v := .int h0_f3) (C := RX9) (T := TX9) (N := 4) hx hb hts iw_c_X9_take_X9 hown hK hP 0 rfl rfl 3 (by decide +kernel) (hts (.fieldLink RX9 15 "BuoyVote$Tape" "wrong" "I") (List.mem_of_getElem? (i := 1) rfl)) (fun _ h9 => h9) rfl dX9_take_1 ?_
  refine lv_iconst (v := (-1)) hx hb dX9_take_4 kc_iconst_m1 ?_
  refine lv_icmp_ne (tgt := 16) hx hb dX9_take_5 rfl (fun c_1 => ?_) (fun c_1 => ?_)
  · replace hEX := hEX.trans (if_neg c_1)
    have g_2 : RG h0_f3 0 240 := RG_ne1 g_h0_f3 (q := (-1)) rfl c_1 (by decide +kernel)
    refine lv_iconst (v := 0) hx hb dX9_take_16 kc_iconst_0 ?_
    have hK9 := hK.sub (tys' := []) [] rfl
    exact W.zret (v := 0) hx hb hr rfl (fun t ht hW => ⟨⟨0, h0_f2, rfl, (Or.inl ⟨rfl, g_h0_f2, (by show h0_f2.toInt + 0 ≤ h0_f2.toInt; omega), (hR.trans hEX).symm⟩), by rw [ht]; exact hP, va_K.moved hW.alike hK9, hD⟩, hS.F ht⟩) hS.2.2 dX9_take_17
  · replace hEX := hEX.trans (if_pos c_1)
    have g_3 : RG h0_f3 (-1) (-1) := RG_eq1 g_h0_f3 (RG_k (-1) (-1) rfl) c_1 (by decide +kernel)
    refine lv_aload_n hx hb dX9_take_8 rfl (lv_at hl 0 rfl) ?_
    obtain ⟨hPc, hDc, hFc, hqc⟩ := cl_cut (wc := (wd_c_X9_peek h0 h0_0 h0_f1 h0_f2 h0_f3 h0_0 h0_0k h0_0c)) hP hD hS hA [0, 1] (by decide +kernel) rfl
    have hKc := hK.sub (tys' := [(h0_0k, .int)]) [0] rfl
    have hrv := va_recv hKc hPc (ci := 9) (q0 := 0) rfl rfl
    refine va_calli (va_runV (As := []) (rest := []) ⟨hx, hb, hml, hown, hts⟩ (c_X9_peek l dC dI H.size h0 h0_0 h0_f1 h0_f2 h0_f3 h0_0k h0_0c g_h0_f1 g_h0_f2 (RG_w g_3 (by decide +kernel)) a_h0_0c) (cwV 0 hts gf_c_X9_take_c_X9_peek rfl rfl rfl mdV_X9_peek ⟨Nat.le_of_ble_eq_true rfl, Nat.le_of_ble_eq_true rfl⟩) ⟨fun a U g mk q => by obtain ⟨q0, q1, qP, qK, qD⟩ := q; exact ⟨q0, q1, qP, va_K.moved (u := U) (U := U.calling g mk a) (Vm.Alike.refl U.vm) qK, qD⟩, hrv, fun U hU hW => ⟨rfl, by rw [hU], by rw [hU]; exact hPc, va_K.moved hW.alike hKc, hDc.weaken (fun _ _ _ _ => trivial)⟩⟩ rfl rfl hl.1 rfl (lv_room (Nat.le_of_ble_eq_true rfl)) dX9_take_9 ⟨Nat.le_of_ble_eq_true rfl, Nat.le_of_ble_eq_true rfl⟩) hS (fun q _ h => hFc q h) hFc (fun r_4 x_5 t H1 locs ht hvm hw hB hz1 hk1 hS => ?_)
    as_aux_lemma =>
    obtain ⟨hP1, hK1, hD1⟩ := hB
    rw [ht] at hP1
    obtain ⟨hP, hD⟩ := cl_put (w1 := (wd_c_X9_peek h0 h0_0 h0_f1 x_5 h0_f3 h0_0 h0_0k h0_0c)) (nw := (wd_c_X9_take h0 h0_0 h0_f1 x_5 h0_f3 h0_0 h0_0k h0_0c)) hP hD [0, 1] [2, 3] 2 rfl hqc (by decide +kernel) rfl hk1 hFc hP1 hD1
    generalize H1 = H at hP hS ⊢
    as_aux_lemma =>
    rcases hw with ⟨h_6, h_7, h_8, h_9⟩ | ⟨h_10, h_11, h_12, h_13, h_14⟩
    · have h_9 : (r_4, x_5) = _ := h_9
      replace hEX := hEX.trans (exc2_eq h_9)
      replace hEX := hEX.trans (if_pos (show r_4 = (-1) from h_6))
      rw [h_6]
      refine lv_iload_n hx hb dX9_take_12 rfl (lv_at hl 1 rfl) ?_
      refine lv_icmp_eq (tgt := 18) hx hb dX9_take_13 rfl (fun c_15 => ?_) (fun c_15 => ?_)
      · replace hEX := hEX.trans (if_pos c_15)
        exact RG_dead (RG_eq1 (RG_k (-1) (-1) rfl) g_p1 c_15 (a' := 0) (b' := (-1)) (by decide +kernel)) (by decide +kernel)
      · replace hEX := hEX.trans (if_neg c_15)
        refine lv_iconst (v := 0) hx hb dX9_take_16 kc_iconst_0 ?_
        have hK9 := hK.sub (tys' := []) [] rfl
        exact W.zret (v := 0) hx hb hr rfl (fun t ht hW => ⟨⟨0, x_5, rfl, (Or.inl ⟨rfl, h_7, (by have := h_8; show h0_f2.toInt + 0 ≤ x_5.toInt; omega), (hR.trans hEX).symm⟩), by rw [ht]; exact hP, va_K.moved hW.alike hK9, hD⟩, hS.F ht⟩) hS.2.2 dX9_take_17
    · have h_14 : (r_4, x_5) = _ := h_14
      replace hEX := hEX.trans (exc2_eq h_14)
      replace hEX := hEX.trans (if_neg (RG_neq (x := r_4) (c := (-1)) (show RG r_4 0 255 from h_10) (by decide +kernel)))
      refine lv_iload_n hx hb dX9_take_12 rfl (lv_at hl 1 rfl) ?_
      as_aux_lemma =>
      refine lv_icmp_eq (tgt := 18) hx hb dX9_take_13 rfl (fun c_16 => ?_) (fun c_16 => ?_)
      · replace hEX := hEX.trans (if_pos c_16)
        have g_17 : RG r_4 0 60 := RG_eq1 h_10 g_p1 c_16 (by decide +kernel)
        refine lv_aload_n hx hb dX9_take_18 rfl (lv_at hl 0 rfl) ?_
        refine lv_dup hx hb dX9_take_19 rfl ?_
        refine va_get (D := (dC, dI)) (ci := 9) (v := .int x_5) (C := RX9) (T := TX9) (N := 4) hx hb hts iw_c_X9_take_X9 hown hK hP 0 rfl rfl 2 (by decide +kernel) (hts (.fieldLink RX9 22 "BuoyVote$Tape" "at" "I") (List.mem_of_getElem? (i := 7) rfl)) (fun _ h9 => h9) rfl dX9_take_20 ?_
        refine lv_iconst (v := 1) hx hb dX9_take_23 kc_iconst_1 ?_
        refine lv_iadd hx hb dX9_take_24 ?_
        refine lv_topi (fun x_18 ex_18 => ?_)
        replace hEX := hEX.trans (exl_eq ex_18)
        have g_19 : RG x_18 1 240 := RG_add ex_18 h_11 (RG_k 1 1 rfl) (by decide +kernel)
        have q_20 : x_18.toInt = x_5.toInt + 1 := eq_add ex_18 h_11 (q := 1) rfl (by decide +kernel)
        refine va_put (D := (dC, dI)) (ci := 9) (v := .int x_18) (ty := .int) (C := RX9) (T := TX9) (N := 4) hx hb hts iw_c_X9_take_X9 tyX9 tyX9_ok nmX9 hown hK hP hD hS 0 rfl rfl 2 (by decide +kernel) (hts (.fieldLink RX9 22 "BuoyVote$Tape" "at" "I") (List.mem_of_getElem? (i := 7) rfl)) (fun _ h9 => h9) rfl (by decide +kernel) rfl rfl (Nat.le_of_ble_eq_true rfl) dX9_take_25 (fun H locs hP hD hS => ?_)
        have hP : va_P (dC, dI) vwCl (wd_c_X9_take h0 h0_0 h0_f1 x_18 h0_f3 h0_0 h0_0k h0_0c) H := hP
        have hD : va_D A (wd_c_X9_take h0 h0_0 h0_f1 x_18 h0_f3 h0_0 h0_0k h0_0c) := hD
        refine lv_iconst (v := 1) hx hb dX9_take_28 kc_iconst_1 ?_
        as_aux_lemma =>
        have hK9 := hK.sub (tys' := []) [] rfl
        exact W.zret (v := 1) hx hb hr rfl (fun t ht hW => ⟨⟨1, x_18, rfl, (Or.inr ⟨rfl, g_19, h_12, g_3, (by have := h_13; have := q_20; show h0_f2.toInt + 1 ≤ x_18.toInt; omega), (hR.trans hEX).symm⟩), by rw [ht]; exact hP, va_K.moved hW.alike hK9, hD⟩, hS.F ht⟩) hS.2.2 dX9_take_29
      · replace hEX := hEX.trans (if_neg c_16)
        refine lv_iconst (v := 0) hx hb dX9_take_16 kc_iconst_0 ?_
        have hK9 := hK.sub (tys' := []) [] rfl
        exact W.zret (v := 0) hx hb hr rfl (fun t ht hW => ⟨⟨0, x_5, rfl, (Or.inl ⟨rfl, (RG_w h_11 (by decide +kernel)), (by have := h_13; show h0_f2.toInt + 0 ≤ x_5.toInt; omega), (hR.trans hEX).symm⟩), by rw [ht]; exact hP, va_K.moved hW.alike hK9, hD⟩, hS.F ht⟩) hS.2.2 dX9_take_17
noncomputable def wd_c_X9_expectEnd (a0 : Nat) (a1 : Nat) (a2 : Int32) (a3 : Int32) (a4 : Int32) (a5 : Nat) (a6 : ClassId) (a7 : Nat → Int32) : va_W := [(a0, .inr (9, [.ref a1, .int a2, .int a3, .int a4])), (a5, .inl (a6, 240, .inl a7))]
noncomputable def wf_c_X9_expectEnd : List Cond := List.cons (.code yX9_expectEnd cX9_expectEnd 1 none) (@HAppend.hAppend (List Cond) (List Cond) (List Cond) _ [.methodLink RX9 29 yX9_peek, .instanceMethod yX9_peek, .selects RX9 yX9_peek yX9_peek, .initialized RX9, .code yX9_peek cX9_peek 1 (some .int), .fieldLink RX9 22 "BuoyVote$Tape" "at" "I", .fieldLink RX9 19 "BuoyVote$Tape" "length" "I", .fieldLink RX9 11 "BuoyVote$Tape" "bytes" "[I", .methodLink RX9 25 yX9_refuse, .instanceMethod yX9_refuse, .selects RX9 yX9_refuse yX9_refuse, .code yX9_refuse cX9_refuse 2 none, .fieldLink RX9 15 "BuoyVote$Tape" "wrong" "I"] wsX90)
theorem iw_c_X9_expectEnd_X9 : ∀ w ∈ wsX90, w ∈ wf_c_X9_expectEnd := fun w h => List.mem_cons_of_mem _ (List.mem_append_right _ h)
set_option maxRecDepth 20000 in
theorem gf_c_X9_expectEnd_c_X9_peek : GoodIn wf_c_X9_expectEnd (wsV RX9 29 RX9 yX9_peek wf_c_X9_peek) := goodIn_app (gi_l [1, 2, 3, 4] rfl rfl) (gi_cons (j := 5) rfl rfl (goodIn_app (gi_l [6, 7, 8] rfl rfl) (goodIn_sub iw_c_X9_expectEnd_X9 gw_X9)))
set_option maxRecDepth 20000 in
theorem gf_c_X9_expectEnd_c_X9_refuse_1 : GoodIn wf_c_X9_expectEnd (wsV RX9 25 RX9 yX9_refuse wf_c_X9_refuse_1) := goodIn_app (gi_l [9, 10, 11, 4] rfl rfl) (gi_cons (j := 12) rfl rfl (goodIn_app (gi_l [13] rfl rfl) (goodIn_sub iw_c_X9_expectEnd_X9 gw_X9)))
set_option maxHeartbeats 4000000 in
set_option maxRecDepth 100000 in
theorem c_X9_expectEnd (l : Launch) (dC : Nat → ClassId) (dI : Nat → Nat → Nat) (sz : Nat) (h0 : Nat) (h0_0 : Nat) (h0_f1 : Int32) (h0_f2 : Int32) (h0_f3 : Int32) (h0_0k : ClassId) (h0_0c : Nat → Int32) (g_h0_f1 : RG h0_f1 0 240) (g_h0_f2 : RG h0_f2 0 240) (g_h0_f3 : RG h0_f3 (-1) 240) (a_h0_0c : AI h0_0c 0 255) : Met l yX9_expectEnd wf_c_X9_expectEnd ({ frames := 1, cells := 0, slots := 0, locals := 21 }) (va_Pc [.ref h0] (fun U => U.heap.size = sz ∧ va_P (dC, dI) vwCl (wd_c_X9_expectEnd h0 h0_0 h0_f1 h0_f2 h0_f3 h0_0 h0_0k h0_0c) U.heap ∧ va_K (dC, dI) vwCl [(h0_0k, .int)] U ∧ va_D (fun _ => True) (wd_c_X9_expectEnd h0 h0_0 h0_f1 h0_f2 h0_f3 h0_0 h0_0k h0_0c))) (va_Qv (fun (u : (Int32) × (Int32)) => (RG u.1 0 240 ∧ RG u.2 (-1) 240 ∧ h0_f2.toInt + 0 ≤ (u.1).toInt ∧ (u.1, u.2) = fx_c_X9_expectEnd h0_f1 h0_f2 h0_f3 h0_0c)) (fun (u : (Int32) × (Int32)) t => va_P (dC, dI) vwCl (wd_c_X9_expectEnd h0 h0_0 h0_f1 (u.1) (u.2) h0_0 h0_0k h0_0c) t.heap ∧ va_K (dC, dI) vwCl [] t ∧ va_D (va_A (wd_c_X9_expectEnd h0 h0_0 h0_f1 h0_f2 h0_f3 h0_0 h0_0k h0_0c) sz) (wd_c_X9_expectEnd h0 h0_0 h0_f1 (u.1) (u.2) h0_0 h0_0k h0_0c)) (va_A (wd_c_X9_expectEnd h0 h0_0 h0_f1 h0_f2 h0_f3 h0_0 h0_0k h0_0c) sz)) 0 0 (va_A (wd_c_X9_expectEnd h0 h0_0 h0_f1 h0_f2 h0_f3 h0_0 h0_0k h0_0c) sz) := by
  refine Met.ofW (cc := cX9_expectEnd) (maxL := 1) (ret := none) (by decide +kernel) rfl ?_
  intro p e s m args below meth c s₁ B hml hv
  obtain ⟨rfl, hsz, hP, hK, hD0⟩ := hv
  have hx := B.exec
  have hb := B.bytes
  have hr := B.returns
  have hts := atoms_spec (ws := wf_c_X9_expectEnd) B.pre
  have hown : s.vm.findClass RX9 = some m.cls := findClass_of_methodNamed B.named
  have hlocks := B.notSynchronized
  subst hsz
  have hD := hD0.self (sz := s.heap.size)
  generalize hAe : va_A (wd_c_X9_expectEnd h0 h0_0 h0_f1 h0_f2 h0_f3 h0_0 h0_0k h0_0c) s.heap.size = A at hD ⊢
  have hA : ∀ q : Nat, s.heap.size ≤ q → A q := fun q h => by rw [← hAe]; exact Or.inr h
  have hP : va_P (dC, dI) vwCl (wd_c_X9_expectEnd h0 h0_0 h0_f1 h0_f2 h0_f3 h0_0 h0_0k h0_0c) s.heap := hP
  have hl := lv_entry ([.ref h0]) (n := 1) (Nat.le_of_ble_eq_true rfl)
  rw [lg_entry_eq]
  generalize (lg_sl ([.ref h0]) ++ List.replicate (1 - (lg_sl ([.ref h0])).length) Slot.unset).toArray = ls at hl ⊢
  have hl : lv_has ls 1 [(0, .ref h0)] := hl
  obtain ⟨H, hHe⟩ : ∃ H : Heap, s.heap = H := ⟨_, rfl⟩
  have hS : va_S A s.heap H [] := by rw [hHe]; exact va_S.rf
  have hP : va_P (dC, dI) vwCl (wd_c_X9_expectEnd h0 h0_0 h0_f1 h0_f2 h0_f3 h0_0 h0_0k h0_0c) H := by rw [← hHe]; exact hP
  rw [hHe]
  obtain ⟨RES, hR⟩ : ∃ z, fx_c_X9_expectEnd h0_f1 h0_f2 h0_f3 h0_0c = z := ⟨_, rfl⟩
  have hEX : RES = fx_c_X9_expectEnd h0_f1 h0_f2 h0_f3 h0_0c := hR.symm
  refine lv_aload_n hx hb dX9_expectEnd_0 rfl (lv_at hl 0 rfl) ?_
  as_aux_lemma =>
  obtain ⟨hPc, hDc, hFc, hqc⟩ := cl_cut (wc := (wd_c_X9_peek h0 h0_0 h0_f1 h0_f2 h0_f3 h0_0 h0_0k h0_0c)) hP hD hS hA [0, 1] (by decide +kernel) rfl
  have hKc := hK.sub (tys' := [(h0_0k, .int)]) [0] rfl
  have hrv := va_recv hKc hPc (ci := 9) (q0 := 0) rfl rfl
  refine va_calli (va_runV (As := []) (rest := []) ⟨hx, hb, hml, hown, hts⟩ (c_X9_peek l dC dI H.size h0 h0_0 h0_f1 h0_f2 h0_f3 h0_0k h0_0c g_h0_f1 g_h0_f2 g_h0_f3 a_h0_0c) (cwV 0 hts gf_c_X9_expectEnd_c_X9_peek rfl rfl rfl mdV_X9_peek ⟨Nat.le_of_ble_eq_true rfl, Nat.le_of_ble_eq_true rfl⟩) ⟨fun a U g mk q => by obtain ⟨q0, q1, qP, qK, qD⟩ := q; exact ⟨q0, q1, qP, va_K.moved (u := U) (U := U.calling g mk a) (Vm.Alike.refl U.vm) qK, qD⟩, hrv, fun U hU hW => ⟨rfl, by rw [hU], by rw [hU]; exact hPc, va_K.moved hW.alike hKc, hDc.weaken (fun _ _ _ _ => trivial)⟩⟩ rfl rfl hl.1 rfl (lv_room (Nat.le_of_ble_eq_true rfl)) dX9_expectEnd_1 ⟨Nat.le_of_ble_eq_true rfl, Nat.le_of_ble_eq_true rfl⟩) hS (fun q _ h => hFc q h) hFc (fun r_1 x_2 t H1 locs ht hvm hw hB hz1 hk1 hS => ?_)
  obtain ⟨hP1, hK1, hD1⟩ := hB
  rw [ht] at hP1
  obtain ⟨hP, hD⟩ := cl_put (w1 := (wd_c_X9_peek h0 h0_0 h0_f1 x_2 h0_f3 h0_0 h0_0k h0_0c)) (nw := (wd_c_X9_expectEnd h0 h0_0 h0_f1 x_2 h0_f3 h0_0 h0_0k h0_0c)) hP hD [0, 1] [2, 3] 2 rfl hqc (by decide +kernel) rfl hk1 hFc hP1 hD1
  generalize H1 = H at hP hS ⊢
  as_aux_lemma =>
  rcases hw with ⟨h_3, h_4, h_5, h_6⟩ | ⟨h_7, h_8, h_9, h_10, h_11⟩
  · have h_6 : (r_1, x_2) = _ := h_6
    replace hEX := hEX.trans (exc2_eq h_6)
    replace hEX := hEX.trans (if_pos (show r_1 = (-1) from h_3))
    rw [h_3]
    refine lv_iconst (v := (-1)) hx hb dX9_expectEnd_4 kc_iconst_m1 ?_
    refine lv_icmp_eq (tgt := 16) hx hb dX9_expectEnd_5 rfl (fun c_12 => ?_) (fun c_12 => absurd c_12 (by decide +kernel))
    have hK9 := hK.sub (tys' := []) [] rfl
    exact W.vret hx hb hr (fun t ht hW => ⟨⟨(x_2, h0_f3), rfl, ⟨h_4, g_h0_f3, (by have := h_5; show h0_f2.toInt + 0 ≤ x_2.toInt; omega), (hR.trans hEX).symm⟩, by rw [ht]; exact hP, va_K.moved hW.alike hK9, hD⟩, hS.F ht⟩) hS.2.2 dX9_expectEnd_16
  · have h_11 : (r_1, x_2) = _ := h_11
    replace hEX := hEX.trans (exc2_eq h_11)
    replace hEX := hEX.trans (if_neg (RG_neq (x := r_1) (c := (-1)) (show RG r_1 0 255 from h_7) (by decide +kernel)))
    refine lv_iconst (v := (-1)) hx hb dX9_expectEnd_4 kc_iconst_m1 ?_
    refine lv_icmp_eq (tgt := 16) hx hb dX9_expectEnd_5 rfl (fun c_13 => ?_) (fun c_13 => ?_)
    · replace hEX := hEX.trans (if_pos c_13)
      exact RG_dead (RG_eq1 h_7 (RG_k (-1) (-1) rfl) c_13 (a' := 0) (b' := (-1)) (by decide +kernel)) (by decide +kernel)
    · replace hEX := hEX.trans (if_neg c_13)
      refine lv_aload_n hx hb dX9_expectEnd_8 rfl (lv_at hl 0 rfl) ?_
      as_aux_lemma =>
      refine lv_aload_n hx hb dX9_expectEnd_9 rfl (lv_at hl 0 rfl) ?_
      refine va_get (D := (dC, dI)) (ci := 9) (v := .int x_2) (C := RX9) (T := TX9) (N := 4) hx hb hts iw_c_X9_expectEnd_X9 hown hK hP 0 rfl rfl 2 (by decide +kernel) (hts (.fieldLink RX9 22 "BuoyVote$Tape" "at" "I") (List.mem_of_getElem? (i := 6) rfl)) (fun _ h9 => h9) rfl dX9_expectEnd_10 ?_
      obtain ⟨hPc, hDc, hFc, hqc⟩ := cl_cut (wc := (wd_c_X9_refuse_1 h0 h0_0 h0_f1 x_2 h0_f3)) hP hD hS hA [0] (by decide +kernel) rfl
      have hKc := hK.sub (tys' := []) [] rfl
      have hrv := va_recv hKc hPc (ci := 9) (q0 := 0) rfl rfl
      refine va_callv (va_runV (As := [.int x_2]) (rest := []) ⟨hx, hb, hml, hown, hts⟩ (c_X9_refuse_1 l dC dI H.size h0 x_2 h0_0 h0_f1 x_2 h0_f3 h_8 (RG_w h_9 (by decide +kernel)) (RG_w h_8 (by decide +kernel)) g_h0_f3) (cwV 1 hts gf_c_X9_expectEnd_c_X9_refuse_1 rfl rfl rfl mdV_X9_refuse ⟨Nat.le_of_ble_eq_true rfl, Nat.le_of_ble_eq_true rfl⟩) ⟨fun a U g mk q => by obtain ⟨q0, q1, qP, qK, qD⟩ := q; exact ⟨q0, q1, qP, va_K.moved (u := U) (U := U.calling g mk a) (Vm.Alike.refl U.vm) qK, qD⟩, hrv, fun U hU hW => ⟨rfl, by rw [hU], by rw [hU]; exact hPc, va_K.moved hW.alike hKc, hDc.weaken (fun _ _ _ _ => trivial)⟩⟩ rfl rfl hl.1 rfl (lv_room (Nat.le_of_ble_eq_true rfl)) dX9_expectEnd_13 ⟨Nat.le_of_ble_eq_true rfl, Nat.le_of_ble_eq_true rfl⟩) hS (fun q _ h => hFc q h) hFc (fun x_15 t H1 locs ht hvm hw hB hz1 hk1 hS => ?_)
      obtain ⟨hP1, hK1, hD1⟩ := hB
      rw [ht] at hP1
      obtain ⟨hP, hD⟩ := cl_put (w1 := (wd_c_X9_refuse_1 h0 h0_0 h0_f1 x_2 x_15)) (nw := (wd_c_X9_expectEnd h0 h0_0 h0_f1 x_2 x_15 h0_0 h0_0k h0_0c)) hP hD [0] [2, 1] 2 rfl hqc (by decide +kernel) rfl hk1 hFc hP1 hD1
      generalize H1 = H at hP hS ⊢
      as_aux_lemma =>
      rcases hw with ⟨h_16, h_17⟩
      have h_17 : x_15 = _ := h_17
      replace hEX := hEX.trans (exc1_eq h_17)
      have hK9 := hK.sub (tys' := []) [] rfl
      exact W.vret hx hb hr (fun t ht hW => ⟨⟨(x_2, x_15), rfl, ⟨(RG_w h_8 (by decide +kernel)), (RG_w h_16 (by decide +kernel)), (by have := h_10; show h0_f2.toInt + 0 ≤ x_2.toInt; omega), (hR.trans hEX).symm⟩, by rw [ht]; exact hP, va_K.moved hW.alike hK9, hD⟩, hS.F ht⟩) hS.2.2 dX9_expectEnd_16
noncomputable def wd_c_X0_buoyX (a0 : Nat) (a1 : Nat) (a2 : Int32) (a3 : Int32) (a4 : Int32) (a5 : Nat) (a6 : ClassId) (a7 : Nat → Int32) : va_W := [(a0, .inr (0, [.ref a1, .int a2, .int a3, .int a4])), (a5, .inl (a6, 80, .inl a7))]
noncomputable def wf_c_X0_buoyX : List Cond := List.cons (.code yX0_buoyX cX0_buoyX 2 (some .int)) (@HAppend.hAppend (List Cond) (List Cond) (List Cond) _ [.fieldLink RX0 11 "BuoyVote$Borough" "values" "[I"] wsX00)
theorem iw_c_X0_buoyX_X0 : ∀ w ∈ wsX00, w ∈ wf_c_X0_buoyX := fun w h => List.mem_cons_of_mem _ (List.mem_append_right _ h)
set_option maxHeartbeats 4000000 in
set_option maxRecDepth 100000 in
theorem c_X0_buoyX (l : Launch) (dC : Nat → ClassId) (dI : Nat → Nat → Nat) (sz : Nat) (h0 : Nat) (p1 : Int32) (h0_0 : Nat) (h0_f1 : Int32) (h0_f2 : Int32) (h0_f3 : Int32) (h0_0k : ClassId) (h0_0c : Nat → Int32) (g_p1 : RG p1 0 7) (g_h0_f1 : RG h0_f1 0 8) (g_h0_f2 : RG h0_f2 0 3) (g_h0_f3 : RG h0_f3 0 1) (a_h0_0c : AI h0_0c (-1) 99) : Met l yX0_buoyX wf_c_X0_buoyX ({ frames := 0, cells := 0, slots := 0, locals := 0 }) (va_Pc [.ref h0, .int p1] (fun U => U.heap.size = sz ∧ va_P (dC, dI) vwCl (wd_c_X0_buoyX h0 h0_0 h0_f1 h0_f2 h0_f3 h0_0 h0_0k h0_0c) U.heap ∧ va_K (dC, dI) vwCl [(h0_0k, .int)] U ∧ va_D (fun _ => True) (wd_c_X0_buoyX h0 h0_0 h0_f1 h0_f2 h0_f3 h0_0 h0_0k h0_0c))) (va_Qi (fun (r : Int32) (u : Unit) => (RG r (-1) 99 ∧ r = fx_c_X0_buoyX p1 h0_0c)) (fun (u : Unit) t => va_P (dC, dI) vwCl (wd_c_X0_buoyX h0 h0_0 h0_f1 h0_f2 h0_f3 h0_0 h0_0k h0_0c) t.heap ∧ va_K (dC, dI) vwCl [] t ∧ va_D (va_A (wd_c_X0_buoyX h0 h0_0 h0_f1 h0_f2 h0_f3 h0_0 h0_0k h0_0c) sz) (wd_c_X0_buoyX h0 h0_0 h0_f1 h0_f2 h0_f3 h0_0 h0_0k h0_0c)) (va_A (wd_c_X0_buoyX h0 h0_0 h0_f1 h0_f2 h0_f3 h0_0 h0_0k h0_0c) sz)) 0 0 (va_A (wd_c_X0_buoyX h0 h0_0 h0_f1 h0_f2 h0_f3 h0_0 h0_0k h0_0c) sz) := by
  refine Met.ofW (cc := cX0_buoyX) (maxL := 2) (ret := (some .int)) (by decide +kernel) rfl ?_
  intro p e s m args below meth c s₁ B hml hv
  obtain ⟨rfl, hsz, hP, hK, hD0⟩ := hv
  have hx := B.exec
  have hb := B.bytes
  have hr := B.returns
  have hts := atoms_spec (ws := wf_c_X0_buoyX) B.pre
  have hown : s.vm.findClass RX0 = some m.cls := findClass_of_methodNamed B.named
  have hlocks := B.notSynchronized
  subst hsz
  have hD := hD0.self (sz := s.heap.size)
  generalize hAe : va_A (wd_c_X0_buoyX h0 h0_0 h0_f1 h0_f2 h0_f3 h0_0 h0_0k h0_0c) s.heap.size = A at hD ⊢
  have hA : ∀ q : Nat, s.heap.size ≤ q → A q := fun q h => by rw [← hAe]; exact Or.inr h
  have hP : va_P (dC, dI) vwCl (wd_c_X0_buoyX h0 h0_0 h0_f1 h0_f2 h0_f3 h0_0 h0_0k h0_0c) s.heap := hP
  have hl := lv_entry ([.ref h0, .int p1]) (n := 2) (Nat.le_of_ble_eq_true rfl)
  rw [lg_entry_eq]
  generalize (lg_sl ([.ref h0, .int p1]) ++ List.replicate (2 - (lg_sl ([.ref h0, .int p1])).length) Slot.unset).toArray = ls at hl ⊢
  have hl : lv_has ls 2 [(0, .ref h0), (1, .int p1)] := hl
  obtain ⟨H, hHe⟩ : ∃ H : Heap, s.heap = H := ⟨_, rfl⟩
  have hS : va_S A s.heap H [] := by rw [hHe]; exact va_S.rf
  have hP : va_P (dC, dI) vwCl (wd_c_X0_buoyX h0 h0_0 h0_f1 h0_f2 h0_f3 h0_0 h0_0k h0_0c) H := by rw [← hHe]; exact hP
  rw [hHe]
  obtain ⟨RES, hR⟩ : ∃ z, fx_c_X0_buoyX p1 h0_0c = z := ⟨_, rfl⟩
  have hEX : RES = fx_c_X0_buoyX p1 h0_0c := hR.symm
  refine lv_aload_n hx hb dX0_buoyX_0 rfl (lv_at hl 0 rfl) ?_
  as_aux_lemma =>
  refine va_get (D := (dC, dI)) (ci := 0) (v := .ref h0_0) (C := RX0) (T := TX0) (N := 4) hx hb hts iw_c_X0_buoyX_X0 hown hK hP 0 rfl rfl 0 (by decide +kernel) (hts (.fieldLink RX0 11 "BuoyVote$Borough" "values" "[I") (List.mem_of_getElem? (i := 1) rfl)) (fun _ h9 => h9) rfl dX0_buoyX_1 ?_
  refine lv_iconst (v := 4) hx hb dX0_buoyX_4 kc_iconst_4 ?_
  refine lv_iload_n hx hb dX0_buoyX_5 rfl (lv_at hl 1 rfl) ?_
  refine lv_bipush (v := 8) hx hb dX0_buoyX_6 kc_bipush_8 ?_
  refine lv_imul hx hb dX0_buoyX_8 ?_
  refine lv_topi (fun x_1 ex_1 => ?_)
  replace hEX := hEX.trans (exl_eq ex_1)
  have g_2 : RG x_1 0 56 := RG_mulc ex_1 (q := 8) rfl g_p1 (by decide +kernel)
  refine lv_iadd hx hb dX0_buoyX_9 ?_
  refine lv_topi (fun x_3 ex_3 => ?_)
  replace hEX := hEX.trans (exl_eq ex_3)
  have g_4 : RG x_3 4 60 := RG_add ex_3 (RG_k 4 4 rfl) g_2 (by decide +kernel)
  refine va_iald hx hb hK hP 1 0 rfl rfl (RG_in g_4 (by decide +kernel)) dX0_buoyX_10 ?_
  refine lv_topi (fun x_5 ex_5 => ?_)
  as_aux_lemma =>
  replace hEX := hEX.trans (exl_eq ex_5)
  have g_6 : RG x_5 (-1) 99 := AI_rd a_h0_0c ex_5
  have hK9 := hK.sub (tys' := []) [] rfl
  exact W.iret (v := x_5) hx hb hr (fun t ht hW => ⟨⟨x_5, (), rfl, ⟨g_6, (hR.trans hEX).symm⟩, by rw [ht]; exact hP, va_K.moved hW.alike hK9, hD⟩, hS.F ht⟩) hS.2.2 dX0_buoyX_11
noncomputable def wd_c_X0_buoyY (a0 : Nat) (a1 : Nat) (a2 : Int32) (a3 : Int32) (a4 : Int32) (a5 : Nat) (a6 : ClassId) (a7 : Nat → Int32) : va_W := [(a0, .inr (0, [.ref a1, .int a2, .int a3, .int a4])), (a5, .inl (a6, 80, .inl a7))]
noncomputable def wf_c_X0_buoyY : List Cond := List.cons (.code yX0_buoyY cX0_buoyY 2 (some .int)) (@HAppend.hAppend (List Cond) (List Cond) (List Cond) _ [.fieldLink RX0 11 "BuoyVote$Borough" "values" "[I"] wsX00)
theorem iw_c_X0_buoyY_X0 : ∀ w ∈ wsX00, w ∈ wf_c_X0_buoyY := fun w h => List.mem_cons_of_mem _ (List.mem_append_right _ h)
set_option maxHeartbeats 4000000 in
set_option maxRecDepth 100000 in
theorem c_X0_buoyY (l : Launch) (dC : Nat → ClassId) (dI : Nat → Nat → Nat) (sz : Nat) (h0 : Nat) (p1 : Int32) (h0_0 : Nat) (h0_f1 : Int32) (h0_f2 : Int32) (h0_f3 : Int32) (h0_0k : ClassId) (h0_0c : Nat → Int32) (g_p1 : RG p1 0 7) (g_h0_f1 : RG h0_f1 0 8) (g_h0_f2 : RG h0_f2 0 3) (g_h0_f3 : RG h0_f3 0 1) (a_h0_0c : AI h0_0c (-1) 99) : Met l yX0_buoyY wf_c_X0_buoyY ({ frames := 0, cells := 0, slots := 0, locals := 0 }) (va_Pc [.ref h0, .int p1] (fun U => U.heap.size = sz ∧ va_P (dC, dI) vwCl (wd_c_X0_buoyY h0 h0_0 h0_f1 h0_f2 h0_f3 h0_0 h0_0k h0_0c) U.heap ∧ va_K (dC, dI) vwCl [(h0_0k, .int)] U ∧ va_D (fun _ => True) (wd_c_X0_buoyY h0 h0_0 h0_f1 h0_f2 h0_f3 h0_0 h0_0k h0_0c))) (va_Qi (fun (r : Int32) (u : Unit) => (RG r (-1) 99 ∧ r = fx_c_X0_buoyY p1 h0_0c)) (fun (u : Unit) t => va_P (dC, dI) vwCl (wd_c_X0_buoyY h0 h0_0 h0_f1 h0_f2 h0_f3 h0_0 h0_0k h0_0c) t.heap ∧ va_K (dC, dI) vwCl [] t ∧ va_D (va_A (wd_c_X0_buoyY h0 h0_0 h0_f1 h0_f2 h0_f3 h0_0 h0_0k h0_0c) sz) (wd_c_X0_buoyY h0 h0_0 h0_f1 h0_f2 h0_f3 h0_0 h0_0k h0_0c)) (va_A (wd_c_X0_buoyY h0 h0_0 h0_f1 h0_f2 h0_f3 h0_0 h0_0k h0_0c) sz)) 0 0 (va_A (wd_c_X0_buoyY h0 h0_0 h0_f1 h0_f2 h0_f3 h0_0 h0_0k h0_0c) sz) := by
  refine Met.ofW (cc := cX0_buoyY) (maxL := 2) (ret := (some .int)) (by decide +kernel) rfl ?_
  intro p e s m args below meth c s₁ B hml hv
  obtain ⟨rfl, hsz, hP, hK, hD0⟩ := hv
  have hx := B.exec
  have hb := B.bytes
  have hr := B.returns
  have hts := atoms_spec (ws := wf_c_X0_buoyY) B.pre
  have hown : s.vm.findClass RX0 = some m.cls := findClass_of_methodNamed B.named
  have hlocks := B.notSynchronized
  subst hsz
  have hD := hD0.self (sz := s.heap.size)
  generalize hAe : va_A (wd_c_X0_buoyY h0 h0_0 h0_f1 h0_f2 h0_f3 h0_0 h0_0k h0_0c) s.heap.size = A at hD ⊢
  have hA : ∀ q : Nat, s.heap.size ≤ q → A q := fun q h => by rw [← hAe]; exact Or.inr h
  have hP : va_P (dC, dI) vwCl (wd_c_X0_buoyY h0 h0_0 h0_f1 h0_f2 h0_f3 h0_0 h0_0k h0_0c) s.heap := hP
  have hl := lv_entry ([.ref h0, .int p1]) (n := 2) (Nat.le_of_ble_eq_true rfl)
  rw [lg_entry_eq]
  generalize (lg_sl ([.ref h0, .int p1]) ++ List.replicate (2 - (lg_sl ([.ref h0, .int p1])).length) Slot.unset).toArray = ls at hl ⊢
  have hl : lv_has ls 2 [(0, .ref h0), (1, .int p1)] := hl
  obtain ⟨H, hHe⟩ : ∃ H : Heap, s.heap = H := ⟨_, rfl⟩
  have hS : va_S A s.heap H [] := by rw [hHe]; exact va_S.rf
  have hP : va_P (dC, dI) vwCl (wd_c_X0_buoyY h0 h0_0 h0_f1 h0_f2 h0_f3 h0_0 h0_0k h0_0c) H := by rw [← hHe]; exact hP
  rw [hHe]
  obtain ⟨RES, hR⟩ : ∃ z, fx_c_X0_buoyY p1 h0_0c = z := ⟨_, rfl⟩
  have hEX : RES = fx_c_X0_buoyY p1 h0_0c := hR.symm
  refine lv_aload_n hx hb dX0_buoyY_0 rfl (lv_at hl 0 rfl) ?_
  as_aux_lemma =>
  refine va_get (D := (dC, dI)) (ci := 0) (v := .ref h0_0) (C := RX0) (T := TX0) (N := 4) hx hb hts iw_c_X0_buoyY_X0 hown hK hP 0 rfl rfl 0 (by decide +kernel) (hts (.fieldLink RX0 11 "BuoyVote$Borough" "values" "[I") (List.mem_of_getElem? (i := 1) rfl)) (fun _ h9 => h9) rfl dX0_buoyY_1 ?_
  refine lv_iconst (v := 4) hx hb dX0_buoyY_4 kc_iconst_4 ?_
  refine lv_iload_n hx hb dX0_buoyY_5 rfl (lv_at hl 1 rfl) ?_
  refine lv_bipush (v := 8) hx hb dX0_buoyY_6 kc_bipush_8 ?_
  refine lv_imul hx hb dX0_buoyY_8 ?_
  refine lv_topi (fun x_1 ex_1 => ?_)
  replace hEX := hEX.trans (exl_eq ex_1)
  have g_2 : RG x_1 0 56 := RG_mulc ex_1 (q := 8) rfl g_p1 (by decide +kernel)
  refine lv_iadd hx hb dX0_buoyY_9 ?_
  refine lv_topi (fun x_3 ex_3 => ?_)
  replace hEX := hEX.trans (exl_eq ex_3)
  have g_4 : RG x_3 4 60 := RG_add ex_3 (RG_k 4 4 rfl) g_2 (by decide +kernel)
  refine lv_iconst (v := 1) hx hb dX0_buoyY_10 kc_iconst_1 ?_
  refine lv_iadd hx hb dX0_buoyY_11 ?_
  as_aux_lemma =>
  refine lv_topi (fun x_5 ex_5 => ?_)
  replace hEX := hEX.trans (exl_eq ex_5)
  have g_6 : RG x_5 5 61 := RG_add ex_5 g_4 (RG_k 1 1 rfl) (by decide +kernel)
  refine va_iald hx hb hK hP 1 0 rfl rfl (RG_in g_6 (by decide +kernel)) dX0_buoyY_12 ?_
  refine lv_topi (fun x_7 ex_7 => ?_)
  replace hEX := hEX.trans (exl_eq ex_7)
  have g_8 : RG x_7 (-1) 99 := AI_rd a_h0_0c ex_7
  have hK9 := hK.sub (tys' := []) [] rfl
  exact W.iret (v := x_7) hx hb hr (fun t ht hW => ⟨⟨x_7, (), rfl, ⟨g_8, (hR.trans hEX).symm⟩, by rw [ht]; exact hP, va_K.moved hW.alike hK9, hD⟩, hS.F ht⟩) hS.2.2 dX0_buoyY_13
noncomputable def wd_c_X0_isWhole (a0 : Nat) (a1 : Nat) (a2 : Int32) (a3 : Int32) (a4 : Int32) (a5 : Nat) (a6 : ClassId) (a7 : Nat → Int32) : va_W := [(a0, .inr (0, [.ref a1, .int a2, .int a3, .int a4])), (a5, .inl (a6, 80, .inl a7))]
noncomputable def wf_c_X0_isWhole : List Cond := List.cons (.code yX0_isWhole cX0_isWhole 3 (some .boolean)) (@HAppend.hAppend (List Cond) (List Cond) (List Cond) _ [.fieldLink RX0 21 "BuoyVote$Borough" "buoys" "I", .fieldLink RX0 25 "BuoyVote$Borough" "boats" "I", .methodLink RX0 116 yX0_buoyX, .instanceMethod yX0_buoyX, .selects RX0 yX0_buoyX yX0_buoyX, .initialized RX0, .code yX0_buoyX cX0_buoyX 2 (some .int), .fieldLink RX0 11 "BuoyVote$Borough" "values" "[I", .methodLink RX0 119 yX0_buoyY, .instanceMethod yX0_buoyY, .selects RX0 yX0_buoyY yX0_buoyY, .code yX0_buoyY cX0_buoyY 2 (some .int)] wsX00)
theorem iw_c_X0_isWhole_X0 : ∀ w ∈ wsX00, w ∈ wf_c_X0_isWhole := fun w h => List.mem_cons_of_mem _ (List.mem_append_right _ h)
set_option maxRecDepth 20000 in
theorem gf_c_X0_isWhole_c_X0_buoyX : GoodIn wf_c_X0_isWhole (wsV RX0 116 RX0 yX0_buoyX wf_c_X0_buoyX) := goodIn_app (gi_l [3, 4, 5, 6] rfl rfl) (gi_cons (j := 7) rfl rfl (goodIn_app (gi_l [8] rfl rfl) (goodIn_sub iw_c_X0_isWhole_X0 gw_X0)))
set_option maxRecDepth 20000 in
theorem gf_c_X0_isWhole_c_X0_buoyY : GoodIn wf_c_X0_isWhole (wsV RX0 119 RX0 yX0_buoyY wf_c_X0_buoyY) := goodIn_app (gi_l [9, 10, 11, 6] rfl rfl) (gi_cons (j := 12) rfl rfl (goodIn_app (gi_l [8] rfl rfl) (goodIn_sub iw_c_X0_isWhole_X0 gw_X0)))
set_option maxHeartbeats 4000000 in
set_option maxRecDepth 100000 in
theorem c_X0_isWhole (l : Launch) (dC : Nat → ClassId) (dI : Nat → Nat → Nat) (sz : Nat) (h0 : Nat) (h0_0 : Nat) (h0_f1 : Int32) (h0_f2 : Int32) (h0_f3 : Int32) (h0_0k : ClassId) (h0_0c : Nat → Int32) (g_h0_f1 : RG h0_f1 0 8) (g_h0_f2 : RG h0_f2 0 3) (g_h0_f3 : RG h0_f3 0 1) (a_h0_0c : AI h0_0c (-1) 99) : Met l yX0_isWhole wf_c_X0_isWhole ({ frames := 1, cells := 0, slots := 0, locals := 21 }) (va_Pc [.ref h0] (fun U => U.heap.size = sz ∧ va_P (dC, dI) vwCl (wd_c_X0_isWhole h0 h0_0 h0_f1 h0_f2 h0_f3 h0_0 h0_0k h0_0c) U.heap ∧ va_K (dC, dI) vwCl [(h0_0k, .int)] U ∧ va_D (fun _ => True) (wd_c_X0_isWhole h0 h0_0 h0_f1 h0_f2 h0_f3 h0_0 h0_0k h0_0c))) (va_Qi (fun (r : Int32) (u : Unit) => (r = 0 ∧ r = fx_c_X0_isWhole h0_f1 h0_f2 h0_0c) ∨ (r = 1 ∧ RG h0_f1 1 8 ∧ RG h0_f2 2 3 ∧ r = fx_c_X0_isWhole h0_f1 h0_f2 h0_0c)) (fun (u : Unit) t => va_P (dC, dI) vwCl (wd_c_X0_isWhole h0 h0_0 h0_f1 h0_f2 h0_f3 h0_0 h0_0k h0_0c) t.heap ∧ va_K (dC, dI) vwCl [] t ∧ va_D (va_A (wd_c_X0_isWhole h0 h0_0 h0_f1 h0_f2 h0_f3 h0_0 h0_0k h0_0c) sz) (wd_c_X0_isWhole h0 h0_0 h0_f1 h0_f2 h0_f3 h0_0 h0_0k h0_0c)) (va_A (wd_c_X0_isWhole h0 h0_0 h0_f1 h0_f2 h0_f3 h0_0 h0_0k h0_0c) sz)) 0 0 (va_A (wd_c_X0_isWhole h0 h0_0 h0_f1 h0_f2 h0_f3 h0_0 h0_0k h0_0c) sz) := by
  refine Met.ofW (cc := cX0_isWhole) (maxL := 3) (ret := (some .boolean)) (by decide +kernel) rfl ?_
  intro p e s m args below meth c s₁ B hml hv
  obtain ⟨rfl, hsz, hP, hK, hD0⟩ := hv
  have hx := B.exec
  have hb := B.bytes
  have hr := B.returns
  have hts := atoms_spec (ws := wf_c_X0_isWhole) B.pre
  have hown : s.vm.findClass RX0 = some m.cls := findClass_of_methodNamed B.named
  have hlocks := B.notSynchronized
  subst hsz
  have hD := hD0.self (sz := s.heap.size)
  generalize hAe : va_A (wd_c_X0_isWhole h0 h0_0 h0_f1 h0_f2 h0_f3 h0_0 h0_0k h0_0c) s.heap.size = A at hD ⊢
  have hA : ∀ q : Nat, s.heap.size ≤ q → A q := fun q h => by rw [← hAe]; exact Or.inr h
  have hP : va_P (dC, dI) vwCl (wd_c_X0_isWhole h0 h0_0 h0_f1 h0_f2 h0_f3 h0_0 h0_0k h0_0c) s.heap := hP
  have hl := lv_entry ([.ref h0]) (n := 3) (Nat.le_of_ble_eq_true rfl)
  rw [lg_entry_eq]
  generalize (lg_sl ([.ref h0]) ++ List.replicate (3 - (lg_sl ([.ref h0])).length) Slot.unset).toArray = ls at hl ⊢
  have hl : lv_has ls 3 [(0, .ref h0)] := hl
  obtain ⟨H, hHe⟩ : ∃ H : Heap, s.heap = H := ⟨_, rfl⟩
  have hS : va_S A s.heap H [] := by rw [hHe]; exact va_S.rf
  have hP : va_P (dC, dI) vwCl (wd_c_X0_isWhole h0 h0_0 h0_f1 h0_f2 h0_f3 h0_0 h0_0k h0_0c) H := by rw [← hHe]; exact hP
  rw [hHe]
  obtain ⟨RES, hR⟩ : ∃ z, fx_c_X0_isWhole h0_f1 h0_f2 h0_0c = z := ⟨_, rfl⟩
  have hEX : RES = fx_c_X0_isWhole h0_f1 h0_f2 h0_0c := hR.symm
  refine wj (fun G hG hU => ?_)
  as_aux_lemma =>
  have J20 : ∀ (n20 : Nat) (j20_l1 : Int32) (hM20 : MU j20_l1 < n20) (g_h0_f1 : RG h0_f1 1 8) (g_h0_f2 : RG h0_f2 2 3) (g_h0_f3 : RG h0_f3 0 1) (g_j20_l1 : RG j20_l1 0 8) (hEX : RES = fx_c_X0_isWhole_p20 h0_f1 h0_0c n20 j20_l1) (H : Heap) (locs : List Loc) (ls : Array Slot) (hP : va_P (dC, dI) vwCl (wd_c_X0_isWhole h0 h0_0 h0_f1 h0_f2 h0_f3 h0_0 h0_0k h0_0c) H) (hD : va_D A (wd_c_X0_isWhole h0 h0_0 h0_f1 h0_f2 h0_f3 h0_0 h0_0k h0_0c)) (hS : va_S A s.heap H locs) (hl : lv_has ls 3 [(1, .int j20_l1), (0, .ref h0)]), G H locs (F0 m 20 ls []) := by
    as_aux_lemma =>
    intro n20
    induction n20 with
    | zero => intros; exact absurd (by assumption) (Nat.not_lt_zero _)
    | succ n20 ih20 =>
      intro j20_l1 hM20 g_h0_f1 g_h0_f2 g_h0_f3 g_j20_l1 hEX H locs ls hP hD hS hl
      have J30 : ∀ (n30 : Nat) (j30_l2 : Int32) (hM30 : MU j30_l2 < n30) (g_h0_f1 : RG h0_f1 1 8) (g_h0_f2 : RG h0_f2 2 3) (g_h0_f3 : RG h0_f3 0 1) (g_j20_l1 : RG j20_l1 0 7) (g_j30_l2 : RG j30_l2 0 7) (hEX : RES = fx_c_X0_isWhole_p30 h0_0c j20_l1 (fx_c_X0_isWhole_p20 h0_f1 h0_0c n20) n30 j30_l2) (H : Heap) (locs : List Loc) (ls : Array Slot) (hP : va_P (dC, dI) vwCl (wd_c_X0_isWhole h0 h0_0 h0_f1 h0_f2 h0_f3 h0_0 h0_0k h0_0c) H) (hD : va_D A (wd_c_X0_isWhole h0 h0_0 h0_f1 h0_f2 h0_f3 h0_0 h0_0k h0_0c)) (hS : va_S A s.heap H locs) (hl : lv_has ls 3 [(2, .int j30_l2), (1, .int j20_l1), (0, .ref h0)]), G H locs (F0 m 30 ls []) := by
        as_aux_lemma =>
        intro n30
        induction n30 with
        | zero => intros; exact absurd (by assumption) (Nat.not_lt_zero _)
        | succ n30 ih30 =>
          intro j30_l2 hM30 g_h0_f1 g_h0_f2 g_h0_f3 g_j20_l1 g_j30_l2 hEX H locs ls hP hD hS hl
          have J63 : ∀ (g_h0_f1 : RG h0_f1 1 8) (g_h0_f2 : RG h0_f2 2 3) (g_h0_f3 : RG h0_f3 0 1) (g_j20_l1 : RG j20_l1 1 7) (g_j30_l2 : RG j30_l2 0 6) (hEX : RES = fx_c_X0_isWhole_p63 j30_l2 (fx_c_X0_isWhole_p30 h0_0c j20_l1 (fx_c_X0_isWhole_p20 h0_f1 h0_0c n20) n30)) (H : Heap) (locs : List Loc) (ls : Array Slot) (hP : va_P (dC, dI) vwCl (wd_c_X0_isWhole h0 h0_0 h0_f1 h0_f2 h0_f3 h0_0 h0_0k h0_0c) H) (hD : va_D A (wd_c_X0_isWhole h0 h0_0 h0_f1 h0_f2 h0_f3 h0_0 h0_0k h0_0c)) (hS : va_S A s.heap H locs) (hl : lv_has ls 3 [(2, .int j30_l2), (1, .int j20_l1), (0, .ref h0)]), G H locs (F0 m 63 ls []) := by
            as_aux_lemma =>
            intro g_h0_f1 g_h0_f2 g_h0_f3 g_j20_l1 g_j30_l2 hEX H locs ls hP hD hS hl
            refine hG _ _ _ ?_
            obtain ⟨x_1, ex_1⟩ : ∃ y : Int32, y = j30_l2 + 1 := ⟨_, rfl⟩
            have g_2 : RG x_1 1 7 := RG_add ex_1 g_j30_l2 (RG_k 1 1 rfl) (by decide +kernel)
            replace hEX := hEX.trans (exl_eq ex_1)
            refine lv_iinc (v := x_1) (lv' := [(2, .int x_1), (1, .int j20_l1), (0, .ref h0)]) hx hb dX0_isWhole_63 hl (k := 0) rfl (by rw [ex_1]; rfl) (Nat.le_of_ble_eq_true rfl) rfl (fun ls hl => ?_)
            refine lv_goto (tgt := 30) hx hb dX0_isWhole_66 rfl ?_
            exact hU _ _ _ (ih30 x_1 (mu_s (MU_add ex_1 g_j30_l2 (q := 1) rfl (by decide +kernel)) hM30) g_h0_f1 g_h0_f2 g_h0_f3 (RG_w g_j20_l1 (by decide +kernel)) (RG_w g_2 (by decide +kernel)) hEX _ _ _ hP hD hS (lv_sub hl [0, 1, 2] rfl))
          refine hG _ _ _ ?_
          replace hEX := hEX.trans (if_pos (rfl : j30_l2 = j30_l2))
          refine lv_iload_n hx hb dX0_isWhole_30 rfl (lv_at hl 0 rfl) ?_
          refine lv_iload_n hx hb dX0_isWhole_31 rfl (lv_at hl 1 rfl) ?_
          refine lv_icmp_ge (tgt := 69) hx hb dX0_isWhole_32 rfl (fun c_3 => ?_) (fun c_3 => ?_)
          · replace hEX := hEX.trans (if_pos c_3)
            obtain ⟨x_4, ex_4⟩ : ∃ y : Int32, y = j20_l1 + 1 := ⟨_, rfl⟩
            have g_5 : RG x_4 1 8 := RG_add ex_4 g_j20_l1 (RG_k 1 1 rfl) (by decide +kernel)
            replace hEX := hEX.trans (exl_eq ex_4)
            refine lv_iinc (v := x_4) (lv' := [(1, .int x_4), (2, .int j30_l2), (0, .ref h0)]) hx hb dX0_isWhole_69 hl (k := 1) rfl (by rw [ex_4]; rfl) (Nat.le_of_ble_eq_true rfl) rfl (fun ls hl => ?_)
            as_aux_lemma =>
            refine lv_goto (tgt := 20) hx hb dX0_isWhole_72 rfl ?_
            exact hU _ _ _ (ih20 x_4 (mu_s (MU_add ex_4 g_j20_l1 (q := 1) rfl (by decide +kernel)) hM20) g_h0_f1 g_h0_f2 g_h0_f3 (RG_w g_5 (by decide +kernel)) hEX _ _ _ hP hD hS (lv_sub hl [0, 2] rfl))
          · replace hEX := hEX.trans (if_neg c_3)
            have d_6 := Int32.not_le.mp c_3
            have g_7 : RG j30_l2 0 6 := RG_lt1 g_j30_l2 g_j20_l1 d_6 (by decide +kernel)
            have g_8 : RG j20_l1 1 7 := RG_lt2 g_j30_l2 g_j20_l1 d_6 (by decide +kernel)
            refine lv_aload_n hx hb dX0_isWhole_35 rfl (lv_at hl 2 rfl) ?_
            refine lv_iload_n hx hb dX0_isWhole_36 rfl (lv_at hl 1 rfl) ?_
            obtain ⟨hPc, hDc, hFc, hqc⟩ := cl_cut (wc := (wd_c_X0_buoyX h0 h0_0 h0_f1 h0_f2 h0_f3 h0_0 h0_0k h0_0c)) hP hD hS hA [0, 1] (by decide +kernel) rfl
            have hKc := hK.sub (tys' := [(h0_0k, .int)]) [0] rfl
            have hrv := va_recv hKc hPc (ci := 0) (q0 := 0) rfl rfl
            refine va_calli (va_runV (As := [.int j20_l1]) (rest := []) ⟨hx, hb, hml, hown, hts⟩ (c_X0_buoyX l dC dI H.size h0 j20_l1 h0_0 h0_f1 h0_f2 h0_f3 h0_0k h0_0c (RG_w g_8 (by decide +kernel)) (RG_w g_h0_f1 (by decide +kernel)) (RG_w g_h0_f2 (by decide +kernel)) g_h0_f3 a_h0_0c) (cwV 1 hts gf_c_X0_isWhole_c_X0_buoyX rfl rfl rfl mdV_X0_buoyX ⟨Nat.le_of_ble_eq_true rfl, Nat.le_of_ble_eq_true rfl⟩) ⟨fun a U g mk q => by obtain ⟨q0, q1, qP, qK, qD⟩ := q; exact ⟨q0, q1, qP, va_K.moved (u := U) (U := U.calling g mk a) (Vm.Alike.refl U.vm) qK, qD⟩, hrv, fun U hU hW => ⟨rfl, by rw [hU], by rw [hU]; exact hPc, va_K.moved hW.alike hKc, hDc.weaken (fun _ _ _ _ => trivial)⟩⟩ rfl rfl hl.1 rfl (lv_room (Nat.le_of_ble_eq_true rfl)) dX0_isWhole_37 ⟨Nat.le_of_ble_eq_true rfl, Nat.le_of_ble_eq_true rfl⟩) hS (fun q _ h => hFc q h) hFc (fun r_9 u t H1 locs ht hvm hw hB hz1 hk1 hS => ?_)
            obtain ⟨hP1, hK1, hD1⟩ := hB
            rw [ht] at hP1
            obtain ⟨hP, hD⟩ := cl_put (w1 := (wd_c_X0_buoyX h0 h0_0 h0_f1 h0_f2 h0_f3 h0_0 h0_0k h0_0c)) (nw := (wd_c_X0_isWhole h0 h0_0 h0_f1 h0_f2 h0_f3 h0_0 h0_0k h0_0c)) hP hD [0, 1] [2, 3] 2 rfl hqc (by decide +kernel) rfl hk1 hFc hP1 hD1
            generalize H1 = H at hP hS ⊢
            as_aux_lemma =>
            rcases hw with ⟨h_10, h_11⟩
            have h_11 : r_9 = _ := h_11
            replace hEX := hEX.trans (exc1_eq h_11)
            refine lv_aload_n hx hb dX0_isWhole_40 rfl (lv_at hl 2 rfl) ?_
            refine lv_iload_n hx hb dX0_isWhole_41 rfl (lv_at hl 0 rfl) ?_
            obtain ⟨hPc, hDc, hFc, hqc⟩ := cl_cut (wc := (wd_c_X0_buoyX h0 h0_0 h0_f1 h0_f2 h0_f3 h0_0 h0_0k h0_0c)) hP hD hS hA [0, 1] (by decide +kernel) rfl
            have hKc := hK.sub (tys' := [(h0_0k, .int)]) [0] rfl
            have hrv := va_recv hKc hPc (ci := 0) (q0 := 0) rfl rfl
            refine va_calli (va_runV (As := [.int j30_l2]) (rest := [.int r_9]) ⟨hx, hb, hml, hown, hts⟩ (c_X0_buoyX l dC dI H.size h0 j30_l2 h0_0 h0_f1 h0_f2 h0_f3 h0_0k h0_0c (RG_w g_7 (by decide +kernel)) (RG_w g_h0_f1 (by decide +kernel)) (RG_w g_h0_f2 (by decide +kernel)) g_h0_f3 a_h0_0c) (cwV 1 hts gf_c_X0_isWhole_c_X0_buoyX rfl rfl rfl mdV_X0_buoyX ⟨Nat.le_of_ble_eq_true rfl, Nat.le_of_ble_eq_true rfl⟩) ⟨fun a U g mk q => by obtain ⟨q0, q1, qP, qK, qD⟩ := q; exact ⟨q0, q1, qP, va_K.moved (u := U) (U := U.calling g mk a) (Vm.Alike.refl U.vm) qK, qD⟩, hrv, fun U hU hW => ⟨rfl, by rw [hU], by rw [hU]; exact hPc, va_K.moved hW.alike hKc, hDc.weaken (fun _ _ _ _ => trivial)⟩⟩ rfl rfl hl.1 rfl (lv_room (Nat.le_of_ble_eq_true rfl)) dX0_isWhole_42 ⟨Nat.le_of_ble_eq_true rfl, Nat.le_of_ble_eq_true rfl⟩) hS (fun q _ h => hFc q h) hFc (fun r_12 u t H1 locs ht hvm hw hB hz1 hk1 hS => ?_)
            obtain ⟨hP1, hK1, hD1⟩ := hB
            rw [ht] at hP1
            obtain ⟨hP, hD⟩ := cl_put (w1 := (wd_c_X0_buoyX h0 h0_0 h0_f1 h0_f2 h0_f3 h0_0 h0_0k h0_0c)) (nw := (wd_c_X0_isWhole h0 h0_0 h0_f1 h0_f2 h0_f3 h0_0 h0_0k h0_0c)) hP hD [0, 1] [2, 3] 2 rfl hqc (by decide +kernel) rfl hk1 hFc hP1 hD1
            generalize H1 = H at hP hS ⊢
            as_aux_lemma =>
            rcases hw with ⟨h_13, h_14⟩
            have h_14 : r_12 = _ := h_14
            replace hEX := hEX.trans (exc1_eq h_14)
            refine lv_icmp_ne (tgt := 63) hx hb dX0_isWhole_45 rfl (fun c_15 => ?_) (fun c_15 => ?_)
            · replace hEX := hEX.trans (if_neg c_15)
              exact hU _ _ _ (J63 g_h0_f1 g_h0_f2 g_h0_f3 g_8 g_7 hEX _ _ _ hP hD hS (lv_sub hl [0, 1, 2] rfl))
            · replace hEX := hEX.trans (if_pos c_15)
              refine lv_aload_n hx hb dX0_isWhole_48 rfl (lv_at hl 2 rfl) ?_
              refine lv_iload_n hx hb dX0_isWhole_49 rfl (lv_at hl 1 rfl) ?_
              obtain ⟨hPc, hDc, hFc, hqc⟩ := cl_cut (wc := (wd_c_X0_buoyY h0 h0_0 h0_f1 h0_f2 h0_f3 h0_0 h0_0k h0_0c)) hP hD hS hA [0, 1] (by decide +kernel) rfl
              have hKc := hK.sub (tys' := [(h0_0k, .int)]) [0] rfl
              have hrv := va_recv hKc hPc (ci := 0) (q0 := 0) rfl rfl
              refine va_calli (va_runV (As := [.int j20_l1]) (rest := []) ⟨hx, hb, hml, hown, hts⟩ (c_X0_buoyY l dC dI H.size h0 j20_l1 h0_0 h0_f1 h0_f2 h0_f3 h0_0k h0_0c (RG_w g_8 (by decide +kernel)) (RG_w g_h0_f1 (by decide +kernel)) (RG_w g_h0_f2 (by decide +kernel)) g_h0_f3 a_h0_0c) (cwV 1 hts gf_c_X0_isWhole_c_X0_buoyY rfl rfl rfl mdV_X0_buoyY ⟨Nat.le_of_ble_eq_true rfl, Nat.le_of_ble_eq_true rfl⟩) ⟨fun a U g mk q => by obtain ⟨q0, q1, qP, qK, qD⟩ := q; exact ⟨q0, q1, qP, va_K.moved (u := U) (U := U.calling g mk a) (Vm.Alike.refl U.vm) qK, qD⟩, hrv, fun U hU hW => ⟨rfl, by rw [hU], by rw [hU]; exact hPc, va_K.moved hW.alike hKc, hDc.weaken (fun _ _ _ _ => trivial)⟩⟩ rfl rfl hl.1 rfl (lv_room (Nat.le_of_ble_eq_true rfl)) dX0_isWhole_50 ⟨Nat.le_of_ble_eq_true rfl, Nat.le_of_ble_eq_true rfl⟩) hS (fun q _ h => hFc q h) hFc (fun r_16 u t H1 locs ht hvm hw hB hz1 hk1 hS => ?_)
              obtain ⟨hP1, hK1, hD1⟩ := hB
              rw [ht] at hP1
              obtain ⟨hP, hD⟩ := cl_put (w1 := (wd_c_X0_buoyY h0 h0_0 h0_f1 h0_f2 h0_f3 h0_0 h0_0k h0_0c)) (nw := (wd_c_X0_isWhole h0 h0_0 h0_f1 h0_f2 h0_f3 h0_0 h0_0k h0_0c)) hP hD [0, 1] [2, 3] 2 rfl hqc (by decide +kernel) rfl hk1 hFc hP1 hD1
              generalize H1 = H at hP hS ⊢
              as_aux_lemma =>
              rcases hw with ⟨h_17, h_18⟩
              have h_18 : r_16 = _ := h_18
              replace hEX := hEX.trans (exc1_eq h_18)
              refine lv_aload_n hx hb dX0_isWhole_53 rfl (lv_at hl 2 rfl) ?_
              refine lv_iload_n hx hb dX0_isWhole_54 rfl (lv_at hl 0 rfl) ?_
              obtain ⟨hPc, hDc, hFc, hqc⟩ := cl_cut (wc := (wd_c_X0_buoyY h0 h0_0 h0_f1 h0_f2 h0_f3 h0_0 h0_0k h0_0c)) hP hD hS hA [0, 1] (by decide +kernel) rfl
              have hKc := hK.sub (tys' := [(h0_0k, .int)]) [0] rfl
              have hrv := va_recv hKc hPc (ci := 0) (q0 := 0) rfl rfl
              refine va_calli (va_runV (As := [.int j30_l2]) (rest := [.int r_16]) ⟨hx, hb, hml, hown, hts⟩ (c_X0_buoyY l dC dI H.size h0 j30_l2 h0_0 h0_f1 h0_f2 h0_f3 h0_0k h0_0c (RG_w g_7 (by decide +kernel)) (RG_w g_h0_f1 (by decide +kernel)) (RG_w g_h0_f2 (by decide +kernel)) g_h0_f3 a_h0_0c) (cwV 1 hts gf_c_X0_isWhole_c_X0_buoyY rfl rfl rfl mdV_X0_buoyY ⟨Nat.le_of_ble_eq_true rfl, Nat.le_of_ble_eq_true rfl⟩) ⟨fun a U g mk q => by obtain ⟨q0, q1, qP, qK, qD⟩ := q; exact ⟨q0, q1, qP, va_K.moved (u := U) (U := U.calling g mk a) (Vm.Alike.refl U.vm) qK, qD⟩, hrv, fun U hU hW => ⟨rfl, by rw [hU], by rw [hU]; exact hPc, va_K.moved hW.alike hKc, hDc.weaken (fun _ _ _ _ => trivial)⟩⟩ rfl rfl hl.1 rfl (lv_room (Nat.le_of_ble_eq_true rfl)) dX0_isWhole_55 ⟨Nat.le_of_ble_eq_true rfl, Nat.le_of_ble_eq_true rfl⟩) hS (fun q _ h => hFc q h) hFc (fun r_19 u t H1 locs ht hvm hw hB hz1 hk1 hS => ?_)
              obtain ⟨hP1, hK1, hD1⟩ := hB
              rw [ht] at hP1
              obtain ⟨hP, hD⟩ := cl_put (w1 := (wd_c_X0_buoyY h0 h0_0 h0_f1 h0_f2 h0_f3 h0_0 h0_0k h0_0c)) (nw := (wd_c_X0_isWhole h0 h0_0 h0_f1 h0_f2 h0_f3 h0_0 h0_0k h0_0c)) hP hD [0, 1] [2, 3] 2 rfl hqc (by decide +kernel) rfl hk1 hFc hP1 hD1
              generalize H1 = H at hP hS ⊢
              as_aux_lemma =>
              rcases hw with ⟨h_20, h_21⟩
              have h_21 : r_19 = _ := h_21
              replace hEX := hEX.trans (exc1_eq h_21)
              refine lv_icmp_ne (tgt := 63) hx hb dX0_isWhole_58 rfl (fun c_22 => ?_) (fun c_22 => ?_)
              · replace hEX := hEX.trans (if_neg c_22)
                exact hU _ _ _ (J63 g_h0_f1 g_h0_f2 g_h0_f3 g_8 g_7 hEX _ _ _ hP hD hS (lv_sub hl [0, 1, 2] rfl))
              · replace hEX := hEX.trans (if_pos c_22)
                refine lv_iconst (v := 0) hx hb dX0_isWhole_61 kc_iconst_0 ?_
                have hK9 := hK.sub (tys' := []) [] rfl
                exact W.zret (v := 0) hx hb hr rfl (fun t ht hW => ⟨⟨0, (), rfl, (Or.inl ⟨rfl, (hR.trans hEX).symm⟩), by rw [ht]; exact hP, va_K.moved hW.alike hK9, hD⟩, hS.F ht⟩) hS.2.2 dX0_isWhole_62
      refine hG _ _ _ ?_
      replace hEX := hEX.trans (if_pos (rfl : j20_l1 = j20_l1))
      refine lv_iload_n hx hb dX0_isWhole_20 rfl (lv_at hl 0 rfl) ?_
      refine lv_aload_n hx hb dX0_isWhole_21 rfl (lv_at hl 1 rfl) ?_
      as_aux_lemma =>
      refine va_get (D := (dC, dI)) (ci := 0) (v := .int h0_f1) (C := RX0) (T := TX0) (N := 4) hx hb hts iw_c_X0_isWhole_X0 hown hK hP 0 rfl rfl 1 (by decide +kernel) (hts (.fieldLink RX0 21 "BuoyVote$Borough" "buoys" "I") (List.mem_of_getElem? (i := 1) rfl)) (fun _ h9 => h9) rfl dX0_isWhole_22 ?_
      refine lv_icmp_ge (tgt := 75) hx hb dX0_isWhole_25 rfl (fun c_23 => ?_) (fun c_23 => ?_)
      · replace hEX := hEX.trans (if_pos c_23)
        have g_24 : RG j20_l1 1 8 := RG_le2 g_h0_f1 g_j20_l1 c_23 (by decide +kernel)
        refine lv_iconst (v := 1) hx hb dX0_isWhole_75 kc_iconst_1 ?_
        have hK9 := hK.sub (tys' := []) [] rfl
        exact W.zret (v := 1) hx hb hr rfl (fun t ht hW => ⟨⟨1, (), rfl, (Or.inr ⟨rfl, g_h0_f1, g_h0_f2, (hR.trans hEX).symm⟩), by rw [ht]; exact hP, va_K.moved hW.alike hK9, hD⟩, hS.F ht⟩) hS.2.2 dX0_isWhole_76
      · replace hEX := hEX.trans (if_neg c_23)
        have d_25 := Int32.not_le.mp c_23
        have g_26 : RG j20_l1 0 7 := RG_lt1 g_j20_l1 g_h0_f1 d_25 (by decide +kernel)
        refine lv_iconst (v := 0) hx hb dX0_isWhole_28 kc_iconst_0 ?_
        refine lv_istore_n (lv' := [(2, .int 0), (1, .int j20_l1), (0, .ref h0)]) hx hb dX0_isWhole_29 rfl hl (Nat.le_of_ble_eq_true rfl) rfl (fun ls hl => ?_)
        exact hU _ _ _ (J30 exF 0 MU_F g_h0_f1 g_h0_f2 g_h0_f3 g_26 (RG_w (RG_k 0 0 rfl) (by decide +kernel)) hEX _ _ _ hP hD hS (lv_sub hl [0, 1, 2] rfl))
  refine hG _ _ _ ?_
  as_aux_lemma =>
  refine lv_aload_n hx hb dX0_isWhole_0 rfl (lv_at hl 0 rfl) ?_
  refine va_get (D := (dC, dI)) (ci := 0) (v := .int h0_f1) (C := RX0) (T := TX0) (N := 4) hx hb hts iw_c_X0_isWhole_X0 hown hK hP 0 rfl rfl 1 (by decide +kernel) (hts (.fieldLink RX0 21 "BuoyVote$Borough" "buoys" "I") (List.mem_of_getElem? (i := 1) rfl)) (fun _ h9 => h9) rfl dX0_isWhole_1 ?_
  refine lv_iconst (v := 1) hx hb dX0_isWhole_4 kc_iconst_1 ?_
  refine lv_icmp_lt (tgt := 16) hx hb dX0_isWhole_5 rfl (fun c_27 => ?_) (fun c_27 => ?_)
  · replace hEX := hEX.trans (if_pos c_27)
    have g_28 : RG h0_f1 0 0 := RG_lt1 g_h0_f1 (RG_k 1 1 rfl) c_27 (by decide +kernel)
    refine lv_iconst (v := 0) hx hb dX0_isWhole_16 kc_iconst_0 ?_
    have hK9 := hK.sub (tys' := []) [] rfl
    exact W.zret (v := 0) hx hb hr rfl (fun t ht hW => ⟨⟨0, (), rfl, (Or.inl ⟨rfl, (hR.trans hEX).symm⟩), by rw [ht]; exact hP, va_K.moved hW.alike hK9, hD⟩, hS.F ht⟩) hS.2.2 dX0_isWhole_17
  · replace hEX := hEX.trans (if_neg c_27)
    have d_29 := Int32.not_lt.mp c_27
    have g_30 : RG h0_f1 1 8 := RG_le2 (RG_k 1 1 rfl) g_h0_f1 d_29 (by decide +kernel)
    refine lv_aload_n hx hb dX0_isWhole_8 rfl (lv_at hl 0 rfl) ?_
    refine va_get (D := (dC, dI)) (ci := 0) (v := .int h0_f2) (C := RX0) (T := TX0) (N := 4) hx hb hts iw_c_X0_isWhole_X0 hown hK hP 0 rfl rfl 2 (by decide +kernel) (hts (.fieldLink RX0 25 "BuoyVote$Borough" "boats" "I") (List.mem_of_getElem? (i := 2) rfl)) (fun _ h9 => h9) rfl dX0_isWhole_9 ?_
    as_aux_lemma =>
    refine lv_iconst (v := 2) hx hb dX0_isWhole_12 kc_iconst_2 ?_
    refine lv_icmp_ge (tgt := 18) hx hb dX0_isWhole_13 rfl (fun c_31 => ?_) (fun c_31 => ?_)
    · replace hEX := hEX.trans (if_pos c_31)
      have g_32 : RG h0_f2 2 3 := RG_le2 (RG_k 2 2 rfl) g_h0_f2 c_31 (by decide +kernel)
      refine lv_iconst (v := 0) hx hb dX0_isWhole_18 kc_iconst_0 ?_
      refine lv_istore_n (lv' := [(1, .int 0), (0, .ref h0)]) hx hb dX0_isWhole_19 rfl hl (Nat.le_of_ble_eq_true rfl) rfl (fun ls hl => ?_)
      exact hU _ _ _ (J20 exF 0 MU_F g_30 g_32 g_h0_f3 (RG_w (RG_k 0 0 rfl) (by decide +kernel)) hEX _ _ _ hP hD hS (lv_sub hl [0, 1] rfl))
    · replace hEX := hEX.trans (if_neg c_31)
      have d_33 := Int32.not_le.mp c_31
      have g_34 : RG h0_f2 0 1 := RG_lt1 g_h0_f2 (RG_k 2 2 rfl) d_33 (by decide +kernel)
      refine lv_iconst (v := 0) hx hb dX0_isWhole_16 kc_iconst_0 ?_
      have hK9 := hK.sub (tys' := []) [] rfl
      exact W.zret (v := 0) hx hb hr rfl (fun t ht hW => ⟨⟨0, (), rfl, (Or.inl ⟨rfl, (hR.trans hEX).symm⟩), by rw [ht]; exact hP, va_K.moved hW.alike hK9, hD⟩, hS.F ht⟩) hS.2.2 dX0_isWhole_17
noncomputable def wd_c_X9_wrongAt (a0 : Nat) (a1 : Nat) (a2 : Int32) (a3 : Int32) (a4 : Int32) : va_W := [(a0, .inr (9, [.ref a1, .int a2, .int a3, .int a4]))]
noncomputable def wf_c_X9_wrongAt : List Cond := List.cons (.code yX9_wrongAt cX9_wrongAt 1 (some .int)) (@HAppend.hAppend (List Cond) (List Cond) (List Cond) _ [.fieldLink RX9 15 "BuoyVote$Tape" "wrong" "I"] wsX90)
theorem iw_c_X9_wrongAt_X9 : ∀ w ∈ wsX90, w ∈ wf_c_X9_wrongAt := fun w h => List.mem_cons_of_mem _ (List.mem_append_right _ h)
set_option maxHeartbeats 4000000 in
set_option maxRecDepth 100000 in
theorem c_X9_wrongAt (l : Launch) (dC : Nat → ClassId) (dI : Nat → Nat → Nat) (sz : Nat) (h0 : Nat) (h0_0 : Nat) (h0_f1 : Int32) (h0_f2 : Int32) (h0_f3 : Int32) (g_h0_f1 : RG h0_f1 0 240) (g_h0_f2 : RG h0_f2 0 240) (g_h0_f3 : RG h0_f3 (-1) 240) : Met l yX9_wrongAt wf_c_X9_wrongAt ({ frames := 0, cells := 0, slots := 0, locals := 0 }) (va_Pc [.ref h0] (fun U => U.heap.size = sz ∧ va_P (dC, dI) vwCl (wd_c_X9_wrongAt h0 h0_0 h0_f1 h0_f2 h0_f3) U.heap ∧ va_K (dC, dI) vwCl [] U ∧ va_D (fun _ => True) (wd_c_X9_wrongAt h0 h0_0 h0_f1 h0_f2 h0_f3))) (va_Qi (fun (r : Int32) (u : Unit) => (RG r (-1) 240 ∧ r = fx_c_X9_wrongAt h0_f3)) (fun (u : Unit) t => va_P (dC, dI) vwCl (wd_c_X9_wrongAt h0 h0_0 h0_f1 h0_f2 h0_f3) t.heap ∧ va_K (dC, dI) vwCl [] t ∧ va_D (va_A (wd_c_X9_wrongAt h0 h0_0 h0_f1 h0_f2 h0_f3) sz) (wd_c_X9_wrongAt h0 h0_0 h0_f1 h0_f2 h0_f3)) (va_A (wd_c_X9_wrongAt h0 h0_0 h0_f1 h0_f2 h0_f3) sz)) 0 0 (va_A (wd_c_X9_wrongAt h0 h0_0 h0_f1 h0_f2 h0_f3) sz) := by
  refine Met.ofW (cc := cX9_wrongAt) (maxL := 1) (ret := (some .int)) (by decide +kernel) rfl ?_
  intro p e s m args below meth c s₁ B hml hv
  obtain ⟨rfl, hsz, hP, hK, hD0⟩ := hv
  have hx := B.exec
  have hb := B.bytes
  have hr := B.returns
  have hts := atoms_spec (ws := wf_c_X9_wrongAt) B.pre
  have hown : s.vm.findClass RX9 = some m.cls := findClass_of_methodNamed B.named
  have hlocks := B.notSynchronized
  subst hsz
  have hD := hD0.self (sz := s.heap.size)
  generalize hAe : va_A (wd_c_X9_wrongAt h0 h0_0 h0_f1 h0_f2 h0_f3) s.heap.size = A at hD ⊢
  have hA : ∀ q : Nat, s.heap.size ≤ q → A q := fun q h => by rw [← hAe]; exact Or.inr h
  have hP : va_P (dC, dI) vwCl (wd_c_X9_wrongAt h0 h0_0 h0_f1 h0_f2 h0_f3) s.heap := hP
  have hl := lv_entry ([.ref h0]) (n := 1) (Nat.le_of_ble_eq_true rfl)
  rw [lg_entry_eq]
  generalize (lg_sl ([.ref h0]) ++ List.replicate (1 - (lg_sl ([.ref h0])).length) Slot.unset).toArray = ls at hl ⊢
  have hl : lv_has ls 1 [(0, .ref h0)] := hl
  obtain ⟨H, hHe⟩ : ∃ H : Heap, s.heap = H := ⟨_, rfl⟩
  have hS : va_S A s.heap H [] := by rw [hHe]; exact va_S.rf
  have hP : va_P (dC, dI) vwCl (wd_c_X9_wrongAt h0 h0_0 h0_f1 h0_f2 h0_f3) H := by rw [← hHe]; exact hP
  rw [hHe]
  obtain ⟨RES, hR⟩ : ∃ z, fx_c_X9_wrongAt h0_f3 = z := ⟨_, rfl⟩
  have hEX : RES = fx_c_X9_wrongAt h0_f3 := hR.symm
  refine lv_aload_n hx hb dX9_wrongAt_0 rfl (lv_at hl 0 rfl) ?_
  as_aux_lemma =>
  refine va_get (D := (dC, dI)) (ci := 9) (v := .int h0_f3) (C := RX9) (T := TX9) (N := 4) hx hb hts iw_c_X9_wrongAt_X9 hown hK hP 0 rfl rfl 3 (by decide +kernel) (hts (.fieldLink RX9 15 "BuoyVote$Tape" "wrong" "I") (List.mem_of_getElem? (i := 1) rfl)) (fun _ h9 => h9) rfl dX9_wrongAt_1 ?_
  have hK9 := hK.sub (tys' := []) [] rfl
  exact W.iret (v := h0_f3) hx hb hr (fun t ht hW => ⟨⟨h0_f3, (), rfl, ⟨g_h0_f3, (hR.trans hEX).symm⟩, by rw [ht]; exact hP, va_K.moved hW.alike hK9, hD⟩, hS.F ht⟩) hS.2.2 dX9_wrongAt_4
noncomputable def wd_c_X0_faultOf (a0 : Nat) (a1 : Nat) (a2 : Int32) (a3 : Int32) (a4 : Int32) (a5 : Nat) (a6 : ClassId) (a7 : Nat → Int32) (a8 : Nat) (a9 : Nat) (a10 : Int32) (a11 : Int32) (a12 : Int32) (a13 : Nat) (a14 : ClassId) (a15 : Nat → Int32) : va_W := [(a0, .inr (0, [.ref a1, .int a2, .int a3, .int a4])), (a5, .inl (a6, 80, .inl a7)), (a8, .inr (9, [.ref a9, .int a10, .int a11, .int a12])), (a13, .inl (a14, 240, .inl a15))]
noncomputable def wf_c_X0_faultOf : List Cond := List.cons (.code yX0_faultOf cX0_faultOf 3 (some .int)) (@HAppend.hAppend (List Cond) (List Cond) (List Cond) _ (@HAppend.hAppend (List Cond) (List Cond) (List Cond) _ [.fieldLink RX0 21 "BuoyVote$Borough" "buoys" "I", .fieldLink RX0 25 "BuoyVote$Borough" "boats" "I", .fieldLink RX0 28 "BuoyVote$Borough" "ruled" "Z", .methodLink RX0 32 yX0_setUsual, .instanceMethod yX0_setUsual, .selects RX0 yX0_setUsual yX0_setUsual, .initialized RX0, .code yX0_setUsual cX0_setUsual 5 none, .methodLink RX0 92 yX0_lettersOf, .static yX0_lettersOf, .code yX0_lettersOf cX0_lettersOf 1 (some (.object "java/lang/String")), .methodLink RX0 96 yJ0_length_8abf5, .instanceMethod yJ0_length_8abf5, .selects RJ0 yJ0_length_8abf5 yJ0_length_8abf5, .initialized RJ0, .code yJ0_length_8abf5 cJ0_length_8abf5 1 (some .int), .fieldLink RJ0 9 "java/lang/String" "value" "[B", .methodLink RJ0 335 yJ0_coder_7d493, .instanceMethod yJ0_coder_7d493, .selects RJ0 yJ0_coder_7d493 yJ0_coder_7d493, .code yJ0_coder_7d493 cJ0_coder_7d493 1 (some .byte), .fieldLink RJ0 38 "java/lang/String" "COMPACT_STRINGS" "Z", .fieldLink RJ0 15 "java/lang/String" "coder" "B", .fieldLink RX0 11 "BuoyVote$Borough" "values" "[I", .fieldLink RX0 113 "BuoyVote$Borough" "USUAL" "[I", .fieldLink RX0 103 "BuoyVote$Borough" "FIRST" "[I", .methodLink RX0 36 yX9_rewind, .instanceMethod yX9_rewind, .selects RX9 yX9_rewind yX9_rewind, .initialized RX9, .code yX9_rewind cX9_rewind 1 none, .fieldLink RX9 22 "BuoyVote$Tape" "at" "I", .fieldLink RX9 15 "BuoyVote$Tape" "wrong" "I", .methodLink RX0 41 yX0_readClause, .instanceMethod yX0_readClause, .selects RX0 yX0_readClause yX0_readClause, .code yX0_readClause cX0_readClause 8 none, .methodLink RX0 72 yX9_peek, .instanceMethod yX9_peek, .selects RX9 yX9_peek yX9_peek, .code yX9_peek cX9_peek 1 (some .int), .fieldLink RX9 19 "BuoyVote$Tape" "length" "I", .fieldLink RX9 11 "BuoyVote$Tape" "bytes" "[I", .methodLink RX0 75 yX0_placeIn, .static yX0_placeIn, .code yX0_placeIn cX0_placeIn 2 (some .int), .methodLink RX0 128 yJ0_indexOf_0f7a4, .instanceMethod yJ0_indexOf_0f7a4, .selects RJ0 yJ0_indexOf_0f7a4 yJ0_indexOf_0f7a4, .code yJ0_indexOf_0f7a4 cJ0_indexOf_0f7a4 2 (some .int), .methodLink RJ0 633 yJ0_indexOf_7cf53, .instanceMethod yJ0_indexOf_7cf53, .selects RJ0 yJ0_indexOf_7cf53 yJ0_indexOf_7cf53, .code yJ0_indexOf_7cf53 cJ0_indexOf_7cf53 3 (some .int), .methodLink RJ0 492 yJ0_isLatin1_aae02, .instanceMethod yJ0_isLatin1_aae02, .selects RJ0 yJ0_isLatin1_aae02 yJ0_isLatin1_aae02, .code yJ0_isLatin1_aae02 cJ0_isLatin1_aae02 1 (some .boolean), .methodLink RJ0 505 yJ0_length_8abf5, .methodLink RJ0 637 yJ1_indexOf_4cfef, .static yJ1_indexOf_4cfef, .initialized RJ1, .code yJ1_indexOf_4cfef cJ1_indexOf_4cfef 4 (some .int), .methodLink RJ1 88 yJ1_canEncode_9a6ad, .static yJ1_canEncode_9a6ad, .code yJ1_canEncode_9a6ad cJ1_canEncode_9a6ad 1 (some .boolean), .methodLink RJ1 92 Lib.Math.max.name, .static Lib.Math.max.name, .initialized "java/lang/Math", .code Lib.Math.max.name Lib.Math.max.code 2 (some .int), .methodLink RJ1 38 Lib.Math.min.name, .static Lib.Math.min.name, .code Lib.Math.min.name Lib.Math.min.code 2 (some .int), .methodLink RJ1 95 yJ1_indexOfChar_4cfef, .static yJ1_indexOfChar_4cfef, .code yJ1_indexOfChar_4cfef cJ1_indexOfChar_4cfef 6 (some .int), .methodLink RX0 79 yX0_hasRoomFor, .instanceMethod yX0_hasRoomFor, .selects RX0 yX0_hasRoomFor yX0_hasRoomFor, .code yX0_hasRoomFor cX0_hasRoomFor 2 (some .boolean), .methodLink RX0 85 yX9_skip, .instanceMethod yX9_skip, .selects RX9 yX9_skip yX9_skip, .code yX9_skip cX9_skip 1 none, .methodLink RX0 88 yX0_beginClause, .instanceMethod yX0_beginClause, .selects RX0 yX0_beginClause yX0_beginClause, .code yX0_beginClause cX0_beginClause 3 (some .int), .methodLink RX0 82 yX9_refuseHere, .instanceMethod yX9_refuseHere, .selects RX9 yX9_refuseHere yX9_refuseHere, .code yX9_refuseHere cX9_refuseHere 1 none, .methodLink RX9 25 yX9_refuse, .instanceMethod yX9_refuse, .selects RX9 yX9_refuse yX9_refuse, .code yX9_refuse cX9_refuse 2 none, .methodLink RX0 52 yX9_isRight, .instanceMethod yX9_isRight, .selects RX9 yX9_isRight yX9_isRight, .code yX9_isRight cX9_isRight 1 (some .boolean), .fieldLink RX0 100 "BuoyVote$Borough" "LOW" "[I", .fieldLink RX0 106 "BuoyVote$Borough" "HIGH" "[I", .methodLink RX0 109 yX9_numberWithin, .instanceMethod yX9_numberWithin, .selects RX9 yX9_numberWithin yX9_numberWithin, .code yX9_numberWithin cX9_numberWithin 4 (some .int), .methodLink RX9 29 yX9_peek, .methodLink RX9 33 yX9_number, .instanceMethod yX9_number, .selects RX9 yX9_number yX9_number, .code yX9_number cX9_number 4 (some .int), .methodLink RX0 45 yX9_take, .instanceMethod yX9_take, .selects RX9 yX9_take yX9_take, .code yX9_take cX9_take 2 (some .boolean), .methodLink RX0 49 yX9_expectEnd, .instanceMethod yX9_expectEnd, .selects RX9 yX9_expectEnd yX9_expectEnd, .code yX9_expectEnd cX9_expectEnd 1 none, .methodLink RX0 56 yX0_isWhole, .instanceMethod yX0_isWhole, .selects RX0 yX0_isWhole yX0_isWhole, .code yX0_isWhole cX0_isWhole 3 (some .boolean), .methodLink RX0 116 yX0_buoyX, .instanceMethod yX0_buoyX, .selects RX0 yX0_buoyX yX0_buoyX, .code yX0_buoyX cX0_buoyX 2 (some .int), .methodLink RX0 119 yX0_buoyY, .instanceMethod yX0_buoyY, .selects RX0 yX0_buoyY yX0_buoyY, .code yX0_buoyY cX0_buoyY 2 (some .int), .fieldLink RX0 59 "BuoyVote$Tape" "length" "I", .methodLink RX0 62 yX9_refuse, .methodLink RX0 66 yX9_wrongAt, .instanceMethod yX9_wrongAt, .selects RX9 yX9_wrongAt yX9_wrongAt, .code yX9_wrongAt cX9_wrongAt 1 (some .int)] wsX00) wsX90)
theorem iw_c_X0_faultOf_X0 : ∀ w ∈ wsX00, w ∈ wf_c_X0_faultOf := fun w h => List.mem_cons_of_mem _ (List.mem_append_left _ (List.mem_append_right _ h))
theorem iw_c_X0_faultOf_X9 : ∀ w ∈ wsX90, w ∈ wf_c_X0_faultOf := fun w h => List.mem_cons_of_mem _ (List.mem_append_right _ h)
set_option maxRecDepth 20000 in
theorem gf_c_X0_faultOf_c_X9_wrongAt : GoodIn wf_c_X0_faultOf (wsV RX0 66 RX9 yX9_wrongAt wf_c_X9_wrongAt) := goodIn_app (gi_l [134, 135, 136, 30] rfl rfl) (gi_cons (j := 137) rfl rfl (goodIn_app (gi_l [33] rfl rfl) (goodIn_sub iw_c_X0_faultOf_X9 gw_X9)))
set_option maxRecDepth 20000 in
theorem gf_c_X0_faultOf_c_X9_expectEnd : GoodIn wf_c_X0_faultOf (wsV RX0 49 RX9 yX9_expectEnd wf_c_X9_expectEnd) := goodIn_app (gi_l [116, 117, 118, 30] rfl rfl) (gi_cons (j := 119) rfl rfl (goodIn_app (gi_l [107, 39, 40, 30, 41, 32, 42, 43, 93, 94, 95, 96, 33] rfl rfl) (goodIn_sub iw_c_X0_faultOf_X9 gw_X9)))
set_option maxRecDepth 20000 in
theorem gf_c_X0_faultOf_c_X9_isRight : GoodIn wf_c_X0_faultOf (wsV RX0 52 RX9 yX9_isRight wf_c_X9_isRight) := goodIn_app (gi_l [97, 98, 99, 30] rfl rfl) (gi_cons (j := 100) rfl rfl (goodIn_app (gi_l [33] rfl rfl) (goodIn_sub iw_c_X0_faultOf_X9 gw_X9)))
set_option maxRecDepth 20000 in
theorem gf_c_X0_faultOf_c_X0_isWhole : GoodIn wf_c_X0_faultOf (wsV RX0 56 RX0 yX0_isWhole wf_c_X0_isWhole) := goodIn_app (gi_l [120, 121, 122, 7] rfl rfl) (gi_cons (j := 123) rfl rfl (goodIn_app (gi_l [1, 2, 124, 125, 126, 7, 127, 24, 128, 129, 130, 131] rfl rfl) (goodIn_sub iw_c_X0_faultOf_X0 gw_X0)))
set_option maxRecDepth 20000 in
theorem gf_c_X0_faultOf_c_X9_refuse : GoodIn wf_c_X0_faultOf (wsV RX0 62 RX9 yX9_refuse wf_c_X9_refuse) := goodIn_app (gi_l [133, 94, 95, 30] rfl rfl) (gi_cons (j := 96) rfl rfl (goodIn_app (gi_l [33] rfl rfl) (goodIn_sub iw_c_X0_faultOf_X9 gw_X9)))
set_option maxRecDepth 20000 in
theorem gf_c_X0_faultOf_c_X0_readClause : GoodIn wf_c_X0_faultOf (wsV RX0 41 RX0 yX0_readClause wf_c_X0_readClause) := goodIn_app (gi_l [34, 35, 36, 7] rfl rfl) (gi_cons (j := 37) rfl rfl (goodIn_app (goodIn_app (gi_l [38, 39, 40, 30, 41, 32, 42, 43, 44, 45, 7, 46, 47, 48, 49, 15, 50, 51, 52, 53, 54, 55, 56, 57, 58, 22, 23, 17, 59, 13, 14, 16, 18, 19, 20, 21, 60, 61, 62, 63, 64, 65, 66, 67, 68, 69, 70, 71, 72, 73, 74, 75, 76, 77, 78, 79, 80, 3, 81, 82, 83, 84, 85, 86, 87, 88, 4, 5, 6, 8, 9, 10, 11, 12, 24, 25, 26, 1, 2, 89, 90, 91, 92, 93, 94, 95, 96, 33, 97, 98, 99, 100, 101, 102, 103, 104, 105, 106, 107, 108, 109, 110, 111] rfl rfl) (goodIn_sub iw_c_X0_faultOf_X9 gw_X9)) (goodIn_sub iw_c_X0_faultOf_X0 gw_X0)))
set_option maxRecDepth 20000 in
theorem gf_c_X0_faultOf_c_X9_take : GoodIn wf_c_X0_faultOf (wsV RX0 45 RX9 yX9_take wf_c_X9_take) := goodIn_app (gi_l [112, 113, 114, 30] rfl rfl) (gi_cons (j := 115) rfl rfl (goodIn_app (gi_l [33, 107, 39, 40, 30, 41, 32, 42, 43] rfl rfl) (goodIn_sub iw_c_X0_faultOf_X9 gw_X9)))
set_option maxRecDepth 20000 in
theorem gf_c_X0_faultOf_c_X0_setUsual : GoodIn wf_c_X0_faultOf (wsV RX0 32 RX0 yX0_setUsual wf_c_X0_setUsual) := goodIn_app (gi_l [4, 5, 6, 7] rfl rfl) (gi_cons (j := 8) rfl rfl (goodIn_app (gi_l [9, 10, 7, 11, 12, 13, 14, 15, 16, 17, 18, 19, 20, 21, 22, 23, 24, 25, 26] rfl rfl) (goodIn_sub iw_c_X0_faultOf_X0 gw_X0)))
set_option maxRecDepth 20000 in
theorem gf_c_X0_faultOf_c_X9_rewind : GoodIn wf_c_X0_faultOf (wsV RX0 36 RX9 yX9_rewind wf_c_X9_rewind) := goodIn_app (gi_l [27, 28, 29, 30] rfl rfl) (gi_cons (j := 31) rfl rfl (goodIn_app (gi_l [32, 33] rfl rfl) (goodIn_sub iw_c_X0_faultOf_X9 gw_X9)))
set_option maxHeartbeats 4000000 in
set_option maxRecDepth 100000 in
theorem c_X0_faultOf (l : Launch) (dC : Nat → ClassId) (dI : Nat → Nat → Nat) (sz : Nat) (h0 : Nat) (h1 : Nat) (h0_0 : Nat) (h0_f1 : Int32) (h0_f2 : Int32) (h0_f3 : Int32) (h0_0k : ClassId) (h0_0c : Nat → Int32) (h1_0 : Nat) (h1_f1 : Int32) (h1_f2 : Int32) (h1_f3 : Int32) (h1_0k : ClassId) (h1_0c : Nat → Int32) (ts1 : Nat) (tv1 : Nat) (ta3 : Nat) (ta0 : Nat) (ts0 : Nat) (tv0 : Nat) (ts2 : Nat) (tv2 : Nat) (ts3 : Nat) (tv3 : Nat) (ta1 : Nat) (ta2 : Nat) (g_h0_f1 : RG h0_f1 0 8) (g_h0_f2 : RG h0_f2 0 3) (g_h0_f3 : RG h0_f3 0 1) (a_h0_0c : AI h0_0c (-1) 99) (g_h1_f1 : RG h1_f1 0 240) (g_h1_f2 : RG h1_f2 0 240) (g_h1_f3 : RG h1_f3 (-1) 240) (a_h1_0c : AI h1_0c 0 255) : Met l yX0_faultOf wf_c_X0_faultOf ({ frames := 6, cells := 0, slots := 0, locals := 139 }) (va_Pc [.ref h0, .ref h1] (fun U => U.heap.size = sz ∧ va_P (dC, dI) vwCl (wd_c_X0_faultOf h0 h0_0 h0_f1 h0_f2 h0_f3 h0_0 h0_0k h0_0c h1 h1_0 h1_f1 h1_f2 h1_f3 h1_0 h1_0k h1_0c) U.heap ∧ va_K (dC, dI) vwCl [(h0_0k, .int), (h1_0k, .int)] U ∧ va_D (fun _ => True) (wd_c_X0_faultOf h0 h0_0 h0_f1 h0_f2 h0_f3 h0_0 h0_0k h0_0c h1 h1_0 h1_f1 h1_f2 h1_f3 h1_0 h1_0k h1_0c) ∧ vk_R RX0 122 "wdth" ts1 U ∧ va_OF "java/lang/String" "value" "[B" (.ref tv1) ts1 (va_A (wd_c_X0_faultOf h0 h0_0 h0_f1 h0_f2 h0_f3 h0_0 h0_0k h0_0c h1 h1_0 h1_f1 h1_f2 h1_f3 h1_0 h1_0k h1_0c) sz) U U.heap ∧ va_T .byte tv1 4 (fun j => .int ([119, 100, 116, 104].getD j 0)) (va_A (wd_c_X0_faultOf h0 h0_0 h0_f1 h0_f2 h0_f3 h0_0 h0_0k h0_0c h1 h1_0 h1_f1 h1_f2 h1_f3 h1_0 h1_0k h1_0c) sz) U U.heap ∧ va_Z "java/lang/String" "COMPACT_STRINGS" "Z" (.int 1) (va_A (wd_c_X0_faultOf h0 h0_0 h0_f1 h0_f2 h0_f3 h0_0 h0_0k h0_0c h1 h1_0 h1_f1 h1_f2 h1_f3 h1_0 h1_0k h1_0c) sz) U U.heap ∧ va_OF "java/lang/String" "coder" "B" (.int 0) ts1 (va_A (wd_c_X0_faultOf h0 h0_0 h0_f1 h0_f2 h0_f3 h0_0 h0_0k h0_0c h1 h1_0 h1_f1 h1_f2 h1_f3 h1_0 h1_0k h1_0c) sz) U U.heap ∧ va_O "java/lang/String" ts1 (va_A (wd_c_X0_faultOf h0 h0_0 h0_f1 h0_f2 h0_f3 h0_0 h0_0k h0_0c h1 h1_0 h1_f1 h1_f2 h1_f3 h1_0 h1_0k h1_0c) sz) U U.heap ∧ va_Z "BuoyVote$Borough" "USUAL" "[I" (.ref ta3) (va_A (wd_c_X0_faultOf h0 h0_0 h0_f1 h0_f2 h0_f3 h0_0 h0_0k h0_0c h1 h1_0 h1_f1 h1_f2 h1_f3 h1_0 h1_0k h1_0c) sz) U U.heap ∧ va_Z "BuoyVote$Borough" "FIRST" "[I" (.ref ta0) (va_A (wd_c_X0_faultOf h0 h0_0 h0_f1 h0_f2 h0_f3 h0_0 h0_0k h0_0c h1 h1_0 h1_f1 h1_f2 h1_f3 h1_0 h1_0k h1_0c) sz) U U.heap ∧ va_T .int ta0 3 (fun j => .int ([0, 4, 12].getD j 0)) (va_A (wd_c_X0_faultOf h0 h0_0 h0_f1 h0_f2 h0_f3 h0_0 h0_0k h0_0c h1 h1_0 h1_f1 h1_f2 h1_f3 h1_0 h1_0k h1_0c) sz) U U.heap ∧ va_T .int ta3 16 (fun j => .int ([2, 0, 6, 8, 0, 0, 3, 0, 0, 0, 3, 2, 0, 0, 2, 3].getD j 0)) (va_A (wd_c_X0_faultOf h0 h0_0 h0_f1 h0_f2 h0_f3 h0_0 h0_0k h0_0c h1 h1_0 h1_f1 h1_f2 h1_f3 h1_0 h1_0k h1_0c) sz) U U.heap ∧ vk_R RX0 70 "sbc" ts0 U ∧ va_OF "java/lang/String" "coder" "B" (.int 0) ts0 (va_A (wd_c_X0_faultOf h0 h0_0 h0_f1 h0_f2 h0_f3 h0_0 h0_0k h0_0c h1 h1_0 h1_f1 h1_f2 h1_f3 h1_0 h1_0k h1_0c) sz) U U.heap ∧ va_O "java/lang/String" ts0 (va_A (wd_c_X0_faultOf h0 h0_0 h0_f1 h0_f2 h0_f3 h0_0 h0_0k h0_0c h1 h1_0 h1_f1 h1_f2 h1_f3 h1_0 h1_0k h1_0c) sz) U U.heap ∧ va_OF "java/lang/String" "value" "[B" (.ref tv0) ts0 (va_A (wd_c_X0_faultOf h0 h0_0 h0_f1 h0_f2 h0_f3 h0_0 h0_0k h0_0c h1 h1_0 h1_f1 h1_f2 h1_f3 h1_0 h1_0k h1_0c) sz) U U.heap ∧ va_T .byte tv0 3 (fun j => .int ([115, 98, 99].getD j 0)) (va_A (wd_c_X0_faultOf h0 h0_0 h0_f1 h0_f2 h0_f3 h0_0 h0_0k h0_0c h1 h1_0 h1_f1 h1_f2 h1_f3 h1_0 h1_0k h1_0c) sz) U U.heap ∧ vk_R RX0 124 "xycaefor" ts2 U ∧ va_OF "java/lang/String" "value" "[B" (.ref tv2) ts2 (va_A (wd_c_X0_faultOf h0 h0_0 h0_f1 h0_f2 h0_f3 h0_0 h0_0k h0_0c h1 h1_0 h1_f1 h1_f2 h1_f3 h1_0 h1_0k h1_0c) sz) U U.heap ∧ va_T .byte tv2 8 (fun j => .int ([120, 121, 99, 97, 101, 102, 111, 114].getD j 0)) (va_A (wd_c_X0_faultOf h0 h0_0 h0_f1 h0_f2 h0_f3 h0_0 h0_0k h0_0c h1 h1_0 h1_f1 h1_f2 h1_f3 h1_0 h1_0k h1_0c) sz) U U.heap ∧ va_OF "java/lang/String" "coder" "B" (.int 0) ts2 (va_A (wd_c_X0_faultOf h0 h0_0 h0_f1 h0_f2 h0_f3 h0_0 h0_0k h0_0c h1 h1_0 h1_f1 h1_f2 h1_f3 h1_0 h1_0k h1_0c) sz) U U.heap ∧ va_O "java/lang/String" ts2 (va_A (wd_c_X0_faultOf h0 h0_0 h0_f1 h0_f2 h0_f3 h0_0 h0_0k h0_0c h1 h1_0 h1_f1 h1_f2 h1_f3 h1_0 h1_0k h1_0c) sz) U U.heap ∧ vk_R RX0 126 "xysv" ts3 U ∧ va_OF "java/lang/String" "value" "[B" (.ref tv3) ts3 (va_A (wd_c_X0_faultOf h0 h0_0 h0_f1 h0_f2 h0_f3 h0_0 h0_0k h0_0c h1 h1_0 h1_f1 h1_f2 h1_f3 h1_0 h1_0k h1_0c) sz) U U.heap ∧ va_T .byte tv3 4 (fun j => .int ([120, 121, 115, 118].getD j 0)) (va_A (wd_c_X0_faultOf h0 h0_0 h0_f1 h0_f2 h0_f3 h0_0 h0_0k h0_0c h1 h1_0 h1_f1 h1_f2 h1_f3 h1_0 h1_0k h1_0c) sz) U U.heap ∧ va_OF "java/lang/String" "coder" "B" (.int 0) ts3 (va_A (wd_c_X0_faultOf h0 h0_0 h0_f1 h0_f2 h0_f3 h0_0 h0_0k h0_0c h1 h1_0 h1_f1 h1_f2 h1_f3 h1_0 h1_0k h1_0c) sz) U U.heap ∧ va_O "java/lang/String" ts3 (va_A (wd_c_X0_faultOf h0 h0_0 h0_f1 h0_f2 h0_f3 h0_0 h0_0k h0_0c h1 h1_0 h1_f1 h1_f2 h1_f3 h1_0 h1_0k h1_0c) sz) U U.heap ∧ va_Z "BuoyVote$Borough" "LOW" "[I" (.ref ta1) (va_A (wd_c_X0_faultOf h0 h0_0 h0_f1 h0_f2 h0_f3 h0_0 h0_0k h0_0c h1 h1_0 h1_f1 h1_f2 h1_f3 h1_0 h1_0k h1_0c) sz) U U.heap ∧ va_T .int ta1 16 (fun j => .int ([0, 0, 1, 1, 0, 0, 0, 0, 0, 0, 0, 0, 0, 0, 1, 0].getD j 0)) (va_A (wd_c_X0_faultOf h0 h0_0 h0_f1 h0_f2 h0_f3 h0_0 h0_0k h0_0c h1 h1_0 h1_f1 h1_f2 h1_f3 h1_0 h1_0k h1_0c) sz) U U.heap ∧ va_Z "BuoyVote$Borough" "HIGH" "[I" (.ref ta2) (va_A (wd_c_X0_faultOf h0 h0_0 h0_f1 h0_f2 h0_f3 h0_0 h0_0k h0_0c h1 h1_0 h1_f1 h1_f2 h1_f3 h1_0 h1_0k h1_0c) sz) U U.heap ∧ va_T .int ta2 16 (fun j => .int ([9, 3, 12, 20, 9, 9, 9, 9, 9, 9, 3, 9, 9, 9, 4, 9].getD j 0)) (va_A (wd_c_X0_faultOf h0 h0_0 h0_f1 h0_f2 h0_f3 h0_0 h0_0k h0_0c h1 h1_0 h1_f1 h1_f2 h1_f3 h1_0 h1_0k h1_0c) sz) U U.heap)) (va_Qi (fun (r : Int32) (u : (Int32) × (Int32) × (Int32) × (Nat → Int32) × (Int32) × (Int32)) => (RG r (-1) 240 ∧ RG u.1 0 8 ∧ RG u.2.1 0 3 ∧ RG u.2.2.1 0 1 ∧ AI (u.2.2.2.1) (-1) 99 ∧ RG u.2.2.2.2.1 0 240 ∧ RG u.2.2.2.2.2 (-1) 240 ∧ (r, u.1, u.2.1, u.2.2.1, u.2.2.2.1, u.2.2.2.2.1, u.2.2.2.2.2) = fx_c_X0_faultOf h0_0c h1_f1 h1_0c)) (fun (u : (Int32) × (Int32) × (Int32) × (Nat → Int32) × (Int32) × (Int32)) t => va_P (dC, dI) vwCl (wd_c_X0_faultOf h0 h0_0 (u.1) (u.2.1) (u.2.2.1) h0_0 h0_0k (u.2.2.2.1) h1 h1_0 h1_f1 (u.2.2.2.2.1) (u.2.2.2.2.2) h1_0 h1_0k h1_0c) t.heap ∧ va_K (dC, dI) vwCl [] t ∧ va_D (va_A (wd_c_X0_faultOf h0 h0_0 h0_f1 h0_f2 h0_f3 h0_0 h0_0k h0_0c h1 h1_0 h1_f1 h1_f2 h1_f3 h1_0 h1_0k h1_0c) sz) (wd_c_X0_faultOf h0 h0_0 (u.1) (u.2.1) (u.2.2.1) h0_0 h0_0k (u.2.2.2.1) h1 h1_0 h1_f1 (u.2.2.2.2.1) (u.2.2.2.2.2) h1_0 h1_0k h1_0c)) (va_A (wd_c_X0_faultOf h0 h0_0 h0_f1 h0_f2 h0_f3 h0_0 h0_0k h0_0c h1 h1_0 h1_f1 h1_f2 h1_f3 h1_0 h1_0k h1_0c) sz)) 0 0 (va_A (wd_c_X0_faultOf h0 h0_0 h0_f1 h0_f2 h0_f3 h0_0 h0_0k h0_0c h1 h1_0 h1_f1 h1_f2 h1_f3 h1_0 h1_0k h1_0c) sz) := by
  refine Met.ofW (cc := cX0_faultOf) (maxL := 3) (ret := (some .int)) (by decide +kernel) rfl ?_
  intro p e s m args below meth c s₁ B hml hv
  obtain ⟨rfl, hsz, hP, hK, hD0, hE_17, hE_20, hE_21, hE_10, hE_19, hE_18, hE_6, hE_0, hE_1, hE_7, hE_12, hE_14, hE_13, hE_15, hE_16, hE_22, hE_25, hE_26, hE_24, hE_23, hE_27, hE_30, hE_31, hE_29, hE_28, hE_2, hE_3, hE_4, hE_5⟩ := hv
  have hx := B.exec
  have hb := B.bytes
  have hr := B.returns
  have hts := atoms_spec (ws := wf_c_X0_faultOf) B.pre
  have hown : s.vm.findClass RX0 = some m.cls := findClass_of_methodNamed B.named
  have hlocks := B.notSynchronized
  subst hsz
  have hD := hD0.self (sz := s.heap.size)
  generalize hAe : va_A (wd_c_X0_faultOf h0 h0_0 h0_f1 h0_f2 h0_f3 h0_0 h0_0k h0_0c h1 h1_0 h1_f1 h1_f2 h1_f3 h1_0 h1_0k h1_0c) s.heap.size = A at hD hE_20 hE_21 hE_10 hE_19 hE_18 hE_6 hE_0 hE_1 hE_7 hE_14 hE_13 hE_15 hE_16 hE_25 hE_26 hE_24 hE_23 hE_30 hE_31 hE_29 hE_28 hE_2 hE_3 hE_4 hE_5 ⊢
  have hA : ∀ q : Nat, s.heap.size ≤ q → A q := fun q h => by rw [← hAe]; exact Or.inr h
  have hP : va_P (dC, dI) vwCl (wd_c_X0_faultOf h0 h0_0 h0_f1 h0_f2 h0_f3 h0_0 h0_0k h0_0c h1 h1_0 h1_f1 h1_f2 h1_f3 h1_0 h1_0k h1_0c) s.heap := hP
  have hl := lv_entry ([.ref h0, .ref h1]) (n := 3) (Nat.le_of_ble_eq_true rfl)
  rw [lg_entry_eq]
  generalize (lg_sl ([.ref h0, .ref h1]) ++ List.replicate (3 - (lg_sl ([.ref h0, .ref h1])).length) Slot.unset).toArray = ls at hl ⊢
  have hl : lv_has ls 3 [(0, .ref h0), (1, .ref h1)] := hl
  obtain ⟨H, hHe⟩ : ∃ H : Heap, s.heap = H := ⟨_, rfl⟩
  have hS : va_S A s.heap H [] := by rw [hHe]; exact va_S.rf
  have hP : va_P (dC, dI) vwCl (wd_c_X0_faultOf h0 h0_0 h0_f1 h0_f2 h0_f3 h0_0 h0_0k h0_0c h1 h1_0 h1_f1 h1_f2 h1_f3 h1_0 h1_0k h1_0c) H := by rw [← hHe]; exact hP
  rw [hHe]
  obtain ⟨RES, hR⟩ : ∃ z, fx_c_X0_faultOf h0_0c h1_f1 h1_0c = z := ⟨_, rfl⟩
  have hEX : RES = fx_c_X0_faultOf h0_0c h1_f1 h1_0c := hR.symm
  refine wj (fun G hG hU => ?_)
  as_aux_lemma =>
  have J83 : ∀ (j83_h0_f1 : Int32) (j83_h0_f2 : Int32) (j83_h0_f3 : Int32) (j83_h0_0c : Nat → Int32) (j83_h1_f2 : Int32) (j83_h1_f3 : Int32) (g_h0_f1 : RG h0_f1 0 8) (g_h0_f2 : RG h0_f2 0 3) (g_h0_f3 : RG h0_f3 0 1) (g_h1_f1 : RG h1_f1 0 240) (g_h1_f2 : RG h1_f2 0 240) (g_h1_f3 : RG h1_f3 (-1) 240) (g_j83_h0_f1 : RG j83_h0_f1 0 8) (g_j83_h0_f2 : RG j83_h0_f2 0 3) (g_j83_h0_f3 : RG j83_h0_f3 0 1) (g_j83_h1_f2 : RG j83_h1_f2 0 240) (g_j83_h1_f3 : RG j83_h1_f3 (-1) 240) (a_j83_h0_0c : AI j83_h0_0c (-1) 99) (hEX : RES = fx_c_X0_faultOf_p83 j83_h0_f1 j83_h0_f2 j83_h0_f3 j83_h0_0c j83_h1_f2 j83_h1_f3) (H : Heap) (locs : List Loc) (ls : Array Slot) (hP : va_P (dC, dI) vwCl (wd_c_X0_faultOf h0 h0_0 j83_h0_f1 j83_h0_f2 j83_h0_f3 h0_0 h0_0k j83_h0_0c h1 h1_0 h1_f1 j83_h1_f2 j83_h1_f3 h1_0 h1_0k h1_0c) H) (hD : va_D A (wd_c_X0_faultOf h0 h0_0 j83_h0_f1 j83_h0_f2 j83_h0_f3 h0_0 h0_0k j83_h0_0c h1 h1_0 h1_f1 j83_h1_f2 j83_h1_f3 h1_0 h1_0k h1_0c)) (hS : va_S A s.heap H locs) (hl : lv_has ls 3 [(1, .ref h1)]), G H locs (F0 m 83 ls []) := by
    as_aux_lemma =>
    intro j83_h0_f1 j83_h0_f2 j83_h0_f3 j83_h0_0c j83_h1_f2 j83_h1_f3 g_h0_f1 g_h0_f2 g_h0_f3 g_h1_f1 g_h1_f2 g_h1_f3 g_j83_h0_f1 g_j83_h0_f2 g_j83_h0_f3 g_j83_h1_f2 g_j83_h1_f3 a_j83_h0_0c hEX H locs ls hP hD hS hl
    refine hG _ _ _ ?_
    refine lv_aload_n hx hb dX0_faultOf_83 rfl (lv_at hl 0 rfl) ?_
    obtain ⟨hPc, hDc, hFc, hqc⟩ := cl_cut (wc := (wd_c_X9_wrongAt h1 h1_0 h1_f1 j83_h1_f2 j83_h1_f3)) hP hD hS hA [2] (by decide +kernel) rfl
    have hKc := hK.sub (tys' := []) [] rfl
    have hrv := va_recv hKc hPc (ci := 9) (q0 := 0) rfl rfl
    refine va_calli (va_runV (As := []) (rest := []) ⟨hx, hb, hml, hown, hts⟩ (c_X9_wrongAt l dC dI H.size h1 h1_0 h1_f1 j83_h1_f2 j83_h1_f3 g_h1_f1 g_j83_h1_f2 g_j83_h1_f3) (cwV 0 hts gf_c_X0_faultOf_c_X9_wrongAt rfl rfl rfl mdV_X9_wrongAt ⟨Nat.le_of_ble_eq_true rfl, Nat.le_of_ble_eq_true rfl⟩) ⟨fun a U g mk q => by obtain ⟨q0, q1, qP, qK, qD⟩ := q; exact ⟨q0, q1, qP, va_K.moved (u := U) (U := U.calling g mk a) (Vm.Alike.refl U.vm) qK, qD⟩, hrv, fun U hU hW => ⟨rfl, by rw [hU], by rw [hU]; exact hPc, va_K.moved hW.alike hKc, hDc.weaken (fun _ _ _ _ => trivial)⟩⟩ rfl rfl hl.1 rfl (lv_room (Nat.le_of_ble_eq_true rfl)) dX0_faultOf_84 ⟨Nat.le_of_ble_eq_true rfl, Nat.le_of_ble_eq_true rfl⟩) hS (fun q _ h => hFc q h) hFc (fun r_1 u t H1 locs ht hvm hw hB hz1 hk1 hS => ?_)
    obtain ⟨hP1, hK1, hD1⟩ := hB
    rw [ht] at hP1
    obtain ⟨hP, hD⟩ := cl_put (w1 := (wd_c_X9_wrongAt h1 h1_0 h1_f1 j83_h1_f2 j83_h1_f3)) (nw := (wd_c_X0_faultOf h0 h0_0 j83_h0_f1 j83_h0_f2 j83_h0_f3 h0_0 h0_0k j83_h0_0c h1 h1_0 h1_f1 j83_h1_f2 j83_h1_f3 h1_0 h1_0k h1_0c)) hP hD [2] [0, 1, 4, 3] 4 rfl hqc (by decide +kernel) rfl hk1 hFc hP1 hD1
    generalize H1 = H at hP hS ⊢
    as_aux_lemma =>
    rcases hw with ⟨h_2, h_3⟩
    have h_3 : r_1 = _ := h_3
    replace hEX := hEX.trans (exc1_eq h_3)
    have hK9 := hK.sub (tys' := []) [] rfl
    exact W.iret (v := r_1) hx hb hr (fun t ht hW => ⟨⟨r_1, (j83_h0_f1, j83_h0_f2, j83_h0_f3, j83_h0_0c, j83_h1_f2, j83_h1_f3), rfl, ⟨h_2, g_j83_h0_f1, g_j83_h0_f2, g_j83_h0_f3, a_j83_h0_0c, g_j83_h1_f2, g_j83_h1_f3, (hR.trans hEX).symm⟩, by rw [ht]; exact hP, va_K.moved hW.alike hK9, hD⟩, hS.F ht⟩) hS.2.2 dX0_faultOf_87
  have J57 : ∀ (j57_h0_f1 : Int32) (j57_h0_f2 : Int32) (j57_h0_f3 : Int32) (j57_h0_0c : Nat → Int32) (j57_h1_f2 : Int32) (j57_h1_f3 : Int32) (g_h0_f1 : RG h0_f1 0 8) (g_h0_f2 : RG h0_f2 0 3) (g_h0_f3 : RG h0_f3 0 1) (g_h1_f1 : RG h1_f1 0 240) (g_h1_f2 : RG h1_f2 0 240) (g_h1_f3 : RG h1_f3 (-1) 240) (g_j57_h0_f1 : RG j57_h0_f1 0 8) (g_j57_h0_f2 : RG j57_h0_f2 0 3) (g_j57_h0_f3 : RG j57_h0_f3 0 1) (g_j57_h1_f2 : RG j57_h1_f2 0 240) (g_j57_h1_f3 : RG j57_h1_f3 (-1) 240) (a_j57_h0_0c : AI j57_h0_0c (-1) 99) (hEX : RES = fx_c_X0_faultOf_p57 h1_f1 h1_0c j57_h0_f1 j57_h0_f2 j57_h0_f3 j57_h0_0c j57_h1_f2 j57_h1_f3) (H : Heap) (locs : List Loc) (ls : Array Slot) (hP : va_P (dC, dI) vwCl (wd_c_X0_faultOf h0 h0_0 j57_h0_f1 j57_h0_f2 j57_h0_f3 h0_0 h0_0k j57_h0_0c h1 h1_0 h1_f1 j57_h1_f2 j57_h1_f3 h1_0 h1_0k h1_0c) H) (hD : va_D A (wd_c_X0_faultOf h0 h0_0 j57_h0_f1 j57_h0_f2 j57_h0_f3 h0_0 h0_0k j57_h0_0c h1 h1_0 h1_f1 j57_h1_f2 j57_h1_f3 h1_0 h1_0k h1_0c)) (hS : va_S A s.heap H locs) (hl : lv_has ls 3 [(0, .ref h0), (1, .ref h1)]), G H locs (F0 m 57 ls []) := by
    as_aux_lemma =>
    intro j57_h0_f1 j57_h0_f2 j57_h0_f3 j57_h0_0c j57_h1_f2 j57_h1_f3 g_h0_f1 g_h0_f2 g_h0_f3 g_h1_f1 g_h1_f2 g_h1_f3 g_j57_h0_f1 g_j57_h0_f2 g_j57_h0_f3 g_j57_h1_f2 g_j57_h1_f3 a_j57_h0_0c hEX H locs ls hP hD hS hl
    refine hG _ _ _ ?_
    refine lv_aload_n hx hb dX0_faultOf_57 rfl (lv_at hl 1 rfl) ?_
    obtain ⟨hPc, hDc, hFc, hqc⟩ := cl_cut (wc := (wd_c_X9_expectEnd h1 h1_0 h1_f1 j57_h1_f2 j57_h1_f3 h1_0 h1_0k h1_0c)) hP hD hS hA [2, 3] (by decide +kernel) rfl
    have hKc := hK.sub (tys' := [(h1_0k, .int)]) [1] rfl
    have hrv := va_recv hKc hPc (ci := 9) (q0 := 0) rfl rfl
    refine va_callv (va_runV (As := []) (rest := []) ⟨hx, hb, hml, hown, hts⟩ (c_X9_expectEnd l dC dI H.size h1 h1_0 h1_f1 j57_h1_f2 j57_h1_f3 h1_0k h1_0c g_h1_f1 g_j57_h1_f2 g_j57_h1_f3 a_h1_0c) (cwV 0 hts gf_c_X0_faultOf_c_X9_expectEnd rfl rfl rfl mdV_X9_expectEnd ⟨Nat.le_of_ble_eq_true rfl, Nat.le_of_ble_eq_true rfl⟩) ⟨fun a U g mk q => by obtain ⟨q0, q1, qP, qK, qD⟩ := q; exact ⟨q0, q1, qP, va_K.moved (u := U) (U := U.calling g mk a) (Vm.Alike.refl U.vm) qK, qD⟩, hrv, fun U hU hW => ⟨rfl, by rw [hU], by rw [hU]; exact hPc, va_K.moved hW.alike hKc, hDc.weaken (fun _ _ _ _ => trivial)⟩⟩ rfl rfl hl.1 rfl (lv_room (Nat.le_of_ble_eq_true rfl)) dX0_faultOf_58 ⟨Nat.le_of_ble_eq_true rfl, Nat.le_of_ble_eq_true rfl⟩) hS (fun q _ h => hFc q h) hFc (fun u t H1 locs ht hvm hw hB hz1 hk1 hS => ?_)
    obtain ⟨x_5, x_6⟩ := u
    obtain ⟨hP1, hK1, hD1⟩ := hB
    rw [ht] at hP1
    obtain ⟨hP, hD⟩ := cl_put (w1 := (wd_c_X9_expectEnd h1 h1_0 h1_f1 x_5 x_6 h1_0 h1_0k h1_0c)) (nw := (wd_c_X0_faultOf h0 h0_0 j57_h0_f1 j57_h0_f2 j57_h0_f3 h0_0 h0_0k j57_h0_0c h1 h1_0 h1_f1 x_5 x_6 h1_0 h1_0k h1_0c)) hP hD [2, 3] [0, 1, 4, 5] 4 rfl hqc (by decide +kernel) rfl hk1 hFc hP1 hD1
    generalize H1 = H at hP hS ⊢
    as_aux_lemma =>
    rcases hw with ⟨h_7, h_8, h_9, h_10⟩
    have h_10 : (x_5, x_6) = _ := h_10
    replace hEX := hEX.trans (exc2_eq h_10)
    refine lv_aload_n hx hb dX0_faultOf_61 rfl (lv_at hl 1 rfl) ?_
    obtain ⟨hPc, hDc, hFc, hqc⟩ := cl_cut (wc := (wd_c_X9_isRight h1 h1_0 h1_f1 x_5 x_6)) hP hD hS hA [2] (by decide +kernel) rfl
    have hKc := hK.sub (tys' := []) [] rfl
    have hrv := va_recv hKc hPc (ci := 9) (q0 := 0) rfl rfl
    refine va_calli (va_runV (As := []) (rest := []) ⟨hx, hb, hml, hown, hts⟩ (c_X9_isRight l dC dI H.size h1 h1_0 h1_f1 x_5 x_6 g_h1_f1 h_7 h_8) (cwV 0 hts gf_c_X0_faultOf_c_X9_isRight rfl rfl rfl mdV_X9_isRight ⟨Nat.le_of_ble_eq_true rfl, Nat.le_of_ble_eq_true rfl⟩) ⟨fun a U g mk q => by obtain ⟨q0, q1, qP, qK, qD⟩ := q; exact ⟨q0, q1, qP, va_K.moved (u := U) (U := U.calling g mk a) (Vm.Alike.refl U.vm) qK, qD⟩, hrv, fun U hU hW => ⟨rfl, by rw [hU], by rw [hU]; exact hPc, va_K.moved hW.alike hKc, hDc.weaken (fun _ _ _ _ => trivial)⟩⟩ rfl rfl hl.1 rfl (lv_room (Nat.le_of_ble_eq_true rfl)) dX0_faultOf_62 ⟨Nat.le_of_ble_eq_true rfl, Nat.le_of_ble_eq_true rfl⟩) hS (fun q _ h => hFc q h) hFc (fun r_11 u t H1 locs ht hvm hw hB hz1 hk1 hS => ?_)
    obtain ⟨hP1, hK1, hD1⟩ := hB
    rw [ht] at hP1
    obtain ⟨hP, hD⟩ := cl_put (w1 := (wd_c_X9_isRight h1 h1_0 h1_f1 x_5 x_6)) (nw := (wd_c_X0_faultOf h0 h0_0 j57_h0_f1 j57_h0_f2 j57_h0_f3 h0_0 h0_0k j57_h0_0c h1 h1_0 h1_f1 x_5 x_6 h1_0 h1_0k h1_0c)) hP hD [2] [0, 1, 4, 3] 4 rfl hqc (by decide +kernel) rfl hk1 hFc hP1 hD1
    generalize H1 = H at hP hS ⊢
    as_aux_lemma =>
    rcases hw with ⟨h_12, h_13, h_14⟩ | ⟨h_15, h_16, h_17⟩
    · have h_14 : r_11 = _ := h_14
      replace hEX := hEX.trans (exc1_eq h_14)
      replace hEX := hEX.trans (if_pos (show r_11 = 0 from h_12))
      rw [h_12]
      refine lv_if_eq (tgt := 83) hx hb dX0_faultOf_65 rfl (fun c_18 => ?_) (fun c_18 => absurd c_18 (by decide +kernel))
      exact hU _ _ _ (J83 j57_h0_f1 j57_h0_f2 j57_h0_f3 j57_h0_0c x_5 x_6 g_h0_f1 g_h0_f2 g_h0_f3 g_h1_f1 g_h1_f2 g_h1_f3 g_j57_h0_f1 g_j57_h0_f2 g_j57_h0_f3 h_7 (RG_w h_13 (by decide +kernel)) a_j57_h0_0c hEX _ _ _ hP hD hS (lv_sub hl [1] rfl))
    · have h_17 : r_11 = _ := h_17
      replace hEX := hEX.trans (exc1_eq h_17)
      replace hEX := hEX.trans (if_neg (fun q9 : r_11 = 0 => absurd ((show r_11 = 1 from h_15).symm.trans q9) (by decide +kernel)))
      rw [h_15]
      refine lv_if_eq (tgt := 83) hx hb dX0_faultOf_65 rfl (fun c_19 => absurd c_19 (by decide +kernel)) (fun c_19 => ?_)
      refine lv_aload_n hx hb dX0_faultOf_68 rfl (lv_at hl 0 rfl) ?_
      obtain ⟨hPc, hDc, hFc, hqc⟩ := cl_cut (wc := (wd_c_X0_isWhole h0 h0_0 j57_h0_f1 j57_h0_f2 j57_h0_f3 h0_0 h0_0k j57_h0_0c)) hP hD hS hA [0, 1] (by decide +kernel) rfl
      have hKc := hK.sub (tys' := [(h0_0k, .int)]) [0] rfl
      have hrv := va_recv hKc hPc (ci := 0) (q0 := 0) rfl rfl
      refine va_calli (va_runV (As := []) (rest := []) ⟨hx, hb, hml, hown, hts⟩ (c_X0_isWhole l dC dI H.size h0 h0_0 j57_h0_f1 j57_h0_f2 j57_h0_f3 h0_0k j57_h0_0c g_j57_h0_f1 g_j57_h0_f2 g_j57_h0_f3 a_j57_h0_0c) (cwV 0 hts gf_c_X0_faultOf_c_X0_isWhole rfl rfl rfl mdV_X0_isWhole ⟨Nat.le_of_ble_eq_true rfl, Nat.le_of_ble_eq_true rfl⟩) ⟨fun a U g mk q => by obtain ⟨q0, q1, qP, qK, qD⟩ := q; exact ⟨q0, q1, qP, va_K.moved (u := U) (U := U.calling g mk a) (Vm.Alike.refl U.vm) qK, qD⟩, hrv, fun U hU hW => ⟨rfl, by rw [hU], by rw [hU]; exact hPc, va_K.moved hW.alike hKc, hDc.weaken (fun _ _ _ _ => trivial)⟩⟩ rfl rfl hl.1 rfl (lv_room (Nat.le_of_ble_eq_true rfl)) dX0_faultOf_69 ⟨Nat.le_of_ble_eq_true rfl, Nat.le_of_ble_eq_true rfl⟩) hS (fun q _ h => hFc q h) hFc (fun r_20 u t H1 locs ht hvm hw hB hz1 hk1 hS => ?_)
      as_aux_lemma =>
      obtain ⟨hP1, hK1, hD1⟩ := hB
      rw [ht] at hP1
      obtain ⟨hP, hD⟩ := cl_put (w1 := (wd_c_X0_isWhole h0 h0_0 j57_h0_f1 j57_h0_f2 j57_h0_f3 h0_0 h0_0k j57_h0_0c)) (nw := (wd_c_X0_faultOf h0 h0_0 j57_h0_f1 j57_h0_f2 j57_h0_f3 h0_0 h0_0k j57_h0_0c h1 h1_0 h1_f1 x_5 x_6 h1_0 h1_0k h1_0c)) hP hD [0, 1] [4, 5, 2, 3] 4 rfl hqc (by decide +kernel) rfl hk1 hFc hP1 hD1
      generalize H1 = H at hP hS ⊢
      as_aux_lemma =>
      rcases hw with ⟨h_21, h_22⟩ | ⟨h_23, h_24, h_25, h_26⟩
      · have h_22 : r_20 = _ := h_22
        replace hEX := hEX.trans (exc1_eq h_22)
        replace hEX := hEX.trans (if_pos (show r_20 = 0 from h_21))
        rw [h_21]
        refine lv_if_ne (tgt := 83) hx hb dX0_faultOf_72 rfl (fun c_27 => absurd c_27 (by decide +kernel)) (fun c_27 => ?_)
        refine lv_aload_n hx hb dX0_faultOf_75 rfl (lv_at hl 1 rfl) ?_
        refine lv_aload_n hx hb dX0_faultOf_76 rfl (lv_at hl 1 rfl) ?_
        refine va_get (D := (dC, dI)) (ci := 9) (v := .int h1_f1) (C := RX9) (T := TX9) (N := 4) hx hb hts iw_c_X0_faultOf_X9 hown hK hP 2 rfl rfl 1 (by decide +kernel) (hts (.fieldLink RX0 59 "BuoyVote$Tape" "length" "I") (List.mem_of_getElem? (i := 132) rfl)) (fun _ h9 => h9) rfl dX0_faultOf_77 ?_
        obtain ⟨hPc, hDc, hFc, hqc⟩ := cl_cut (wc := (wd_c_X9_refuse h1 h1_0 h1_f1 x_5 x_6)) hP hD hS hA [2] (by decide +kernel) rfl
        have hKc := hK.sub (tys' := []) [] rfl
        have hrv := va_recv hKc hPc (ci := 9) (q0 := 0) rfl rfl
        refine va_callv (va_runV (As := [.int h1_f1]) (rest := []) ⟨hx, hb, hml, hown, hts⟩ (c_X9_refuse l dC dI H.size h1 h1_f1 h1_0 h1_f1 x_5 x_6 g_h1_f1 g_h1_f1 h_7 (RG_w h_16 (by decide +kernel))) (cwV 1 hts gf_c_X0_faultOf_c_X9_refuse rfl rfl rfl mdV_X9_refuse ⟨Nat.le_of_ble_eq_true rfl, Nat.le_of_ble_eq_true rfl⟩) ⟨fun a U g mk q => by obtain ⟨q0, q1, qP, qK, qD⟩ := q; exact ⟨q0, q1, qP, va_K.moved (u := U) (U := U.calling g mk a) (Vm.Alike.refl U.vm) qK, qD⟩, hrv, fun U hU hW => ⟨rfl, by rw [hU], by rw [hU]; exact hPc, va_K.moved hW.alike hKc, hDc.weaken (fun _ _ _ _ => trivial)⟩⟩ rfl rfl hl.1 rfl (lv_room (Nat.le_of_ble_eq_true rfl)) dX0_faultOf_80 ⟨Nat.le_of_ble_eq_true rfl, Nat.le_of_ble_eq_true rfl⟩) hS (fun q _ h => hFc q h) hFc (fun x_29 t H1 locs ht hvm hw hB hz1 hk1 hS => ?_)
        obtain ⟨hP1, hK1, hD1⟩ := hB
        rw [ht] at hP1
        obtain ⟨hP, hD⟩ := cl_put (w1 := (wd_c_X9_refuse h1 h1_0 h1_f1 x_5 x_29)) (nw := (wd_c_X0_faultOf h0 h0_0 j57_h0_f1 j57_h0_f2 j57_h0_f3 h0_0 h0_0k j57_h0_0c h1 h1_0 h1_f1 x_5 x_29 h1_0 h1_0k h1_0c)) hP hD [2] [0, 1, 4, 3] 4 rfl hqc (by decide +kernel) rfl hk1 hFc hP1 hD1
        generalize H1 = H at hP hS ⊢
        as_aux_lemma =>
        rcases hw with ⟨h_30, h_31⟩
        have h_31 : x_29 = _ := h_31
        replace hEX := hEX.trans (exc1_eq h_31)
        exact hU _ _ _ (J83 j57_h0_f1 j57_h0_f2 j57_h0_f3 j57_h0_0c x_5 x_29 g_h0_f1 g_h0_f2 g_h0_f3 g_h1_f1 g_h1_f2 g_h1_f3 g_j57_h0_f1 g_j57_h0_f2 g_j57_h0_f3 h_7 (RG_w h_30 (by decide +kernel)) a_j57_h0_0c hEX _ _ _ hP hD hS (lv_sub hl [1] rfl))
      · have h_26 : r_20 = _ := h_26
        replace hEX := hEX.trans (exc1_eq h_26)
        replace hEX := hEX.trans (if_neg (fun q9 : r_20 = 0 => absurd ((show r_20 = 1 from h_23).symm.trans q9) (by decide +kernel)))
        rw [h_23]
        refine lv_if_ne (tgt := 83) hx hb dX0_faultOf_72 rfl (fun c_32 => ?_) (fun c_32 => absurd c_32 (by decide +kernel))
        exact hU _ _ _ (J83 j57_h0_f1 j57_h0_f2 j57_h0_f3 j57_h0_0c x_5 x_6 g_h0_f1 g_h0_f2 g_h0_f3 g_h1_f1 g_h1_f2 g_h1_f3 (RG_w h_24 (by decide +kernel)) (RG_w h_25 (by decide +kernel)) g_j57_h0_f3 h_7 (RG_w h_16 (by decide +kernel)) a_j57_h0_0c hEX _ _ _ hP hD hS (lv_sub hl [1] rfl))
  have J27 : ∀ (n27 : Nat) (j27_l2 : Int32) (j27_h0_f1 : Int32) (j27_h0_f2 : Int32) (j27_h0_f3 : Int32) (j27_h0_0c : Nat → Int32) (j27_h1_f2 : Int32) (j27_h1_f3 : Int32) (hM27 : MU j27_l2 < n27) (g_h0_f1 : RG h0_f1 0 8) (g_h0_f2 : RG h0_f2 0 3) (g_h0_f3 : RG h0_f3 0 1) (g_h1_f1 : RG h1_f1 0 240) (g_h1_f2 : RG h1_f2 0 240) (g_h1_f3 : RG h1_f3 (-1) 240) (g_j27_h0_f1 : RG j27_h0_f1 0 8) (g_j27_h0_f2 : RG j27_h0_f2 0 3) (g_j27_h0_f3 : RG j27_h0_f3 0 1) (g_j27_h1_f2 : RG j27_h1_f2 0 240) (g_j27_h1_f3 : RG j27_h1_f3 (-1) (-1)) (g_j27_l2 : RG j27_l2 0 240) (a_j27_h0_0c : AI j27_h0_0c (-1) 99) (hEX : RES = fx_c_X0_faultOf_p27 h1_f1 h1_0c n27 j27_l2 j27_h0_f1 j27_h0_f2 j27_h0_f3 j27_h0_0c j27_h1_f2 j27_h1_f3) (H : Heap) (locs : List Loc) (ls : Array Slot) (hP : va_P (dC, dI) vwCl (wd_c_X0_faultOf h0 h0_0 j27_h0_f1 j27_h0_f2 j27_h0_f3 h0_0 h0_0k j27_h0_0c h1 h1_0 h1_f1 j27_h1_f2 j27_h1_f3 h1_0 h1_0k h1_0c) H) (hD : va_D A (wd_c_X0_faultOf h0 h0_0 j27_h0_f1 j27_h0_f2 j27_h0_f3 h0_0 h0_0k j27_h0_0c h1 h1_0 h1_f1 j27_h1_f2 j27_h1_f3 h1_0 h1_0k h1_0c)) (hS : va_S A s.heap H locs) (hl : lv_has ls 3 [(2, .int j27_l2), (0, .ref h0), (1, .ref h1)]), G H locs (F0 m 27 ls []) := by
    as_aux_lemma =>
    intro n27
    induction n27 with
    | zero => intros; exact absurd (by assumption) (Nat.not_lt_zero _)
    | succ n27 ih27 =>
      intro j27_l2 j27_h0_f1 j27_h0_f2 j27_h0_f3 j27_h0_0c j27_h1_f2 j27_h1_f3 hM27 g_h0_f1 g_h0_f2 g_h0_f3 g_h1_f1 g_h1_f2 g_h1_f3 g_j27_h0_f1 g_j27_h0_f2 g_j27_h0_f3 g_j27_h1_f2 g_j27_h1_f3 g_j27_l2 a_j27_h0_0c hEX H locs ls hP hD hS hl
      refine hG _ _ _ ?_
      replace hEX := hEX.trans (if_pos (rfl : j27_l2 = j27_l2))
      refine lv_iload_n hx hb dX0_faultOf_27 rfl (lv_at hl 0 rfl) ?_
      refine lv_sipush (v := 240) hx hb dX0_faultOf_28 kc_sipush_240 ?_
      refine lv_icmp_ge (tgt := 57) hx hb dX0_faultOf_31 rfl (fun c_33 => ?_) (fun c_33 => ?_)
      · replace hEX := hEX.trans (if_pos c_33)
        have g_34 : RG j27_l2 240 240 := RG_le2 (RG_k 240 240 rfl) g_j27_l2 c_33 (by decide +kernel)
        exact hU _ _ _ (J57 j27_h0_f1 j27_h0_f2 j27_h0_f3 j27_h0_0c j27_h1_f2 j27_h1_f3 g_h0_f1 g_h0_f2 g_h0_f3 g_h1_f1 g_h1_f2 g_h1_f3 g_j27_h0_f1 g_j27_h0_f2 g_j27_h0_f3 g_j27_h1_f2 (RG_w g_j27_h1_f3 (by decide +kernel)) a_j27_h0_0c hEX _ _ _ hP hD hS (lv_sub hl [1, 2] rfl))
      · replace hEX := hEX.trans (if_neg c_33)
        have d_35 := Int32.not_le.mp c_33
        have g_36 : RG j27_l2 0 239 := RG_lt1 g_j27_l2 (RG_k 240 240 rfl) d_35 (by decide +kernel)
        refine lv_aload_n hx hb dX0_faultOf_34 rfl (lv_at hl 1 rfl) ?_
        as_aux_lemma =>
        refine lv_aload_n hx hb dX0_faultOf_35 rfl (lv_at hl 2 rfl) ?_
        obtain ⟨hPc, hDc, hFc, hqc⟩ := cl_cut (wc := (wd_c_X0_readClause h1 h1_0 h1_f1 j27_h1_f2 j27_h1_f3 h1_0 h1_0k h1_0c h0 h0_0 j27_h0_f1 j27_h0_f2 j27_h0_f3 h0_0 h0_0k j27_h0_0c)) hP hD hS hA [2, 3, 0, 1] (by decide +kernel) rfl
        have hKc := hK.sub (tys' := [(h1_0k, .int), (h0_0k, .int)]) [1, 0] rfl
        have hrv := va_recv hKc hPc (ci := 0) (q0 := 2) rfl rfl
        refine va_callv (va_runV (As := [.ref h1]) (rest := []) ⟨hx, hb, hml, hown, hts⟩ (c_X0_readClause l dC dI H.size h0 h1 h1_0 h1_f1 j27_h1_f2 j27_h1_f3 h1_0k h1_0c h0_0 j27_h0_f1 j27_h0_f2 j27_h0_f3 h0_0k j27_h0_0c ts0 tv0 ts1 tv1 ta3 ta0 ts2 tv2 ts3 tv3 ta1 ta2 g_h1_f1 g_j27_h1_f2 (RG_w g_j27_h1_f3 (by decide +kernel)) a_h1_0c g_j27_h0_f1 g_j27_h0_f2 g_j27_h0_f3 a_j27_h0_0c) (cwV 1 hts gf_c_X0_faultOf_c_X0_readClause rfl rfl rfl mdV_X0_readClause ⟨Nat.le_of_ble_eq_true rfl, Nat.le_of_ble_eq_true rfl⟩) ⟨fun a U g mk q => by obtain ⟨q0, q1, qP, qK, qD, qE0, qE1, qE2, qE3, qE4, qE5, qE6, qE7, qE8, qE9, qE10, qE11, qE12, qE13, qE14, qE15, qE16, qE17, qE18, qE19, qE20, qE21, qE22, qE23, qE24, qE25, qE26, qE27, qE28⟩ := q; exact ⟨q0, q1, qP, va_K.moved (u := U) (U := U.calling g mk a) (Vm.Alike.refl U.vm) qK, qD, vk_R.same rfl qE0, va_Z.moved (u := U) (U := U.calling g mk a) (Vm.Alike.refl U.vm) qE1, va_OF.moved (u := U) (U := U.calling g mk a) (Vm.Alike.refl U.vm) qE2, va_O.moved (u := U) (U := U.calling g mk a) (Vm.Alike.refl U.vm) qE3, va_OF.moved (u := U) (U := U.calling g mk a) (Vm.Alike.refl U.vm) qE4, va_T.moved (u := U) (U := U.calling g mk a) (Vm.Alike.refl U.vm) qE5, vk_R.same rfl qE6, va_OF.moved (u := U) (U := U.calling g mk a) (Vm.Alike.refl U.vm) qE7, va_T.moved (u := U) (U := U.calling g mk a) (Vm.Alike.refl U.vm) qE8, va_OF.moved (u := U) (U := U.calling g mk a) (Vm.Alike.refl U.vm) qE9, va_O.moved (u := U) (U := U.calling g mk a) (Vm.Alike.refl U.vm) qE10, va_Z.moved (u := U) (U := U.calling g mk a) (Vm.Alike.refl U.vm) qE11, va_Z.moved (u := U) (U := U.calling g mk a) (Vm.Alike.refl U.vm) qE12, va_T.moved (u := U) (U := U.calling g mk a) (Vm.Alike.refl U.vm) qE13, va_T.moved (u := U) (U := U.calling g mk a) (Vm.Alike.refl U.vm) qE14, vk_R.same rfl qE15, va_OF.moved (u := U) (U := U.calling g mk a) (Vm.Alike.refl U.vm) qE16, va_T.moved (u := U) (U := U.calling g mk a) (Vm.Alike.refl U.vm) qE17, va_OF.moved (u := U) (U := U.calling g mk a) (Vm.Alike.refl U.vm) qE18, va_O.moved (u := U) (U := U.calling g mk a) (Vm.Alike.refl U.vm) qE19, vk_R.same rfl qE20, va_OF.moved (u := U) (U := U.calling g mk a) (Vm.Alike.refl U.vm) qE21, va_T.moved (u := U) (U := U.calling g mk a) (Vm.Alike.refl U.vm) qE22, va_OF.moved (u := U) (U := U.calling g mk a) (Vm.Alike.refl U.vm) qE23, va_O.moved (u := U) (U := U.calling g mk a) (Vm.Alike.refl U.vm) qE24, va_Z.moved (u := U) (U := U.calling g mk a) (Vm.Alike.refl U.vm) qE25, va_T.moved (u := U) (U := U.calling g mk a) (Vm.Alike.refl U.vm) qE26, va_Z.moved (u := U) (U := U.calling g mk a) (Vm.Alike.refl U.vm) qE27, va_T.moved (u := U) (U := U.calling g mk a) (Vm.Alike.refl U.vm) qE28⟩, hrv, fun U hU hW => ⟨rfl, by rw [hU], by rw [hU]; exact hPc, va_K.moved hW.alike hKc, hDc.weaken (fun _ _ _ _ => trivial), vk_R.warm hW hE_12, va_Z.moved hW.alike (by rw [hU]; exact (hE_10.kept hS.2.1).narrow hFc), va_OF.moved hW.alike (by rw [hU]; exact (hE_14.kept hS.2.1).narrow hFc), va_O.moved hW.alike (by rw [hU]; exact (hE_13.kept hS.2.1).narrow hFc), va_OF.moved hW.alike (by rw [hU]; exact (hE_15.kept hS.2.1).narrow hFc), va_T.moved hW.alike (by rw [hU]; exact (hE_16.kept hS.2.1).narrow hFc), vk_R.warm hW hE_17, va_OF.moved hW.alike (by rw [hU]; exact (hE_20.kept hS.2.1).narrow hFc), va_T.moved hW.alike (by rw [hU]; exact (hE_21.kept hS.2.1).narrow hFc), va_OF.moved hW.alike (by rw [hU]; exact (hE_19.kept hS.2.1).narrow hFc), va_O.moved hW.alike (by rw [hU]; exact (hE_18.kept hS.2.1).narrow hFc), va_Z.moved hW.alike (by rw [hU]; exact (hE_6.kept hS.2.1).narrow hFc), va_Z.moved hW.alike (by rw [hU]; exact (hE_0.kept hS.2.1).narrow hFc), va_T.moved hW.alike (by rw [hU]; exact (hE_1.kept hS.2.1).narrow hFc), va_T.moved hW.alike (by rw [hU]; exact (hE_7.kept hS.2.1).narrow hFc), vk_R.warm hW hE_22, va_OF.moved hW.alike (by rw [hU]; exact (hE_25.kept hS.2.1).narrow hFc), va_T.moved hW.alike (by rw [hU]; exact (hE_26.kept hS.2.1).narrow hFc), va_OF.moved hW.alike (by rw [hU]; exact (hE_24.kept hS.2.1).narrow hFc), va_O.moved hW.alike (by rw [hU]; exact (hE_23.kept hS.2.1).narrow hFc), vk_R.warm hW hE_27, va_OF.moved hW.alike (by rw [hU]; exact (hE_30.kept hS.2.1).narrow hFc), va_T.moved hW.alike (by rw [hU]; exact (hE_31.kept hS.2.1).narrow hFc), va_OF.moved hW.alike (by rw [hU]; exact (hE_29.kept hS.2.1).narrow hFc), va_O.moved hW.alike (by rw [hU]; exact (hE_28.kept hS.2.1).narrow hFc), va_Z.moved hW.alike (by rw [hU]; exact (hE_2.kept hS.2.1).narrow hFc), va_T.moved hW.alike (by rw [hU]; exact (hE_3.kept hS.2.1).narrow hFc), va_Z.moved hW.alike (by rw [hU]; exact (hE_4.kept hS.2.1).narrow hFc), va_T.moved hW.alike (by rw [hU]; exact (hE_5.kept hS.2.1).narrow hFc)⟩⟩ rfl rfl hl.1 rfl (lv_room (Nat.le_of_ble_eq_true rfl)) dX0_faultOf_36 ⟨Nat.le_of_ble_eq_true rfl, Nat.le_of_ble_eq_true rfl⟩) hS (fun q _ h => hFc q h) hFc (fun u t H1 locs ht hvm hw hB hz1 hk1 hS => ?_)
        obtain ⟨x_38, x_39, x_40, x_41, x_42, w_43⟩ := u
        obtain ⟨hP1, hK1, hD1⟩ := hB
        rw [ht] at hP1
        obtain ⟨hP, hD⟩ := cl_put (w1 := (wd_c_X0_readClause h1 h1_0 h1_f1 x_38 x_39 h1_0 h1_0k h1_0c h0 h0_0 x_40 x_41 x_42 h0_0 h0_0k w_43)) (nw := (wd_c_X0_faultOf h0 h0_0 x_40 x_41 x_42 h0_0 h0_0k w_43 h1 h1_0 h1_f1 x_38 x_39 h1_0 h1_0k h1_0c)) hP hD [2, 3, 0, 1] [6, 7, 4, 5] 4 rfl hqc (by decide +kernel) rfl hk1 hFc hP1 hD1
        generalize H1 = H at hP hS ⊢
        as_aux_lemma =>
        rcases hw with ⟨h_44, h_45, h_46, h_47, h_48, h_49, h_50⟩
        have h_50 : (x_38, x_39, x_40, x_41, x_42, w_43) = _ := h_50
        replace hEX := hEX.trans (exc6_eq h_50)
        refine lv_aload_n hx hb dX0_faultOf_39 rfl (lv_at hl 2 rfl) ?_
        refine lv_bipush (v := 59) hx hb dX0_faultOf_40 kc_bipush_59 ?_
        obtain ⟨hPc, hDc, hFc, hqc⟩ := cl_cut (wc := (wd_c_X9_take h1 h1_0 h1_f1 x_38 x_39 h1_0 h1_0k h1_0c)) hP hD hS hA [2, 3] (by decide +kernel) rfl
        have hKc := hK.sub (tys' := [(h1_0k, .int)]) [1] rfl
        have hrv := va_recv hKc hPc (ci := 9) (q0 := 0) rfl rfl
        refine va_calli (va_runV (As := [.int 59]) (rest := []) ⟨hx, hb, hml, hown, hts⟩ (c_X9_take l dC dI H.size h1 59 h1_0 h1_f1 x_38 x_39 h1_0k h1_0c (RG_w (RG_k 59 59 rfl) (by decide +kernel)) g_h1_f1 h_44 h_45 a_h1_0c) (cwV 1 hts gf_c_X0_faultOf_c_X9_take rfl rfl rfl mdV_X9_take ⟨Nat.le_of_ble_eq_true rfl, Nat.le_of_ble_eq_true rfl⟩) ⟨fun a U g mk q => by obtain ⟨q0, q1, qP, qK, qD⟩ := q; exact ⟨q0, q1, qP, va_K.moved (u := U) (U := U.calling g mk a) (Vm.Alike.refl U.vm) qK, qD⟩, hrv, fun U hU hW => ⟨rfl, by rw [hU], by rw [hU]; exact hPc, va_K.moved hW.alike hKc, hDc.weaken (fun _ _ _ _ => trivial)⟩⟩ rfl rfl hl.1 rfl (lv_room (Nat.le_of_ble_eq_true rfl)) dX0_faultOf_42 ⟨Nat.le_of_ble_eq_true rfl, Nat.le_of_ble_eq_true rfl⟩) hS (fun q _ h => hFc q h) hFc (fun r_51 x_52 t H1 locs ht hvm hw hB hz1 hk1 hS => ?_)
        obtain ⟨hP1, hK1, hD1⟩ := hB
        rw [ht] at hP1
        obtain ⟨hP, hD⟩ := cl_put (w1 := (wd_c_X9_take h1 h1_0 h1_f1 x_52 x_39 h1_0 h1_0k h1_0c)) (nw := (wd_c_X0_faultOf h0 h0_0 x_40 x_41 x_42 h0_0 h0_0k w_43 h1 h1_0 h1_f1 x_52 x_39 h1_0 h1_0k h1_0c)) hP hD [2, 3] [0, 1, 4, 5] 4 rfl hqc (by decide +kernel) rfl hk1 hFc hP1 hD1
        generalize H1 = H at hP hS ⊢
        as_aux_lemma =>
        rcases hw with ⟨h_53, h_54, h_55, h_56⟩ | ⟨h_57, h_58, h_59, h_60, h_61, h_62⟩
        · have h_56 : (r_51, x_52) = _ := h_56
          replace hEX := hEX.trans (exc2_eq h_56)
          replace hEX := hEX.trans (if_pos (show r_51 = 0 from h_53))
          rw [h_53]
          refine lv_if_ne (tgt := 51) hx hb dX0_faultOf_45 rfl (fun c_63 => absurd c_63 (by decide +kernel)) (fun c_63 => ?_)
          refine lv_goto (tgt := 57) hx hb dX0_faultOf_48 rfl ?_
          exact hU _ _ _ (J57 x_40 x_41 x_42 w_43 x_52 x_39 g_h0_f1 g_h0_f2 g_h0_f3 g_h1_f1 g_h1_f2 g_h1_f3 h_46 h_47 h_48 h_54 h_45 h_49 hEX _ _ _ hP hD hS (lv_sub hl [1, 2] rfl))
        · have h_62 : (r_51, x_52) = _ := h_62
          replace hEX := hEX.trans (exc2_eq h_62)
          replace hEX := hEX.trans (if_neg (fun q9 : r_51 = 0 => absurd ((show r_51 = 1 from h_57).symm.trans q9) (by decide +kernel)))
          rw [h_57]
          refine lv_if_ne (tgt := 51) hx hb dX0_faultOf_45 rfl (fun c_64 => ?_) (fun c_64 => absurd c_64 (by decide +kernel))
          obtain ⟨x_65, ex_65⟩ : ∃ y : Int32, y = j27_l2 + 1 := ⟨_, rfl⟩
          have g_66 : RG x_65 1 240 := RG_add ex_65 g_36 (RG_k 1 1 rfl) (by decide +kernel)
          replace hEX := hEX.trans (exl_eq ex_65)
          refine lv_iinc (v := x_65) (lv' := [(2, .int x_65), (0, .ref h0), (1, .ref h1)]) hx hb dX0_faultOf_51 hl (k := 0) rfl (by rw [ex_65]; rfl) (Nat.le_of_ble_eq_true rfl) rfl (fun ls hl => ?_)
          as_aux_lemma =>
          refine lv_goto (tgt := 27) hx hb dX0_faultOf_54 rfl ?_
          exact hU _ _ _ (ih27 x_65 x_40 x_41 x_42 w_43 x_52 x_39 (mu_s (MU_add ex_65 g_36 (q := 1) rfl (by decide +kernel)) hM27) g_h0_f1 g_h0_f2 g_h0_f3 (RG_w h_59 (by decide +kernel)) g_h1_f2 g_h1_f3 h_46 h_47 h_48 (RG_w h_58 (by decide +kernel)) h_60 (RG_w g_66 (by decide +kernel)) h_49 hEX _ _ _ hP hD hS (lv_sub hl [0, 1, 2] rfl))
  refine hG _ _ _ ?_
  refine lv_aload_n hx hb dX0_faultOf_0 rfl (lv_at hl 0 rfl) ?_
  refine lv_iconst (v := 0) hx hb dX0_faultOf_1 kc_iconst_0 ?_
  refine va_put (D := (dC, dI)) (ci := 0) (v := .int 0) (ty := .int) (C := RX0) (T := TX0) (N := 4) hx hb hts iw_c_X0_faultOf_X0 tyX0 tyX0_ok nmX0 hown hK hP hD hS 0 rfl rfl 1 (by decide +kernel) (hts (.fieldLink RX0 21 "BuoyVote$Borough" "buoys" "I") (List.mem_of_getElem? (i := 1) rfl)) (fun _ h9 => h9) rfl (by decide +kernel) rfl rfl (Nat.le_of_ble_eq_true rfl) dX0_faultOf_2 (fun H locs hP hD hS => ?_)
  have hP : va_P (dC, dI) vwCl (wd_c_X0_faultOf h0 h0_0 0 h0_f2 h0_f3 h0_0 h0_0k h0_0c h1 h1_0 h1_f1 h1_f2 h1_f3 h1_0 h1_0k h1_0c) H := hP
  have hD : va_D A (wd_c_X0_faultOf h0 h0_0 0 h0_f2 h0_f3 h0_0 h0_0k h0_0c h1 h1_0 h1_f1 h1_f2 h1_f3 h1_0 h1_0k h1_0c) := hD
  refine lv_aload_n hx hb dX0_faultOf_5 rfl (lv_at hl 0 rfl) ?_
  refine lv_iconst (v := 0) hx hb dX0_faultOf_6 kc_iconst_0 ?_
  refine va_put (D := (dC, dI)) (ci := 0) (v := .int 0) (ty := .int) (C := RX0) (T := TX0) (N := 4) hx hb hts iw_c_X0_faultOf_X0 tyX0 tyX0_ok nmX0 hown hK hP hD hS 0 rfl rfl 2 (by decide +kernel) (hts (.fieldLink RX0 25 "BuoyVote$Borough" "boats" "I") (List.mem_of_getElem? (i := 2) rfl)) (fun _ h9 => h9) rfl (by decide +kernel) rfl rfl (Nat.le_of_ble_eq_true rfl) dX0_faultOf_7 (fun H locs hP hD hS => ?_)
  have hP : va_P (dC, dI) vwCl (wd_c_X0_faultOf h0 h0_0 0 0 h0_f3 h0_0 h0_0k h0_0c h1 h1_0 h1_f1 h1_f2 h1_f3 h1_0 h1_0k h1_0c) H := hP
  have hD : va_D A (wd_c_X0_faultOf h0 h0_0 0 0 h0_f3 h0_0 h0_0k h0_0c h1 h1_0 h1_f1 h1_f2 h1_f3 h1_0 h1_0k h1_0c) := hD
  refine lv_aload_n hx hb dX0_faultOf_10 rfl (lv_at hl 0 rfl) ?_
  as_aux_lemma =>
  refine lv_iconst (v := 0) hx hb dX0_faultOf_11 kc_iconst_0 ?_
  refine va_put (D := (dC, dI)) (ci := 0) (v := .int 0) (ty := .boolean) (C := RX0) (T := TX0) (N := 4) hx hb hts iw_c_X0_faultOf_X0 tyX0 tyX0_ok nmX0 hown hK hP hD hS 0 rfl rfl 3 (by decide +kernel) (hts (.fieldLink RX0 28 "BuoyVote$Borough" "ruled" "Z") (List.mem_of_getElem? (i := 3) rfl)) (fun _ h9 => h9) rfl (by decide +kernel) rfl rfl (Nat.le_of_ble_eq_true rfl) dX0_faultOf_12 (fun H locs hP hD hS => ?_)
  have hP : va_P (dC, dI) vwCl (wd_c_X0_faultOf h0 h0_0 0 0 0 h0_0 h0_0k h0_0c h1 h1_0 h1_f1 h1_f2 h1_f3 h1_0 h1_0k h1_0c) H := hP
  have hD : va_D A (wd_c_X0_faultOf h0 h0_0 0 0 0 h0_0 h0_0k h0_0c h1 h1_0 h1_f1 h1_f2 h1_f3 h1_0 h1_0k h1_0c) := hD
  refine lv_aload_n hx hb dX0_faultOf_15 rfl (lv_at hl 0 rfl) ?_
  refine lv_iconst (v := 0) hx hb dX0_faultOf_16 kc_iconst_0 ?_
  refine lv_iconst (v := 0) hx hb dX0_faultOf_17 kc_iconst_0 ?_
  obtain ⟨hPc, hDc, hFc, hqc⟩ := cl_cut (wc := (wd_c_X0_setUsual h0 h0_0 0 0 0 h0_0 h0_0k h0_0c)) hP hD hS hA [0, 1] (by decide +kernel) rfl
  have hKc := hK.sub (tys' := [(h0_0k, .int)]) [0] rfl
  have hrv := va_recv hKc hPc (ci := 0) (q0 := 0) rfl rfl
  refine va_callv (va_runV (As := [.int 0, .int 0]) (rest := []) ⟨hx, hb, hml, hown, hts⟩ (c_X0_setUsual l dC dI H.size h0 h0_0 0 0 0 h0_0k h0_0c ts1 tv1 ta3 ta0 (RG_w (RG_k 0 0 rfl) (by decide +kernel)) (RG_w (RG_k 0 0 rfl) (by decide +kernel)) (RG_w (RG_k 0 0 rfl) (by decide +kernel)) a_h0_0c) (cwV 2 hts gf_c_X0_faultOf_c_X0_setUsual rfl rfl rfl mdV_X0_setUsual ⟨Nat.le_of_ble_eq_true rfl, Nat.le_of_ble_eq_true rfl⟩) ⟨fun a U g mk q => by obtain ⟨q0, q1, qP, qK, qD, qE0, qE1, qE2, qE3, qE4, qE5, qE6, qE7, qE8, qE9⟩ := q; exact ⟨q0, q1, qP, va_K.moved (u := U) (U := U.calling g mk a) (Vm.Alike.refl U.vm) qK, qD, vk_R.same rfl qE0, va_OF.moved (u := U) (U := U.calling g mk a) (Vm.Alike.refl U.vm) qE1, va_T.moved (u := U) (U := U.calling g mk a) (Vm.Alike.refl U.vm) qE2, va_Z.moved (u := U) (U := U.calling g mk a) (Vm.Alike.refl U.vm) qE3, va_OF.moved (u := U) (U := U.calling g mk a) (Vm.Alike.refl U.vm) qE4, va_O.moved (u := U) (U := U.calling g mk a) (Vm.Alike.refl U.vm) qE5, va_Z.moved (u := U) (U := U.calling g mk a) (Vm.Alike.refl U.vm) qE6, va_Z.moved (u := U) (U := U.calling g mk a) (Vm.Alike.refl U.vm) qE7, va_T.moved (u := U) (U := U.calling g mk a) (Vm.Alike.refl U.vm) qE8, va_T.moved (u := U) (U := U.calling g mk a) (Vm.Alike.refl U.vm) qE9⟩, hrv, fun U hU hW => ⟨rfl, by rw [hU], by rw [hU]; exact hPc, va_K.moved hW.alike hKc, hDc.weaken (fun _ _ _ _ => trivial), vk_R.warm hW hE_17, va_OF.moved hW.alike (by rw [hU]; exact (hE_20.kept hS.2.1).narrow hFc), va_T.moved hW.alike (by rw [hU]; exact (hE_21.kept hS.2.1).narrow hFc), va_Z.moved hW.alike (by rw [hU]; exact (hE_10.kept hS.2.1).narrow hFc), va_OF.moved hW.alike (by rw [hU]; exact (hE_19.kept hS.2.1).narrow hFc), va_O.moved hW.alike (by rw [hU]; exact (hE_18.kept hS.2.1).narrow hFc), va_Z.moved hW.alike (by rw [hU]; exact (hE_6.kept hS.2.1).narrow hFc), va_Z.moved hW.alike (by rw [hU]; exact (hE_0.kept hS.2.1).narrow hFc), va_T.moved hW.alike (by rw [hU]; exact (hE_1.kept hS.2.1).narrow hFc), va_T.moved hW.alike (by rw [hU]; exact (hE_7.kept hS.2.1).narrow hFc)⟩⟩ rfl rfl hl.1 rfl (lv_room (Nat.le_of_ble_eq_true rfl)) dX0_faultOf_18 ⟨Nat.le_of_ble_eq_true rfl, Nat.le_of_ble_eq_true rfl⟩) hS (fun q _ h => hFc q h) hFc (fun w_68 t H1 locs ht hvm hw hB hz1 hk1 hS => ?_)
  obtain ⟨hP1, hK1, hD1⟩ := hB
  rw [ht] at hP1
  obtain ⟨hP, hD⟩ := cl_put (w1 := (wd_c_X0_setUsual h0 h0_0 0 0 0 h0_0 h0_0k w_68)) (nw := (wd_c_X0_faultOf h0 h0_0 0 0 0 h0_0 h0_0k w_68 h1 h1_0 h1_f1 h1_f2 h1_f3 h1_0 h1_0k h1_0c)) hP hD [0, 1] [4, 5, 2, 3] 4 rfl hqc (by decide +kernel) rfl hk1 hFc hP1 hD1
  generalize H1 = H at hP hS ⊢
  as_aux_lemma =>
  rcases hw with ⟨h_69, h_70⟩
  have h_70 : w_68 = _ := h_70
  replace hEX := hEX.trans (exc1_eq h_70)
  refine lv_aload_n hx hb dX0_faultOf_21 rfl (lv_at hl 1 rfl) ?_
  obtain ⟨hPc, hDc, hFc, hqc⟩ := cl_cut (wc := (wd_c_X9_rewind h1 h1_0 h1_f1 h1_f2 h1_f3)) hP hD hS hA [2] (by decide +kernel) rfl
  have hKc := hK.sub (tys' := []) [] rfl
  have hrv := va_recv hKc hPc (ci := 9) (q0 := 0) rfl rfl
  refine va_callv (va_runV (As := []) (rest := []) ⟨hx, hb, hml, hown, hts⟩ (c_X9_rewind l dC dI H.size h1 h1_0 h1_f1 h1_f2 h1_f3 g_h1_f1 g_h1_f2 g_h1_f3) (cwV 0 hts gf_c_X0_faultOf_c_X9_rewind rfl rfl rfl mdV_X9_rewind ⟨Nat.le_of_ble_eq_true rfl, Nat.le_of_ble_eq_true rfl⟩) ⟨fun a U g mk q => by obtain ⟨q0, q1, qP, qK, qD⟩ := q; exact ⟨q0, q1, qP, va_K.moved (u := U) (U := U.calling g mk a) (Vm.Alike.refl U.vm) qK, qD⟩, hrv, fun U hU hW => ⟨rfl, by rw [hU], by rw [hU]; exact hPc, va_K.moved hW.alike hKc, hDc.weaken (fun _ _ _ _ => trivial)⟩⟩ rfl rfl hl.1 rfl (lv_room (Nat.le_of_ble_eq_true rfl)) dX0_faultOf_22 ⟨Nat.le_of_ble_eq_true rfl, Nat.le_of_ble_eq_true rfl⟩) hS (fun q _ h => hFc q h) hFc (fun u t H1 locs ht hvm hw hB hz1 hk1 hS => ?_)
  obtain ⟨hP1, hK1, hD1⟩ := hB
  rw [ht] at hP1
  obtain ⟨hP, hD⟩ := cl_put (w1 := (wd_c_X9_rewind h1 h1_0 h1_f1 0 (-1))) (nw := (wd_c_X0_faultOf h0 h0_0 0 0 0 h0_0 h0_0k w_68 h1 h1_0 h1_f1 0 (-1) h1_0 h1_0k h1_0c)) hP hD [2] [0, 1, 4, 3] 4 rfl hqc (by decide +kernel) rfl hk1 hFc hP1 hD1
  generalize H1 = H at hP hS ⊢
  as_aux_lemma =>
  have h_72 := hw
  refine lv_iconst (v := 0) hx hb dX0_faultOf_25 kc_iconst_0 ?_
  refine lv_istore_n (lv' := [(2, .int 0), (0, .ref h0), (1, .ref h1)]) hx hb dX0_faultOf_26 rfl hl (Nat.le_of_ble_eq_true rfl) rfl (fun ls hl => ?_)
  exact hU _ _ _ (J27 exF 0 0 0 0 w_68 0 (-1) MU_F g_h0_f1 g_h0_f2 g_h0_f3 g_h1_f1 g_h1_f2 g_h1_f3 (RG_w (RG_k 0 0 rfl) (by decide +kernel)) (RG_w (RG_k 0 0 rfl) (by decide +kernel)) (RG_w (RG_k 0 0 rfl) (by decide +kernel)) (RG_w (RG_k 0 0 rfl) (by decide +kernel)) (RG_k (-1) (-1) rfl) (RG_w (RG_k 0 0 rfl) (by decide +kernel)) h_69 hEX _ _ _ hP hD hS (lv_sub hl [0, 1, 2] rfl))
noncomputable def wd_c_X5_spare (a0 : Nat) (a1 : Nat) (a2 : Int32) (a3 : Int32) (a4 : Nat) (a5 : Nat) (a6 : ClassId) (a7 : Nat → Option Nat) : va_W := [(a0, .inr (5, [.ref a1, .int a2, .int a3, .ref a4])), (a5, .inl (a6, 5, .inr (.inr (.inr (.inr a7)))))]
noncomputable def wf_c_X5_spare : List Cond := List.cons (.code yX5_spare cX5_spare 1 (some (.object "BuoyVote$Law"))) (@HAppend.hAppend (List Cond) (List Cond) (List Cond) _ [.fieldLink RX5 11 "BuoyVote$LawBook" "laws" "[LBuoyVote$Law;", .fieldLink RX5 26 "BuoyVote$LawBook" "size" "I"] wsX50)
theorem iw_c_X5_spare_X5 : ∀ w ∈ wsX50, w ∈ wf_c_X5_spare := fun w h => List.mem_cons_of_mem _ (List.mem_append_right _ h)
set_option maxHeartbeats 4000000 in
set_option maxRecDepth 100000 in
theorem c_X5_spare (l : Launch) (dC : Nat → ClassId) (dI : Nat → Nat → Nat) (sz : Nat) (h0 : Nat) (h0_0 : Nat) (h0_f1 : Int32) (h0_f2 : Int32) (h0_3 : Nat) (h0_0k : ClassId) (h0_0c : Nat → Option Nat) (h0_0_e0 : Nat) (h0_0_e1 : Nat) (h0_0_e2 : Nat) (h0_0_e3 : Nat) (h0_0_e4 : Nat) (g_h0_f1 : RG h0_f1 0 4) (e_h0_0_e0 : h0_0c 0 = some h0_0_e0) (e_h0_0_e1 : h0_0c 1 = some h0_0_e1) (e_h0_0_e2 : h0_0c 2 = some h0_0_e2) (e_h0_0_e3 : h0_0c 3 = some h0_0_e3) (e_h0_0_e4 : h0_0c 4 = some h0_0_e4) : Met l yX5_spare wf_c_X5_spare ({ frames := 0, cells := 0, slots := 0, locals := 0 }) (va_Pc [.ref h0] (fun U => U.heap.size = sz ∧ va_P (dC, dI) vwCl (wd_c_X5_spare h0 h0_0 h0_f1 h0_f2 h0_3 h0_0 h0_0k h0_0c) U.heap ∧ va_K (dC, dI) vwCl [(h0_0k, .object RX4)] U ∧ va_D (fun _ => True) (wd_c_X5_spare h0 h0_0 h0_f1 h0_f2 h0_3 h0_0 h0_0k h0_0c))) (va_Qr (fun (u : (Nat)) => (u = h0_0_e0 ∧ RG h0_f1 0 0) ∨ (u = h0_0_e1 ∧ RG h0_f1 1 1) ∨ (u = h0_0_e2 ∧ RG h0_f1 2 2) ∨ (u = h0_0_e3 ∧ RG h0_f1 3 3) ∨ (u = h0_0_e4 ∧ RG h0_f1 4 4)) (fun (u : (Nat)) (ra : Nat) t => ra = u ∧ va_P (dC, dI) vwCl (wd_c_X5_spare h0 h0_0 h0_f1 h0_f2 h0_3 h0_0 h0_0k h0_0c) t.heap ∧ va_K (dC, dI) vwCl [] t ∧ va_D (va_A (wd_c_X5_spare h0 h0_0 h0_f1 h0_f2 h0_3 h0_0 h0_0k h0_0c) sz) (wd_c_X5_spare h0 h0_0 h0_f1 h0_f2 h0_3 h0_0 h0_0k h0_0c)) (va_A (wd_c_X5_spare h0 h0_0 h0_f1 h0_f2 h0_3 h0_0 h0_0k h0_0c) sz)) 0 0 (va_A (wd_c_X5_spare h0 h0_0 h0_f1 h0_f2 h0_3 h0_0 h0_0k h0_0c) sz) := by
  refine Met.ofW (cc := cX5_spare) (maxL := 1) (ret := (some (.object "BuoyVote$Law"))) (by decide +kernel) rfl ?_
  intro p e s m args below meth c s₁ B hml hv
  obtain ⟨rfl, hsz, hP, hK, hD0⟩ := hv
  have hx := B.exec
  have hb := B.bytes
  have hr := B.returns
  have hts := atoms_spec (ws := wf_c_X5_spare) B.pre
  have hown : s.vm.findClass RX5 = some m.cls := findClass_of_methodNamed B.named
  have hlocks := B.notSynchronized
  subst hsz
  have hD := hD0.self (sz := s.heap.size)
  generalize hAe : va_A (wd_c_X5_spare h0 h0_0 h0_f1 h0_f2 h0_3 h0_0 h0_0k h0_0c) s.heap.size = A at hD ⊢
  have hA : ∀ q : Nat, s.heap.size ≤ q → A q := fun q h => by rw [← hAe]; exact Or.inr h
  have hP : va_P (dC, dI) vwCl (wd_c_X5_spare h0 h0_0 h0_f1 h0_f2 h0_3 h0_0 h0_0k h0_0c) s.heap := hP
  have hl := lv_entry ([.ref h0]) (n := 1) (Nat.le_of_ble_eq_true rfl)
  rw [lg_entry_eq]
  generalize (lg_sl ([.ref h0]) ++ List.replicate (1 - (lg_sl ([.ref h0])).length) Slot.unset).toArray = ls at hl ⊢
  have hl : lv_has ls 1 [(0, .ref h0)] := hl
  obtain ⟨H, hHe⟩ : ∃ H : Heap, s.heap = H := ⟨_, rfl⟩
  have hS : va_S A s.heap H [] := by rw [hHe]; exact va_S.rf
  have hP : va_P (dC, dI) vwCl (wd_c_X5_spare h0 h0_0 h0_f1 h0_f2 h0_3 h0_0 h0_0k h0_0c) H := by rw [← hHe]; exact hP
  rw [hHe]
  refine lv_aload_n hx hb dX5_spare_0 rfl (lv_at hl 0 rfl) ?_
  as_aux_lemma =>
  refine va_get (D := (dC, dI)) (ci := 5) (v := .ref h0_0) (C := RX5) (T := TX5) (N := 4) hx hb hts iw_c_X5_spare_X5 hown hK hP 0 rfl rfl 0 (by decide +kernel) (hts (.fieldLink RX5 11 "BuoyVote$LawBook" "laws" "[LBuoyVote$Law;") (List.mem_of_getElem? (i := 1) rfl)) (fun _ h9 => h9) rfl dX5_spare_1 ?_
  refine lv_aload_n hx hb dX5_spare_4 rfl (lv_at hl 0 rfl) ?_
  refine va_get (D := (dC, dI)) (ci := 5) (v := .int h0_f1) (C := RX5) (T := TX5) (N := 4) hx hb hts iw_c_X5_spare_X5 hown hK hP 0 rfl rfl 1 (by decide +kernel) (hts (.fieldLink RX5 26 "BuoyVote$LawBook" "size" "I") (List.mem_of_getElem? (i := 2) rfl)) (fun _ h9 => h9) rfl dX5_spare_5 ?_
  by_cases c_1 : h0_f1 = 0
  · refine W.eq (g2 := F0 m 8 ls [.int 0, .ref h0_0]) (by rw [c_1]) ?_
    have g_2 : RG h0_f1 0 0 := RG_k _ _ (by rw [c_1]; rfl)
    refine va_aldq hx hb hK hP 1 0 rfl rfl (by unfold vp_in; decide) dX5_spare_8 ?_
    rw [show h0_0c (0 : Int32).toNatClampNeg = some h0_0_e0 from e_h0_0_e0]
    refine W.eq (g2 := F0 m 9 ls [.ref h0_0_e0]) rfl ?_
    have hK9 := hK.sub (tys' := []) [] rfl
    exact W.aret (v := .ref h0_0_e0) hx hb hr (Or.inl ⟨_, rfl⟩) (Or.inr ⟨_, rfl⟩) (fun t ht hW => ⟨⟨h0_0_e0, h0_0_e0, rfl, (Or.inl ⟨rfl, g_2⟩), rfl, by rw [ht]; exact hP, va_K.moved hW.alike hK9, hD⟩, hS.F ht⟩) hS.2.2 dX5_spare_9
  by_cases c_3 : h0_f1 = 1
  · refine W.eq (g2 := F0 m 8 ls [.int 1, .ref h0_0]) (by rw [c_3]) ?_
    have g_4 : RG h0_f1 1 1 := RG_k _ _ (by rw [c_3]; rfl)
    refine va_aldq hx hb hK hP 1 0 rfl rfl (by unfold vp_in; decide) dX5_spare_8 ?_
    as_aux_lemma =>
    rw [show h0_0c (1 : Int32).toNatClampNeg = some h0_0_e1 from e_h0_0_e1]
    refine W.eq (g2 := F0 m 9 ls [.ref h0_0_e1]) rfl ?_
    have hK9 := hK.sub (tys' := []) [] rfl
    exact W.aret (v := .ref h0_0_e1) hx hb hr (Or.inl ⟨_, rfl⟩) (Or.inr ⟨_, rfl⟩) (fun t ht hW => ⟨⟨h0_0_e1, h0_0_e1, rfl, (Or.inr (Or.inl ⟨rfl, g_4⟩)), rfl, by rw [ht]; exact hP, va_K.moved hW.alike hK9, hD⟩, hS.F ht⟩) hS.2.2 dX5_spare_9
  by_cases c_5 : h0_f1 = 2
  · refine W.eq (g2 := F0 m 8 ls [.int 2, .ref h0_0]) (by rw [c_5]) ?_
    have g_6 : RG h0_f1 2 2 := RG_k _ _ (by rw [c_5]; rfl)
    refine va_aldq hx hb hK hP 1 0 rfl rfl (by unfold vp_in; decide) dX5_spare_8 ?_
    rw [show h0_0c (2 : Int32).toNatClampNeg = some h0_0_e2 from e_h0_0_e2]
    refine W.eq (g2 := F0 m 9 ls [.ref h0_0_e2]) rfl ?_
    have hK9 := hK.sub (tys' := []) [] rfl
    exact W.aret (v := .ref h0_0_e2) hx hb hr (Or.inl ⟨_, rfl⟩) (Or.inr ⟨_, rfl⟩) (fun t ht hW => ⟨⟨h0_0_e2, h0_0_e2, rfl, (Or.inr (Or.inr (Or.inl ⟨rfl, g_6⟩))), rfl, by rw [ht]; exact hP, va_K.moved hW.alike hK9, hD⟩, hS.F ht⟩) hS.2.2 dX5_spare_9
  by_cases c_7 : h0_f1 = 3
  · refine W.eq (g2 := F0 m 8 ls [.int 3, .ref h0_0]) (by rw [c_7]) ?_
    have g_8 : RG h0_f1 3 3 := RG_k _ _ (by rw [c_7]; rfl)
    refine va_aldq hx hb hK hP 1 0 rfl rfl (by unfold vp_in; decide) dX5_spare_8 ?_
    as_aux_lemma =>
    rw [show h0_0c (3 : Int32).toNatClampNeg = some h0_0_e3 from e_h0_0_e3]
    refine W.eq (g2 := F0 m 9 ls [.ref h0_0_e3]) rfl ?_
    have hK9 := hK.sub (tys' := []) [] rfl
    exact W.aret (v := .ref h0_0_e3) hx hb hr (Or.inl ⟨_, rfl⟩) (Or.inr ⟨_, rfl⟩) (fun t ht hW => ⟨⟨h0_0_e3, h0_0_e3, rfl, (Or.inr (Or.inr (Or.inr (Or.inl ⟨rfl, g_8⟩)))), rfl, by rw [ht]; exact hP, va_K.moved hW.alike hK9, hD⟩, hS.F ht⟩) hS.2.2 dX5_spare_9
  by_cases c_9 : h0_f1 = 4
  · refine W.eq (g2 := F0 m 8 ls [.int 4, .ref h0_0]) (by rw [c_9]) ?_
    have g_10 : RG h0_f1 4 4 := RG_k _ _ (by rw [c_9]; rfl)
    refine va_aldq hx hb hK hP 1 0 rfl rfl (by unfold vp_in; decide) dX5_spare_8 ?_
    rw [show h0_0c (4 : Int32).toNatClampNeg = some h0_0_e4 from e_h0_0_e4]
    refine W.eq (g2 := F0 m 9 ls [.ref h0_0_e4]) rfl ?_
    have hK9 := hK.sub (tys' := []) [] rfl
    exact W.aret (v := .ref h0_0_e4) hx hb hr (Or.inl ⟨_, rfl⟩) (Or.inr ⟨_, rfl⟩) (fun t ht hW => ⟨⟨h0_0_e4, h0_0_e4, rfl, (Or.inr (Or.inr (Or.inr (Or.inr ⟨rfl, g_10⟩)))), rfl, by rw [ht]; exact hP, va_K.moved hW.alike hK9, hD⟩, hS.F ht⟩) hS.2.2 dX5_spare_9
  exfalso
  have zc_1 := lv_neT c_1 (a := 0) (by decide +kernel)
  have zc_3 := lv_neT c_3 (a := 1) (by decide +kernel)
  have zc_5 := lv_neT c_5 (a := 2) (by decide +kernel)
  have zc_7 := lv_neT c_7 (a := 3) (by decide +kernel)
  have zc_9 := lv_neT c_9 (a := 4) (by decide +kernel)
  have zg1 := (g_h0_f1).1
  have zg2 := (g_h0_f1).2
  omega
noncomputable def wd_c_X9_expect (a0 : Nat) (a1 : Nat) (a2 : Int32) (a3 : Int32) (a4 : Int32) (a5 : Nat) (a6 : ClassId) (a7 : Nat → Int32) : va_W := [(a0, .inr (9, [.ref a1, .int a2, .int a3, .int a4])), (a5, .inl (a6, 240, .inl a7))]
noncomputable def wf_c_X9_expect : List Cond := List.cons (.code yX9_expect cX9_expect 2 none) (@HAppend.hAppend (List Cond) (List Cond) (List Cond) _ [.fieldLink RX9 15 "BuoyVote$Tape" "wrong" "I", .methodLink RX9 29 yX9_peek, .instanceMethod yX9_peek, .selects RX9 yX9_peek yX9_peek, .initialized RX9, .code yX9_peek cX9_peek 1 (some .int), .fieldLink RX9 22 "BuoyVote$Tape" "at" "I", .fieldLink RX9 19 "BuoyVote$Tape" "length" "I", .fieldLink RX9 11 "BuoyVote$Tape" "bytes" "[I", .methodLink RX9 25 yX9_refuse, .instanceMethod yX9_refuse, .selects RX9 yX9_refuse yX9_refuse, .code yX9_refuse cX9_refuse 2 none] wsX90)
theorem iw_c_X9_expect_X9 : ∀ w ∈ wsX90, w ∈ wf_c_X9_expect := fun w h => List.mem_cons_of_mem _ (List.mem_append_right _ h)
set_option maxRecDepth 20000 in
theorem gf_c_X9_expect_c_X9_refuse : GoodIn wf_c_X9_expect (wsV RX9 25 RX9 yX9_refuse wf_c_X9_refuse) := goodIn_app (gi_l [10, 11, 12, 5] rfl rfl) (gi_cons (j := 13) rfl rfl (goodIn_app (gi_l [1] rfl rfl) (goodIn_sub iw_c_X9_expect_X9 gw_X9)))
set_option maxRecDepth 20000 in
theorem gf_c_X9_expect_c_X9_peek : GoodIn wf_c_X9_expect (wsV RX9 29 RX9 yX9_peek wf_c_X9_peek) := goodIn_app (gi_l [2, 3, 4, 5] rfl rfl) (gi_cons (j := 6) rfl rfl (goodIn_app (gi_l [7, 8, 9] rfl rfl) (goodIn_sub iw_c_X9_expect_X9 gw_X9)))
set_option maxHeartbeats 4000000 in
set_option maxRecDepth 100000 in
theorem c_X9_expect (l : Launch) (dC : Nat → ClassId) (dI : Nat → Nat → Nat) (sz : Nat) (h0 : Nat) (p1 : Int32) (h0_0 : Nat) (h0_f1 : Int32) (h0_f2 : Int32) (h0_f3 : Int32) (h0_0k : ClassId) (h0_0c : Nat → Int32) (g_p1 : RG p1 0 239) (g_h0_f1 : RG h0_f1 0 240) (g_h0_f2 : RG h0_f2 0 240) (g_h0_f3 : RG h0_f3 (-1) 240) (a_h0_0c : AI h0_0c 0 255) : Met l yX9_expect wf_c_X9_expect ({ frames := 1, cells := 0, slots := 0, locals := 21 }) (va_Pc [.ref h0, .int p1] (fun U => U.heap.size = sz ∧ va_P (dC, dI) vwCl (wd_c_X9_expect h0 h0_0 h0_f1 h0_f2 h0_f3 h0_0 h0_0k h0_0c) U.heap ∧ va_K (dC, dI) vwCl [(h0_0k, .int)] U ∧ va_D (fun _ => True) (wd_c_X9_expect h0 h0_0 h0_f1 h0_f2 h0_f3 h0_0 h0_0k h0_0c))) (va_Qv (fun (u : (Int32) × (Int32)) => (RG u.1 0 240 ∧ RG u.2 (-1) 240 ∧ h0_f2.toInt + 0 ≤ (u.1).toInt ∧ (u.1, u.2) = fx_c_X9_expect p1 h0_f1 h0_f2 h0_f3 h0_0c)) (fun (u : (Int32) × (Int32)) t => va_P (dC, dI) vwCl (wd_c_X9_expect h0 h0_0 h0_f1 (u.1) (u.2) h0_0 h0_0k h0_0c) t.heap ∧ va_K (dC, dI) vwCl [] t ∧ va_D (va_A (wd_c_X9_expect h0 h0_0 h0_f1 h0_f2 h0_f3 h0_0 h0_0k h0_0c) sz) (wd_c_X9_expect h0 h0_0 h0_f1 (u.1) (u.2) h0_0 h0_0k h0_0c)) (va_A (wd_c_X9_expect h0 h0_0 h0_f1 h0_f2 h0_f3 h0_0 h0_0k h0_0c) sz)) 0 0 (va_A (wd_c_X9_expect h0 h0_0 h0_f1 h0_f2 h0_f3 h0_0 h0_0k h0_0c) sz) := by
  refine Met.ofW (cc := cX9_expect) (maxL := 2) (ret := none) (by decide +kernel) rfl ?_
  intro p e s m args below meth c s₁ B hml hv
  obtain ⟨rfl, hsz, hP, hK, hD0⟩ := hv
  have hx := B.exec
  have hb := B.bytes
  have hr := B.returns
  have hts := atoms_spec (ws := wf_c_X9_expect) B.pre
  have hown : s.vm.findClass RX9 = some m.cls := findClass_of_methodNamed B.named
  have hlocks := B.notSynchronized
  subst hsz
  have hD := hD0.self (sz := s.heap.size)
  generalize hAe : va_A (wd_c_X9_expect h0 h0_0 h0_f1 h0_f2 h0_f3 h0_0 h0_0k h0_0c) s.heap.size = A at hD ⊢
  have hA : ∀ q : Nat, s.heap.size ≤ q → A q := fun q h => by rw [← hAe]; exact Or.inr h
  have hP : va_P (dC, dI) vwCl (wd_c_X9_expect h0 h0_0 h0_f1 h0_f2 h0_f3 h0_0 h0_0k h0_0c) s.heap := hP
  have hl := lv_entry ([.ref h0, .int p1]) (n := 2) (Nat.le_of_ble_eq_true rfl)
  rw [lg_entry_eq]
  generalize (lg_sl ([.ref h0, .int p1]) ++ List.replicate (2 - (lg_sl ([.ref h0, .int p1])).length) Slot.unset).toArray = ls at hl ⊢
  have hl : lv_has ls 2 [(0, .ref h0), (1, .int p1)] := hl
  obtain ⟨H, hHe⟩ : ∃ H : Heap, s.heap = H := ⟨_, rfl⟩
  have hS : va_S A s.heap H [] := by rw [hHe]; exact va_S.rf
  have hP : va_P (dC, dI) vwCl (wd_c_X9_expect h0 h0_0 h0_f1 h0_f2 h0_f3 h0_0 h0_0k h0_0c) H := by rw [← hHe]; exact hP
  rw [hHe]
  obtain ⟨RES, hR⟩ : ∃ z, fx_c_X9_expect p1 h0_f1 h0_f2 h0_f3 h0_0c = z := ⟨_, rfl⟩
  have hEX : RES = fx_c_X9_expect p1 h0_f1 h0_f2 h0_f3 h0_0c := hR.symm
  refine wj (fun G hG hU => ?_)
  as_aux_lemma =>
  have J29 : ∀ (j29_h0_f2 : Int32) (g_h0_f1 : RG h0_f1 0 240) (g_h0_f2 : RG h0_f2 0 240) (g_h0_f3 : RG h0_f3 (-1) 240) (g_j29_h0_f2 : RG j29_h0_f2 0 240) (g_p1 : RG p1 0 239) (r_h0_f2_j29_h0_f2 : h0_f2.toInt + 0 ≤ j29_h0_f2.toInt) (hEX : RES = fx_c_X9_expect_p29 h0_f3 j29_h0_f2) (H : Heap) (locs : List Loc) (ls : Array Slot) (hP : va_P (dC, dI) vwCl (wd_c_X9_expect h0 h0_0 h0_f1 j29_h0_f2 h0_f3 h0_0 h0_0k h0_0c) H) (hD : va_D A (wd_c_X9_expect h0 h0_0 h0_f1 j29_h0_f2 h0_f3 h0_0 h0_0k h0_0c)) (hS : va_S A s.heap H locs) (hl : lv_has ls 2 [(0, .ref h0)]), G H locs (F0 m 29 ls []) := by
    as_aux_lemma =>
    intro j29_h0_f2 g_h0_f1 g_h0_f2 g_h0_f3 g_j29_h0_f2 g_p1 r_h0_f2_j29_h0_f2 hEX H locs ls hP hD hS hl
    refine hG _ _ _ ?_
    refine lv_aload_n hx hb dX9_expect_29 rfl (lv_at hl 0 rfl) ?_
    refine lv_aload_n hx hb dX9_expect_30 rfl (lv_at hl 0 rfl) ?_
    refine va_get (D := (dC, dI)) (ci := 9) (v := .int j29_h0_f2) (C := RX9) (T := TX9) (N := 4) hx hb hts iw_c_X9_expect_X9 hown hK hP 0 rfl rfl 2 (by decide +kernel) (hts (.fieldLink RX9 22 "BuoyVote$Tape" "at" "I") (List.mem_of_getElem? (i := 7) rfl)) (fun _ h9 => h9) rfl dX9_expect_31 ?_
    obtain ⟨hPc, hDc, hFc, hqc⟩ := cl_cut (wc := (wd_c_X9_refuse h0 h0_0 h0_f1 j29_h0_f2 h0_f3)) hP hD hS hA [0] (by decide +kernel) rfl
    have hKc := hK.sub (tys' := []) [] rfl
    have hrv := va_recv hKc hPc (ci := 9) (q0 := 0) rfl rfl
    refine va_callv (va_runV (As := [.int j29_h0_f2]) (rest := []) ⟨hx, hb, hml, hown, hts⟩ (c_X9_refuse l dC dI H.size h0 j29_h0_f2 h0_0 h0_f1 j29_h0_f2 h0_f3 g_j29_h0_f2 g_h0_f1 g_j29_h0_f2 g_h0_f3) (cwV 1 hts gf_c_X9_expect_c_X9_refuse rfl rfl rfl mdV_X9_refuse ⟨Nat.le_of_ble_eq_true rfl, Nat.le_of_ble_eq_true rfl⟩) ⟨fun a U g mk q => by obtain ⟨q0, q1, qP, qK, qD⟩ := q; exact ⟨q0, q1, qP, va_K.moved (u := U) (U := U.calling g mk a) (Vm.Alike.refl U.vm) qK, qD⟩, hrv, fun U hU hW => ⟨rfl, by rw [hU], by rw [hU]; exact hPc, va_K.moved hW.alike hKc, hDc.weaken (fun _ _ _ _ => trivial)⟩⟩ rfl rfl hl.1 rfl (lv_room (Nat.le_of_ble_eq_true rfl)) dX9_expect_34 ⟨Nat.le_of_ble_eq_true rfl, Nat.le_of_ble_eq_true rfl⟩) hS (fun q _ h => hFc q h) hFc (fun x_2 t H1 locs ht hvm hw hB hz1 hk1 hS => ?_)
    obtain ⟨hP1, hK1, hD1⟩ := hB
    rw [ht] at hP1
    obtain ⟨hP, hD⟩ := cl_put (w1 := (wd_c_X9_refuse h0 h0_0 h0_f1 j29_h0_f2 x_2)) (nw := (wd_c_X9_expect h0 h0_0 h0_f1 j29_h0_f2 x_2 h0_0 h0_0k h0_0c)) hP hD [0] [2, 1] 2 rfl hqc (by decide +kernel) rfl hk1 hFc hP1 hD1
    generalize H1 = H at hP hS ⊢
    as_aux_lemma =>
    rcases hw with ⟨h_3, h_4⟩
    have h_4 : x_2 = _ := h_4
    replace hEX := hEX.trans (exc1_eq h_4)
    have hK9 := hK.sub (tys' := []) [] rfl
    exact W.vret hx hb hr (fun t ht hW => ⟨⟨(j29_h0_f2, x_2), rfl, ⟨g_j29_h0_f2, (RG_w h_3 (by decide +kernel)), (by have := r_h0_f2_j29_h0_f2; show h0_f2.toInt + 0 ≤ j29_h0_f2.toInt; omega), (hR.trans hEX).symm⟩, by rw [ht]; exact hP, va_K.moved hW.alike hK9, hD⟩, hS.F ht⟩) hS.2.2 dX9_expect_37
  refine hG _ _ _ ?_
  refine lv_aload_n hx hb dX9_expect_0 rfl (lv_at hl 0 rfl) ?_
  refine va_get (D := (dC, dI)) (ci := 9) (v := .int h0_f3) (C := RX9) (T := TX9) (N := 4) hx hb hts iw_c_X9_expect_X9 hown hK hP 0 rfl rfl 3 (by decide +kernel) (hts (.fieldLink RX9 15 "BuoyVote$Tape" "wrong" "I") (List.mem_of_getElem? (i := 1) rfl)) (fun _ h9 => h9) rfl dX9_expect_1 ?_
  refine lv_iconst (v := (-1)) hx hb dX9_expect_4 kc_iconst_m1 ?_
  refine lv_icmp_ne (tgt := 29) hx hb dX9_expect_5 rfl (fun c_5 => ?_) (fun c_5 => ?_)
  · replace hEX := hEX.trans (if_neg c_5)
    have g_6 : RG h0_f3 0 240 := RG_ne1 g_h0_f3 (q := (-1)) rfl c_5 (by decide +kernel)
    exact hU _ _ _ (J29 h0_f2 g_h0_f1 g_h0_f2 (RG_w g_6 (by decide +kernel)) g_h0_f2 g_p1 (by omega) hEX _ _ _ hP hD hS (lv_sub hl [0] rfl))
  · replace hEX := hEX.trans (if_pos c_5)
    have g_7 : RG h0_f3 (-1) (-1) := RG_eq1 g_h0_f3 (RG_k (-1) (-1) rfl) c_5 (by decide +kernel)
    refine lv_aload_n hx hb dX9_expect_8 rfl (lv_at hl 0 rfl) ?_
    as_aux_lemma =>
    obtain ⟨hPc, hDc, hFc, hqc⟩ := cl_cut (wc := (wd_c_X9_peek h0 h0_0 h0_f1 h0_f2 h0_f3 h0_0 h0_0k h0_0c)) hP hD hS hA [0, 1] (by decide +kernel) rfl
    have hKc := hK.sub (tys' := [(h0_0k, .int)]) [0] rfl
    have hrv := va_recv hKc hPc (ci := 9) (q0 := 0) rfl rfl
    refine va_calli (va_runV (As := []) (rest := []) ⟨hx, hb, hml, hown, hts⟩ (c_X9_peek l dC dI H.size h0 h0_0 h0_f1 h0_f2 h0_f3 h0_0k h0_0c g_h0_f1 g_h0_f2 (RG_w g_7 (by decide +kernel)) a_h0_0c) (cwV 0 hts gf_c_X9_expect_c_X9_peek rfl rfl rfl mdV_X9_peek ⟨Nat.le_of_ble_eq_true rfl, Nat.le_of_ble_eq_true rfl⟩) ⟨fun a U g mk q => by obtain ⟨q0, q1, qP, qK, qD⟩ := q; exact ⟨q0, q1, qP, va_K.moved (u := U) (U := U.calling g mk a) (Vm.Alike.refl U.vm) qK, qD⟩, hrv, fun U hU hW => ⟨rfl, by rw [hU], by rw [hU]; exact hPc, va_K.moved hW.alike hKc, hDc.weaken (fun _ _ _ _ => trivial)⟩⟩ rfl rfl hl.1 rfl (lv_room (Nat.le_of_ble_eq_true rfl)) dX9_expect_9 ⟨Nat.le_of_ble_eq_true rfl, Nat.le_of_ble_eq_true rfl⟩) hS (fun q _ h => hFc q h) hFc (fun r_8 x_9 t H1 locs ht hvm hw hB hz1 hk1 hS => ?_)
    obtain ⟨hP1, hK1, hD1⟩ := hB
    rw [ht] at hP1
    obtain ⟨hP, hD⟩ := cl_put (w1 := (wd_c_X9_peek h0 h0_0 h0_f1 x_9 h0_f3 h0_0 h0_0k h0_0c)) (nw := (wd_c_X9_expect h0 h0_0 h0_f1 x_9 h0_f3 h0_0 h0_0k h0_0c)) hP hD [0, 1] [2, 3] 2 rfl hqc (by decide +kernel) rfl hk1 hFc hP1 hD1
    generalize H1 = H at hP hS ⊢
    as_aux_lemma =>
    rcases hw with ⟨h_10, h_11, h_12, h_13⟩ | ⟨h_14, h_15, h_16, h_17, h_18⟩
    · have h_13 : (r_8, x_9) = _ := h_13
      replace hEX := hEX.trans (exc2_eq h_13)
      replace hEX := hEX.trans (if_pos (show r_8 = (-1) from h_10))
      rw [h_10]
      refine lv_iload_n hx hb dX9_expect_12 rfl (lv_at hl 1 rfl) ?_
      refine lv_icmp_ne (tgt := 29) hx hb dX9_expect_13 rfl (fun c_19 => ?_) (fun c_19 => ?_)
      · replace hEX := hEX.trans (if_neg c_19)
        exact hU _ _ _ (J29 x_9 g_h0_f1 g_h0_f2 (RG_w g_7 (by decide +kernel)) h_11 g_p1 (by have := h_12; omega) hEX _ _ _ hP hD hS (lv_sub hl [0] rfl))
      · replace hEX := hEX.trans (if_pos c_19)
        exact RG_dead (RG_eq1 (RG_k (-1) (-1) rfl) g_p1 c_19 (a' := 0) (b' := (-1)) (by decide +kernel)) (by decide +kernel)
    · have h_18 : (r_8, x_9) = _ := h_18
      replace hEX := hEX.trans (exc2_eq h_18)
      replace hEX := hEX.trans (if_neg (RG_neq (x := r_8) (c := (-1)) (show RG r_8 0 255 from h_14) (by decide +kernel)))
      refine lv_iload_n hx hb dX9_expect_12 rfl (lv_at hl 1 rfl) ?_
      as_aux_lemma =>
      refine lv_icmp_ne (tgt := 29) hx hb dX9_expect_13 rfl (fun c_20 => ?_) (fun c_20 => ?_)
      · replace hEX := hEX.trans (if_neg c_20)
        exact hU _ _ _ (J29 x_9 (RG_w h_16 (by decide +kernel)) g_h0_f2 (RG_w g_7 (by decide +kernel)) (RG_w h_15 (by decide +kernel)) g_p1 (by have := h_17; omega) hEX _ _ _ hP hD hS (lv_sub hl [0] rfl))
      · replace hEX := hEX.trans (if_pos c_20)
        have g_21 : RG r_8 0 239 := RG_eq1 h_14 g_p1 c_20 (by decide +kernel)
        refine lv_aload_n hx hb dX9_expect_16 rfl (lv_at hl 0 rfl) ?_
        refine lv_dup hx hb dX9_expect_17 rfl ?_
        refine va_get (D := (dC, dI)) (ci := 9) (v := .int x_9) (C := RX9) (T := TX9) (N := 4) hx hb hts iw_c_X9_expect_X9 hown hK hP 0 rfl rfl 2 (by decide +kernel) (hts (.fieldLink RX9 22 "BuoyVote$Tape" "at" "I") (List.mem_of_getElem? (i := 7) rfl)) (fun _ h9 => h9) rfl dX9_expect_18 ?_
        refine lv_iconst (v := 1) hx hb dX9_expect_21 kc_iconst_1 ?_
        refine lv_iadd hx hb dX9_expect_22 ?_
        refine lv_topi (fun x_22 ex_22 => ?_)
        replace hEX := hEX.trans (exl_eq ex_22)
        have g_23 : RG x_22 1 240 := RG_add ex_22 h_15 (RG_k 1 1 rfl) (by decide +kernel)
        have q_24 : x_22.toInt = x_9.toInt + 1 := eq_add ex_22 h_15 (q := 1) rfl (by decide +kernel)
        refine va_put (D := (dC, dI)) (ci := 9) (v := .int x_22) (ty := .int) (C := RX9) (T := TX9) (N := 4) hx hb hts iw_c_X9_expect_X9 tyX9 tyX9_ok nmX9 hown hK hP hD hS 0 rfl rfl 2 (by decide +kernel) (hts (.fieldLink RX9 22 "BuoyVote$Tape" "at" "I") (List.mem_of_getElem? (i := 7) rfl)) (fun _ h9 => h9) rfl (by decide +kernel) rfl rfl (Nat.le_of_ble_eq_true rfl) dX9_expect_23 (fun H locs hP hD hS => ?_)
        as_aux_lemma =>
        have hP : va_P (dC, dI) vwCl (wd_c_X9_expect h0 h0_0 h0_f1 x_22 h0_f3 h0_0 h0_0k h0_0c) H := hP
        have hD : va_D A (wd_c_X9_expect h0 h0_0 h0_f1 x_22 h0_f3 h0_0 h0_0k h0_0c) := hD
        refine lv_goto (tgt := 37) hx hb dX9_expect_26 rfl ?_
        have hK9 := hK.sub (tys' := []) [] rfl
        exact W.vret hx hb hr (fun t ht hW => ⟨⟨(x_22, h0_f3), rfl, ⟨(RG_w g_23 (by decide +kernel)), (RG_w g_7 (by decide +kernel)), (by have := h_17; have := q_24; show h0_f2.toInt + 0 ≤ x_22.toInt; omega), (hR.trans hEX).symm⟩, by rw [ht]; exact hP, va_K.moved hW.alike hK9, hD⟩, hS.F ht⟩) hS.2.2 dX9_expect_37
noncomputable def wd_c_X9_expect_1 (a0 : Nat) (a1 : Nat) (a2 : Int32) (a3 : Int32) (a4 : Int32) (a5 : Nat) (a6 : ClassId) (a7 : Nat → Int32) : va_W := [(a0, .inr (9, [.ref a1, .int a2, .int a3, .int a4])), (a5, .inl (a6, 240, .inl a7))]
noncomputable def wf_c_X9_expect_1 : List Cond := List.cons (.code yX9_expect cX9_expect 2 none) (@HAppend.hAppend (List Cond) (List Cond) (List Cond) _ [.fieldLink RX9 15 "BuoyVote$Tape" "wrong" "I", .methodLink RX9 29 yX9_peek, .instanceMethod yX9_peek, .selects RX9 yX9_peek yX9_peek, .initialized RX9, .code yX9_peek cX9_peek 1 (some .int), .fieldLink RX9 22 "BuoyVote$Tape" "at" "I", .fieldLink RX9 19 "BuoyVote$Tape" "length" "I", .fieldLink RX9 11 "BuoyVote$Tape" "bytes" "[I", .methodLink RX9 25 yX9_refuse, .instanceMethod yX9_refuse, .selects RX9 yX9_refuse yX9_refuse, .code yX9_refuse cX9_refuse 2 none] wsX90)
theorem iw_c_X9_expect_1_X9 : ∀ w ∈ wsX90, w ∈ wf_c_X9_expect_1 := fun w h => List.mem_cons_of_mem _ (List.mem_append_right _ h)
set_option maxRecDepth 20000 in
theorem gf_c_X9_expect_1_c_X9_refuse : GoodIn wf_c_X9_expect_1 (wsV RX9 25 RX9 yX9_refuse wf_c_X9_refuse) := goodIn_app (gi_l [10, 11, 12, 5] rfl rfl) (gi_cons (j := 13) rfl rfl (goodIn_app (gi_l [1] rfl rfl) (goodIn_sub iw_c_X9_expect_1_X9 gw_X9)))
set_option maxRecDepth 20000 in
theorem gf_c_X9_expect_1_c_X9_peek : GoodIn wf_c_X9_expect_1 (wsV RX9 29 RX9 yX9_peek wf_c_X9_peek) := goodIn_app (gi_l [2, 3, 4, 5] rfl rfl) (gi_cons (j := 6) rfl rfl (goodIn_app (gi_l [7, 8, 9] rfl rfl) (goodIn_sub iw_c_X9_expect_1_X9 gw_X9)))
set_option maxHeartbeats 4000000 in
set_option maxRecDepth 100000 in
theorem c_X9_expect_1 (l : Launch) (dC : Nat → ClassId) (dI : Nat → Nat → Nat) (sz : Nat) (h0 : Nat) (p1 : Int32) (h0_0 : Nat) (h0_f1 : Int32) (h0_f2 : Int32) (h0_f3 : Int32) (h0_0k : ClassId) (h0_0c : Nat → Int32) (g_p1 : RG p1 0 60) (g_h0_f1 : RG h0_f1 0 240) (g_h0_f2 : RG h0_f2 0 240) (g_h0_f3 : RG h0_f3 (-1) 240) (a_h0_0c : AI h0_0c 0 255) : Met l yX9_expect wf_c_X9_expect_1 ({ frames := 1, cells := 0, slots := 0, locals := 21 }) (va_Pc [.ref h0, .int p1] (fun U => U.heap.size = sz ∧ va_P (dC, dI) vwCl (wd_c_X9_expect_1 h0 h0_0 h0_f1 h0_f2 h0_f3 h0_0 h0_0k h0_0c) U.heap ∧ va_K (dC, dI) vwCl [(h0_0k, .int)] U ∧ va_D (fun _ => True) (wd_c_X9_expect_1 h0 h0_0 h0_f1 h0_f2 h0_f3 h0_0 h0_0k h0_0c))) (va_Qv (fun (u : (Int32) × (Int32)) => (RG u.1 0 240 ∧ RG u.2 (-1) 240 ∧ h0_f2.toInt + 0 ≤ (u.1).toInt ∧ (u.1, u.2) = fx_c_X9_expect_1 p1 h0_f1 h0_f2 h0_f3 h0_0c)) (fun (u : (Int32) × (Int32)) t => va_P (dC, dI) vwCl (wd_c_X9_expect_1 h0 h0_0 h0_f1 (u.1) (u.2) h0_0 h0_0k h0_0c) t.heap ∧ va_K (dC, dI) vwCl [] t ∧ va_D (va_A (wd_c_X9_expect_1 h0 h0_0 h0_f1 h0_f2 h0_f3 h0_0 h0_0k h0_0c) sz) (wd_c_X9_expect_1 h0 h0_0 h0_f1 (u.1) (u.2) h0_0 h0_0k h0_0c)) (va_A (wd_c_X9_expect_1 h0 h0_0 h0_f1 h0_f2 h0_f3 h0_0 h0_0k h0_0c) sz)) 0 0 (va_A (wd_c_X9_expect_1 h0 h0_0 h0_f1 h0_f2 h0_f3 h0_0 h0_0k h0_0c) sz) := by
  refine Met.ofW (cc := cX9_expect) (maxL := 2) (ret := none) (by decide +kernel) rfl ?_
  intro p e s m args below meth c s₁ B hml hv
  obtain ⟨rfl, hsz, hP, hK, hD0⟩ := hv
  have hx := B.exec
  have hb := B.bytes
  have hr := B.returns
  have hts := atoms_spec (ws := wf_c_X9_expect_1) B.pre
  have hown : s.vm.findClass RX9 = some m.cls := findClass_of_methodNamed B.named
  have hlocks := B.notSynchronized
  subst hsz
  have hD := hD0.self (sz := s.heap.size)
  generalize hAe : va_A (wd_c_X9_expect_1 h0 h0_0 h0_f1 h0_f2 h0_f3 h0_0 h0_0k h0_0c) s.heap.size = A at hD ⊢
  have hA : ∀ q : Nat, s.heap.size ≤ q → A q := fun q h => by rw [← hAe]; exact Or.inr h
  have hP : va_P (dC, dI) vwCl (wd_c_X9_expect_1 h0 h0_0 h0_f1 h0_f2 h0_f3 h0_0 h0_0k h0_0c) s.heap := hP
  have hl := lv_entry ([.ref h0, .int p1]) (n := 2) (Nat.le_of_ble_eq_true rfl)
  rw [lg_entry_eq]
  generalize (lg_sl ([.ref h0, .int p1]) ++ List.replicate (2 - (lg_sl ([.ref h0, .int p1])).length) Slot.unset).toArray = ls at hl ⊢
  have hl : lv_has ls 2 [(0, .ref h0), (1, .int p1)] := hl
  obtain ⟨H, hHe⟩ : ∃ H : Heap, s.heap = H := ⟨_, rfl⟩
  have hS : va_S A s.heap H [] := by rw [hHe]; exact va_S.rf
  have hP : va_P (dC, dI) vwCl (wd_c_X9_expect_1 h0 h0_0 h0_f1 h0_f2 h0_f3 h0_0 h0_0k h0_0c) H := by rw [← hHe]; exact hP
  rw [hHe]
  obtain ⟨RES, hR⟩ : ∃ z, fx_c_X9_expect_1 p1 h0_f1 h0_f2 h0_f3 h0_0c = z := ⟨_, rfl⟩
  have hEX : RES = fx_c_X9_expect_1 p1 h0_f1 h0_f2 h0_f3 h0_0c := hR.symm
  refine wj (fun G hG hU => ?_)
  as_aux_lemma =>
  have J29 : ∀ (j29_h0_f2 : Int32) (g_h0_f1 : RG h0_f1 0 240) (g_h0_f2 : RG h0_f2 0 240) (g_h0_f3 : RG h0_f3 (-1) 240) (g_j29_h0_f2 : RG j29_h0_f2 0 240) (g_p1 : RG p1 0 60) (r_h0_f2_j29_h0_f2 : h0_f2.toInt + 0 ≤ j29_h0_f2.toInt) (hEX : RES = fx_c_X9_expect_1_p29 h0_f3 j29_h0_f2) (H : Heap) (locs : List Loc) (ls : Array Slot) (hP : va_P (dC, dI) vwCl (wd_c_X9_expect_1 h0 h0_0 h0_f1 j29_h0_f2 h0_f3 h0_0 h0_0k h0_0c) H) (hD : va_D A (wd_c_X9_expect_1 h0 h0_0 h0_f1 j29_h0_f2 h0_f3 h0_0 h0_0k h0_0c)) (hS : va_S A s.heap H locs) (hl : lv_has ls 2 [(0, .ref h0)]), G H locs (F0 m 29 ls []) := by
    as_aux_lemma =>
    intro j29_h0_f2 g_h0_f1 g_h0_f2 g_h0_f3 g_j29_h0_f2 g_p1 r_h0_f2_j29_h0_f2 hEX H locs ls hP hD hS hl
    refine hG _ _ _ ?_
    refine lv_aload_n hx hb dX9_expect_29 rfl (lv_at hl 0 rfl) ?_
    refine lv_aload_n hx hb dX9_expect_30 rfl (lv_at hl 0 rfl) ?_
    refine va_get (D := (dC, dI)) (ci := 9) (v := .int j29_h0_f2) (C := RX9) (T := TX9) (N := 4) hx hb hts iw_c_X9_expect_1_X9 hown hK hP 0 rfl rfl 2 (by decide +kernel) (hts (.fieldLink RX9 22 "BuoyVote$Tape" "at" "I") (List.mem_of_getElem? (i := 7) rfl)) (fun _ h9 => h9) rfl dX9_expect_31 ?_
    obtain ⟨hPc, hDc, hFc, hqc⟩ := cl_cut (wc := (wd_c_X9_refuse h0 h0_0 h0_f1 j29_h0_f2 h0_f3)) hP hD hS hA [0] (by decide +kernel) rfl
    have hKc := hK.sub (tys' := []) [] rfl
    have hrv := va_recv hKc hPc (ci := 9) (q0 := 0) rfl rfl
    refine va_callv (va_runV (As := [.int j29_h0_f2]) (rest := []) ⟨hx, hb, hml, hown, hts⟩ (c_X9_refuse l dC dI H.size h0 j29_h0_f2 h0_0 h0_f1 j29_h0_f2 h0_f3 g_j29_h0_f2 g_h0_f1 g_j29_h0_f2 g_h0_f3) (cwV 1 hts gf_c_X9_expect_1_c_X9_refuse rfl rfl rfl mdV_X9_refuse ⟨Nat.le_of_ble_eq_true rfl, Nat.le_of_ble_eq_true rfl⟩) ⟨fun a U g mk q => by obtain ⟨q0, q1, qP, qK, qD⟩ := q; exact ⟨q0, q1, qP, va_K.moved (u := U) (U := U.calling g mk a) (Vm.Alike.refl U.vm) qK, qD⟩, hrv, fun U hU hW => ⟨rfl, by rw [hU], by rw [hU]; exact hPc, va_K.moved hW.alike hKc, hDc.weaken (fun _ _ _ _ => trivial)⟩⟩ rfl rfl hl.1 rfl (lv_room (Nat.le_of_ble_eq_true rfl)) dX9_expect_34 ⟨Nat.le_of_ble_eq_true rfl, Nat.le_of_ble_eq_true rfl⟩) hS (fun q _ h => hFc q h) hFc (fun x_2 t H1 locs ht hvm hw hB hz1 hk1 hS => ?_)
    obtain ⟨hP1, hK1, hD1⟩ := hB
    rw [ht] at hP1
    obtain ⟨hP, hD⟩ := cl_put (w1 := (wd_c_X9_refuse h0 h0_0 h0_f1 j29_h0_f2 x_2)) (nw := (wd_c_X9_expect_1 h0 h0_0 h0_f1 j29_h0_f2 x_2 h0_0 h0_0k h0_0c)) hP hD [0] [2, 1] 2 rfl hqc (by decide +kernel) rfl hk1 hFc hP1 hD1
    generalize H1 = H at hP hS ⊢
    as_aux_lemma =>
    rcases hw with ⟨h_3, h_4⟩
    have h_4 : x_2 = _ := h_4
    replace hEX := hEX.trans (exc1_eq h_4)
    have hK9 := hK.sub (tys' := []) [] rfl
    exact W.vret hx hb hr (fun t ht hW => ⟨⟨(j29_h0_f2, x_2), rfl, ⟨g_j29_h0_f2, (RG_w h_3 (by decide +kernel)), (by have := r_h0_f2_j29_h0_f2; show h0_f2.toInt + 0 ≤ j29_h0_f2.toInt; omega), (hR.trans hEX).symm⟩, by rw [ht]; exact hP, va_K.moved hW.alike hK9, hD⟩, hS.F ht⟩) hS.2.2 dX9_expect_37
  refine hG _ _ _ ?_
  refine lv_aload_n hx hb dX9_expect_0 rfl (lv_at hl 0 rfl) ?_
  refine va_get (D := (dC, dI)) (ci := 9) (v := .int h0_f3) (C := RX9) (T := TX9) (N := 4) hx hb hts iw_c_X9_expect_1_X9 hown hK hP 0 rfl rfl 3 (by decide +kernel) (hts (.fieldLink RX9 15 "BuoyVote$Tape" "wrong" "I") (List.mem_of_getElem? (i := 1) rfl)) (fun _ h9 => h9) rfl dX9_expect_1 ?_
  refine lv_iconst (v := (-1)) hx hb dX9_expect_4 kc_iconst_m1 ?_
  refine lv_icmp_ne (tgt := 29) hx hb dX9_expect_5 rfl (fun c_5 => ?_) (fun c_5 => ?_)
  · replace hEX := hEX.trans (if_neg c_5)
    have g_6 : RG h0_f3 0 240 := RG_ne1 g_h0_f3 (q := (-1)) rfl c_5 (by decide +kernel)
    exact hU _ _ _ (J29 h0_f2 g_h0_f1 g_h0_f2 (RG_w g_6 (by decide +kernel)) g_h0_f2 g_p1 (by omega) hEX _ _ _ hP hD hS (lv_sub hl [0] rfl))
  · replace hEX := hEX.trans (if_pos c_5)
    have g_7 : RG h0_f3 (-1) (-1) := RG_eq1 g_h0_f3 (RG_k (-1) (-1) rfl) c_5 (by decide +kernel)
    refine lv_aload_n hx hb dX9_expect_8 rfl (lv_at hl 0 rfl) ?_
    as_aux_lemma =>
    obtain ⟨hPc, hDc, hFc, hqc⟩ := cl_cut (wc := (wd_c_X9_peek h0 h0_0 h0_f1 h0_f2 h0_f3 h0_0 h0_0k h0_0c)) hP hD hS hA [0, 1] (by decide +kernel) rfl
    have hKc := hK.sub (tys' := [(h0_0k, .int)]) [0] rfl
    have hrv := va_recv hKc hPc (ci := 9) (q0 := 0) rfl rfl
    refine va_calli (va_runV (As := []) (rest := []) ⟨hx, hb, hml, hown, hts⟩ (c_X9_peek l dC dI H.size h0 h0_0 h0_f1 h0_f2 h0_f3 h0_0k h0_0c g_h0_f1 g_h0_f2 (RG_w g_7 (by decide +kernel)) a_h0_0c) (cwV 0 hts gf_c_X9_expect_1_c_X9_peek rfl rfl rfl mdV_X9_peek ⟨Nat.le_of_ble_eq_true rfl, Nat.le_of_ble_eq_true rfl⟩) ⟨fun a U g mk q => by obtain ⟨q0, q1, qP, qK, qD⟩ := q; exact ⟨q0, q1, qP, va_K.moved (u := U) (U := U.calling g mk a) (Vm.Alike.refl U.vm) qK, qD⟩, hrv, fun U hU hW => ⟨rfl, by rw [hU], by rw [hU]; exact hPc, va_K.moved hW.alike hKc, hDc.weaken (fun _ _ _ _ => trivial)⟩⟩ rfl rfl hl.1 rfl (lv_room (Nat.le_of_ble_eq_true rfl)) dX9_expect_9 ⟨Nat.le_of_ble_eq_true rfl, Nat.le_of_ble_eq_true rfl⟩) hS (fun q _ h => hFc q h) hFc (fun r_8 x_9 t H1 locs ht hvm hw hB hz1 hk1 hS => ?_)
    obtain ⟨hP1, hK1, hD1⟩ := hB
    rw [ht] at hP1
    obtain ⟨hP, hD⟩ := cl_put (w1 := (wd_c_X9_peek h0 h0_0 h0_f1 x_9 h0_f3 h0_0 h0_0k h0_0c)) (nw := (wd_c_X9_expect_1 h0 h0_0 h0_f1 x_9 h0_f3 h0_0 h0_0k h0_0c)) hP hD [0, 1] [2, 3] 2 rfl hqc (by decide +kernel) rfl hk1 hFc hP1 hD1
    generalize H1 = H at hP hS ⊢
    as_aux_lemma =>
    rcases hw with ⟨h_10, h_11, h_12, h_13⟩ | ⟨h_14, h_15, h_16, h_17, h_18⟩
    · have h_13 : (r_8, x_9) = _ := h_13
      replace hEX := hEX.trans (exc2_eq h_13)
      replace hEX := hEX.trans (if_pos (show r_8 = (-1) from h_10))
      rw [h_10]
      refine lv_iload_n hx hb dX9_expect_12 rfl (lv_at hl 1 rfl) ?_
      refine lv_icmp_ne (tgt := 29) hx hb dX9_expect_13 rfl (fun c_19 => ?_) (fun c_19 => ?_)
      · replace hEX := hEX.trans (if_neg c_19)
        exact hU _ _ _ (J29 x_9 g_h0_f1 g_h0_f2 (RG_w g_7 (by decide +kernel)) h_11 g_p1 (by have := h_12; omega) hEX _ _ _ hP hD hS (lv_sub hl [0] rfl))
      · replace hEX := hEX.trans (if_pos c_19)
        exact RG_dead (RG_eq1 (RG_k (-1) (-1) rfl) g_p1 c_19 (a' := 0) (b' := (-1)) (by decide +kernel)) (by decide +kernel)
    · have h_18 : (r_8, x_9) = _ := h_18
      replace hEX := hEX.trans (exc2_eq h_18)
      replace hEX := hEX.trans (if_neg (RG_neq (x := r_8) (c := (-1)) (show RG r_8 0 255 from h_14) (by decide +kernel)))
      refine lv_iload_n hx hb dX9_expect_12 rfl (lv_at hl 1 rfl) ?_
      as_aux_lemma =>
      refine lv_icmp_ne (tgt := 29) hx hb dX9_expect_13 rfl (fun c_20 => ?_) (fun c_20 => ?_)
      · replace hEX := hEX.trans (if_neg c_20)
        exact hU _ _ _ (J29 x_9 (RG_w h_16 (by decide +kernel)) g_h0_f2 (RG_w g_7 (by decide +kernel)) (RG_w h_15 (by decide +kernel)) g_p1 (by have := h_17; omega) hEX _ _ _ hP hD hS (lv_sub hl [0] rfl))
      · replace hEX := hEX.trans (if_pos c_20)
        have g_21 : RG r_8 0 60 := RG_eq1 h_14 g_p1 c_20 (by decide +kernel)
        refine lv_aload_n hx hb dX9_expect_16 rfl (lv_at hl 0 rfl) ?_
        refine lv_dup hx hb dX9_expect_17 rfl ?_
        refine va_get (D := (dC, dI)) (ci := 9) (v := .int x_9) (C := RX9) (T := TX9) (N := 4) hx hb hts iw_c_X9_expect_1_X9 hown hK hP 0 rfl rfl 2 (by decide +kernel) (hts (.fieldLink RX9 22 "BuoyVote$Tape" "at" "I") (List.mem_of_getElem? (i := 7) rfl)) (fun _ h9 => h9) rfl dX9_expect_18 ?_
        refine lv_iconst (v := 1) hx hb dX9_expect_21 kc_iconst_1 ?_
        refine lv_iadd hx hb dX9_expect_22 ?_
        refine lv_topi (fun x_22 ex_22 => ?_)
        replace hEX := hEX.trans (exl_eq ex_22)
        have g_23 : RG x_22 1 240 := RG_add ex_22 h_15 (RG_k 1 1 rfl) (by decide +kernel)
        have q_24 : x_22.toInt = x_9.toInt + 1 := eq_add ex_22 h_15 (q := 1) rfl (by decide +kernel)
        refine va_put (D := (dC, dI)) (ci := 9) (v := .int x_22) (ty := .int) (C := RX9) (T := TX9) (N := 4) hx hb hts iw_c_X9_expect_1_X9 tyX9 tyX9_ok nmX9 hown hK hP hD hS 0 rfl rfl 2 (by decide +kernel) (hts (.fieldLink RX9 22 "BuoyVote$Tape" "at" "I") (List.mem_of_getElem? (i := 7) rfl)) (fun _ h9 => h9) rfl (by decide +kernel) rfl rfl (Nat.le_of_ble_eq_true rfl) dX9_expect_23 (fun H locs hP hD hS => ?_)
        as_aux_lemma =>
        have hP : va_P (dC, dI) vwCl (wd_c_X9_expect_1 h0 h0_0 h0_f1 x_22 h0_f3 h0_0 h0_0k h0_0c) H := hP
        have hD : va_D A (wd_c_X9_expect_1 h0 h0_0 h0_f1 x_22 h0_f3 h0_0 h0_0k h0_0c) := hD
        refine lv_goto (tgt := 37) hx hb dX9_expect_26 rfl ?_
        have hK9 := hK.sub (tys' := []) [] rfl
        exact W.vret hx hb hr (fun t ht hW => ⟨⟨(x_22, h0_f3), rfl, ⟨(RG_w g_23 (by decide +kernel)), (RG_w g_7 (by decide +kernel)), (by have := h_17; have := q_24; show h0_f2.toInt + 0 ≤ x_22.toInt; omega), (hR.trans hEX).symm⟩, by rw [ht]; exact hP, va_K.moved hW.alike hK9, hD⟩, hS.F ht⟩) hS.2.2 dX9_expect_37
noncomputable def wf_c_X4_startsUnit : List Cond := .code yX4_startsUnit cX4_startsUnit 1 (some .boolean) :: ([])
set_option maxHeartbeats 4000000 in
set_option maxRecDepth 100000 in
theorem c_X4_startsUnit (l : Launch) (dC : Nat → ClassId) (dI : Nat → Nat → Nat) (sz : Nat) (p0 : Int32) (g_p0 : RG p0 (-1) (-1)) : Met l yX4_startsUnit wf_c_X4_startsUnit ({ frames := 0, cells := 0, slots := 0, locals := 0 }) (va_Pc [.int p0] (fun U => U.heap.size = sz ∧ va_P (dC, dI) vwCl [] U.heap ∧ va_K (dC, dI) vwCl [] U ∧ va_D (fun _ => True) [])) (va_Qi (fun (r : Int32) (u : Unit) => (r = 0 ∧ r = fx_c_X4_startsUnit p0)) (fun (u : Unit) t => va_P (dC, dI) vwCl [] t.heap ∧ va_K (dC, dI) vwCl [] t ∧ va_D (va_A [] sz) []) (va_A [] sz)) 0 0 (va_A [] sz) := by
  refine Met.ofW (cc := cX4_startsUnit) (maxL := 1) (ret := (some .boolean)) (by decide +kernel) rfl ?_
  intro p e s m args below meth c s₁ B hml hv
  obtain ⟨rfl, hsz, hP, hK, hD0⟩ := hv
  have hx := B.exec
  have hb := B.bytes
  have hr := B.returns
  have hts := atoms_spec (ws := wf_c_X4_startsUnit) B.pre
  have hown : s.vm.findClass RX4 = some m.cls := findClass_of_methodNamed B.named
  have hlocks := B.notSynchronized
  subst hsz
  have hD := hD0.self (sz := s.heap.size)
  generalize hAe : va_A [] s.heap.size = A at hD ⊢
  have hA : ∀ q : Nat, s.heap.size ≤ q → A q := fun q h => by rw [← hAe]; exact Or.inr h
  have hP : va_P (dC, dI) vwCl [] s.heap := hP
  have hl := lv_entry ([.int p0]) (n := 1) (Nat.le_of_ble_eq_true rfl)
  rw [lg_entry_eq]
  generalize (lg_sl ([.int p0]) ++ List.replicate (1 - (lg_sl ([.int p0])).length) Slot.unset).toArray = ls at hl ⊢
  have hl : lv_has ls 1 [(0, .int p0)] := hl
  obtain ⟨H, hHe⟩ : ∃ H : Heap, s.heap = H := ⟨_, rfl⟩
  have hS : va_S A s.heap H [] := by rw [hHe]; exact va_S.rf
  have hP : va_P (dC, dI) vwCl [] H := by rw [← hHe]; exact hP
  rw [hHe]
  obtain ⟨RES, hR⟩ : ∃ z, fx_c_X4_startsUnit p0 = z := ⟨_, rfl⟩
  have hEX : RES = fx_c_X4_startsUnit p0 := hR.symm
  refine lv_iload_n hx hb dX4_startsUnit_0 rfl (lv_at hl 0 rfl) ?_
  as_aux_lemma =>
  refine lv_bipush (v := 33) hx hb dX4_startsUnit_1 kc_bipush_33 ?_
  refine lv_icmp_eq (tgt := 12) hx hb dX4_startsUnit_3 rfl (fun c_1 => ?_) (fun c_1 => ?_)
  · replace hEX := hEX.trans (if_pos c_1)
    exact RG_dead (RG_eq1 g_p0 (RG_k 33 33 rfl) c_1 (a' := 33) (b' := (-1)) (by decide +kernel)) (by decide +kernel)
  · replace hEX := hEX.trans (if_neg c_1)
    refine lv_iload_n hx hb dX4_startsUnit_6 rfl (lv_at hl 0 rfl) ?_
    refine lv_bipush (v := 40) hx hb dX4_startsUnit_7 kc_bipush_40 ?_
    refine lv_icmp_ne (tgt := 16) hx hb dX4_startsUnit_9 rfl (fun c_2 => ?_) (fun c_2 => ?_)
    · replace hEX := hEX.trans (if_neg c_2)
      refine lv_iconst (v := 0) hx hb dX4_startsUnit_16 kc_iconst_0 ?_
      have hK9 := hK.sub (tys' := []) [] rfl
      exact W.zret (v := 0) hx hb hr rfl (fun t ht hW => ⟨⟨0, (), rfl, ⟨rfl, (hR.trans hEX).symm⟩, by rw [ht]; exact hP, va_K.moved hW.alike hK9, hD⟩, hS.F ht⟩) hS.2.2 dX4_startsUnit_17
    · replace hEX := hEX.trans (if_pos c_2)
      exact RG_dead (RG_eq1 g_p0 (RG_k 40 40 rfl) c_2 (a' := 40) (b' := (-1)) (by decide +kernel)) (by decide +kernel)
noncomputable def wf_c_X4_startsUnit_1 : List Cond := .code yX4_startsUnit cX4_startsUnit 1 (some .boolean) :: ([])
set_option maxHeartbeats 4000000 in
set_option maxRecDepth 100000 in
theorem c_X4_startsUnit_1 (l : Launch) (dC : Nat → ClassId) (dI : Nat → Nat → Nat) (sz : Nat) (p0 : Int32) (g_p0 : RG p0 0 255) : Met l yX4_startsUnit wf_c_X4_startsUnit_1 ({ frames := 0, cells := 0, slots := 0, locals := 0 }) (va_Pc [.int p0] (fun U => U.heap.size = sz ∧ va_P (dC, dI) vwCl [] U.heap ∧ va_K (dC, dI) vwCl [] U ∧ va_D (fun _ => True) [])) (va_Qi (fun (r : Int32) (u : Unit) => (r = 0 ∧ r = fx_c_X4_startsUnit_1 p0) ∨ (r = 1 ∧ RG p0 33 40 ∧ r = fx_c_X4_startsUnit_1 p0)) (fun (u : Unit) t => va_P (dC, dI) vwCl [] t.heap ∧ va_K (dC, dI) vwCl [] t ∧ va_D (va_A [] sz) []) (va_A [] sz)) 0 0 (va_A [] sz) := by
  refine Met.ofW (cc := cX4_startsUnit) (maxL := 1) (ret := (some .boolean)) (by decide +kernel) rfl ?_
  intro p e s m args below meth c s₁ B hml hv
  obtain ⟨rfl, hsz, hP, hK, hD0⟩ := hv
  have hx := B.exec
  have hb := B.bytes
  have hr := B.returns
  have hts := atoms_spec (ws := wf_c_X4_startsUnit_1) B.pre
  have hown : s.vm.findClass RX4 = some m.cls := findClass_of_methodNamed B.named
  have hlocks := B.notSynchronized
  subst hsz
  have hD := hD0.self (sz := s.heap.size)
  generalize hAe : va_A [] s.heap.size = A at hD ⊢
  have hA : ∀ q : Nat, s.heap.size ≤ q → A q := fun q h => by rw [← hAe]; exact Or.inr h
  have hP : va_P (dC, dI) vwCl [] s.heap := hP
  have hl := lv_entry ([.int p0]) (n := 1) (Nat.le_of_ble_eq_true rfl)
  rw [lg_entry_eq]
  generalize (lg_sl ([.int p0]) ++ List.replicate (1 - (lg_sl ([.int p0])).length) Slot.unset).toArray = ls at hl ⊢
  have hl : lv_has ls 1 [(0, .int p0)] := hl
  obtain ⟨H, hHe⟩ : ∃ H : Heap, s.heap = H := ⟨_, rfl⟩
  have hS : va_S A s.heap H [] := by rw [hHe]; exact va_S.rf
  have hP : va_P (dC, dI) vwCl [] H := by rw [← hHe]; exact hP
  rw [hHe]
  obtain ⟨RES, hR⟩ : ∃ z, fx_c_X4_startsUnit_1 p0 = z := ⟨_, rfl⟩
  have hEX : RES = fx_c_X4_startsUnit_1 p0 := hR.symm
  refine wj (fun G hG hU => ?_)
  as_aux_lemma =>
  have J12 : ∀ (g_p0 : RG p0 33 40) (hEX : RES = fx_c_X4_startsUnit_1_p12) (H : Heap) (locs : List Loc) (ls : Array Slot) (hP : va_P (dC, dI) vwCl [] H) (hD : va_D A []) (hS : va_S A s.heap H locs) (hl : lv_has ls 1 []), G H locs (F0 m 12 ls []) := by
    as_aux_lemma =>
    intro g_p0 hEX H locs ls hP hD hS hl
    refine hG _ _ _ ?_
    refine lv_iconst (v := 1) hx hb dX4_startsUnit_12 kc_iconst_1 ?_
    refine lv_goto (tgt := 17) hx hb dX4_startsUnit_13 rfl ?_
    have hK9 := hK.sub (tys' := []) [] rfl
    exact W.zret (v := 1) hx hb hr rfl (fun t ht hW => ⟨⟨1, (), rfl, (Or.inr ⟨rfl, g_p0, (hR.trans hEX).symm⟩), by rw [ht]; exact hP, va_K.moved hW.alike hK9, hD⟩, hS.F ht⟩) hS.2.2 dX4_startsUnit_17
  refine hG _ _ _ ?_
  refine lv_iload_n hx hb dX4_startsUnit_0 rfl (lv_at hl 0 rfl) ?_
  refine lv_bipush (v := 33) hx hb dX4_startsUnit_1 kc_bipush_33 ?_
  refine lv_icmp_eq (tgt := 12) hx hb dX4_startsUnit_3 rfl (fun c_1 => ?_) (fun c_1 => ?_)
  · replace hEX := hEX.trans (if_pos c_1)
    have g_2 : RG p0 33 33 := RG_eq1 g_p0 (RG_k 33 33 rfl) c_1 (by decide +kernel)
    exact hU _ _ _ (J12 (RG_w g_2 (by decide +kernel)) hEX _ _ _ hP hD hS (lv_sub hl [] rfl))
  · replace hEX := hEX.trans (if_neg c_1)
    refine lv_iload_n hx hb dX4_startsUnit_6 rfl (lv_at hl 0 rfl) ?_
    as_aux_lemma =>
    refine lv_bipush (v := 40) hx hb dX4_startsUnit_7 kc_bipush_40 ?_
    refine lv_icmp_ne (tgt := 16) hx hb dX4_startsUnit_9 rfl (fun c_3 => ?_) (fun c_3 => ?_)
    · replace hEX := hEX.trans (if_neg c_3)
      refine lv_iconst (v := 0) hx hb dX4_startsUnit_16 kc_iconst_0 ?_
      have hK9 := hK.sub (tys' := []) [] rfl
      exact W.zret (v := 0) hx hb hr rfl (fun t ht hW => ⟨⟨0, (), rfl, (Or.inl ⟨rfl, (hR.trans hEX).symm⟩), by rw [ht]; exact hP, va_K.moved hW.alike hK9, hD⟩, hS.F ht⟩) hS.2.2 dX4_startsUnit_17
    · replace hEX := hEX.trans (if_pos c_3)
      have g_4 : RG p0 40 40 := RG_eq1 g_p0 (RG_k 40 40 rfl) c_3 (by decide +kernel)
      exact hU _ _ _ (J12 (RG_w g_4 (by decide +kernel)) hEX _ _ _ hP hD hS (lv_sub hl [] rfl))
noncomputable def wf_c_J0_isLatin1_aae02_4 : List Cond := .code yJ0_isLatin1_aae02 cJ0_isLatin1_aae02 1 (some .boolean) :: ([.fieldLink RJ0 38 "java/lang/String" "COMPACT_STRINGS" "Z", .fieldLink RJ0 15 "java/lang/String" "coder" "B"])
set_option maxHeartbeats 4000000 in
set_option maxRecDepth 100000 in
theorem c_J0_isLatin1_aae02_4 (l : Launch) (dC : Nat → ClassId) (dI : Nat → Nat → Nat) (sz : Nat) (ts4 : Nat) : Met l yJ0_isLatin1_aae02 wf_c_J0_isLatin1_aae02_4 ({ frames := 0, cells := 0, slots := 0, locals := 0 }) (va_Pc [.ref ts4] (fun U => U.heap.size = sz ∧ va_P (dC, dI) vwCl [] U.heap ∧ va_K (dC, dI) vwCl [] U ∧ va_D (fun _ => True) [] ∧ va_Z "java/lang/String" "COMPACT_STRINGS" "Z" (.int 1) (va_A [] sz) U U.heap ∧ va_OF "java/lang/String" "coder" "B" (.int 0) ts4 (va_A [] sz) U U.heap)) (va_Qi (fun (r : Int32) (u : Unit) => (r = 1 ∧ r = fx_c_J0_isLatin1_aae02_4)) (fun (u : Unit) t => va_P (dC, dI) vwCl [] t.heap ∧ va_K (dC, dI) vwCl [] t ∧ va_D (va_A [] sz) []) (va_A [] sz)) 0 0 (va_A [] sz) := by
  refine Met.ofW (cc := cJ0_isLatin1_aae02) (maxL := 1) (ret := (some .boolean)) (by decide +kernel) rfl ?_
  intro p e s m args below meth c s₁ B hml hv
  obtain ⟨rfl, hsz, hP, hK, hD0, hE_10, hE_34⟩ := hv
  have hx := B.exec
  have hb := B.bytes
  have hr := B.returns
  have hts := atoms_spec (ws := wf_c_J0_isLatin1_aae02_4) B.pre
  have hown : s.vm.findClass RJ0 = some m.cls := findClass_of_methodNamed B.named
  have hlocks := B.notSynchronized
  subst hsz
  have hD := hD0.self (sz := s.heap.size)
  generalize hAe : va_A [] s.heap.size = A at hD hE_10 hE_34 ⊢
  have hA : ∀ q : Nat, s.heap.size ≤ q → A q := fun q h => by rw [← hAe]; exact Or.inr h
  have hP : va_P (dC, dI) vwCl [] s.heap := hP
  have hl := lv_entry ([.ref ts4]) (n := 1) (Nat.le_of_ble_eq_true rfl)
  rw [lg_entry_eq]
  generalize (lg_sl ([.ref ts4]) ++ List.replicate (1 - (lg_sl ([.ref ts4])).length) Slot.unset).toArray = ls at hl ⊢
  have hl : lv_has ls 1 [(0, .ref ts4)] := hl
  obtain ⟨H, hHe⟩ : ∃ H : Heap, s.heap = H := ⟨_, rfl⟩
  have hS : va_S A s.heap H [] := by rw [hHe]; exact va_S.rf
  have hP : va_P (dC, dI) vwCl [] H := by rw [← hHe]; exact hP
  rw [hHe]
  obtain ⟨RES, hR⟩ : ∃ z, fx_c_J0_isLatin1_aae02_4 = z := ⟨_, rfl⟩
  have hEX : RES = fx_c_J0_isLatin1_aae02_4 := hR.symm
  refine va_gets hx hb hE_10 hS hown (hts (.fieldLink RJ0 38 "java/lang/String" "COMPACT_STRINGS" "Z") (List.mem_of_getElem? (i := 1) rfl)) (fun _ h9 => h9) dJ0_isLatin1_aae02_0 ?_
  as_aux_lemma =>
  refine lv_if_eq (tgt := 17) hx hb dJ0_isLatin1_aae02_3 rfl (fun c_1 => absurd c_1 (by decide +kernel)) (fun c_1 => ?_)
  refine lv_aload_n hx hb dJ0_isLatin1_aae02_6 rfl (lv_at hl 0 rfl) ?_
  refine vk_getf hx hb hE_34 hS hown (hts (.fieldLink RJ0 15 "java/lang/String" "coder" "B") (List.mem_of_getElem? (i := 2) rfl)) (fun _ h9 => h9) dJ0_isLatin1_aae02_7 ?_
  refine lv_if_ne (tgt := 17) hx hb dJ0_isLatin1_aae02_10 rfl (fun c_2 => absurd c_2 (by decide +kernel)) (fun c_2 => ?_)
  refine lv_iconst (v := 1) hx hb dJ0_isLatin1_aae02_13 kc_iconst_1 ?_
  refine lv_goto (tgt := 18) hx hb dJ0_isLatin1_aae02_14 rfl ?_
  have hK9 := hK.sub (tys' := []) [] rfl
  exact W.zret (v := 1) hx hb hr rfl (fun t ht hW => ⟨⟨1, (), rfl, ⟨rfl, (hR.trans hEX).symm⟩, by rw [ht]; exact hP, va_K.moved hW.alike hK9, hD⟩, hS.F ht⟩) hS.2.2 dJ0_isLatin1_aae02_18
noncomputable def wf_c_J0_coder_7d493_4 : List Cond := .code yJ0_coder_7d493 cJ0_coder_7d493 1 (some .byte) :: ([.fieldLink RJ0 38 "java/lang/String" "COMPACT_STRINGS" "Z", .fieldLink RJ0 15 "java/lang/String" "coder" "B"])
set_option maxHeartbeats 4000000 in
set_option maxRecDepth 100000 in
theorem c_J0_coder_7d493_4 (l : Launch) (dC : Nat → ClassId) (dI : Nat → Nat → Nat) (sz : Nat) (ts4 : Nat) : Met l yJ0_coder_7d493 wf_c_J0_coder_7d493_4 ({ frames := 0, cells := 0, slots := 0, locals := 0 }) (va_Pc [.ref ts4] (fun U => U.heap.size = sz ∧ va_P (dC, dI) vwCl [] U.heap ∧ va_K (dC, dI) vwCl [] U ∧ va_D (fun _ => True) [] ∧ va_Z "java/lang/String" "COMPACT_STRINGS" "Z" (.int 1) (va_A [] sz) U U.heap ∧ va_OF "java/lang/String" "coder" "B" (.int 0) ts4 (va_A [] sz) U U.heap)) (va_Qi (fun (r : Int32) (u : Unit) => (r = 0 ∧ r = fx_c_J0_coder_7d493_4)) (fun (u : Unit) t => va_P (dC, dI) vwCl [] t.heap ∧ va_K (dC, dI) vwCl [] t ∧ va_D (va_A [] sz) []) (va_A [] sz)) 0 0 (va_A [] sz) := by
  refine Met.ofW (cc := cJ0_coder_7d493) (maxL := 1) (ret := (some .byte)) (by decide +kernel) rfl ?_
  intro p e s m args below meth c s₁ B hml hv
  obtain ⟨rfl, hsz, hP, hK, hD0, hE_10, hE_34⟩ := hv
  have hx := B.exec
  have hb := B.bytes
  have hr := B.returns
  have hts := atoms_spec (ws := wf_c_J0_coder_7d493_4) B.pre
  have hown : s.vm.findClass RJ0 = some m.cls := findClass_of_methodNamed B.named
  have hlocks := B.notSynchronized
  subst hsz
  have hD := hD0.self (sz := s.heap.size)
  generalize hAe : va_A [] s.heap.size = A at hD hE_10 hE_34 ⊢
  have hA : ∀ q : Nat, s.heap.size ≤ q → A q := fun q h => by rw [← hAe]; exact Or.inr h
  have hP : va_P (dC, dI) vwCl [] s.heap := hP
  have hl := lv_entry ([.ref ts4]) (n := 1) (Nat.le_of_ble_eq_true rfl)
  rw [lg_entry_eq]
  generalize (lg_sl ([.ref ts4]) ++ List.replicate (1 - (lg_sl ([.ref ts4])).length) Slot.unset).toArray = ls at hl ⊢
  have hl : lv_has ls 1 [(0, .ref ts4)] := hl
  obtain ⟨H, hHe⟩ : ∃ H : Heap, s.heap = H := ⟨_, rfl⟩
  have hS : va_S A s.heap H [] := by rw [hHe]; exact va_S.rf
  have hP : va_P (dC, dI) vwCl [] H := by rw [← hHe]; exact hP
  rw [hHe]
  obtain ⟨RES, hR⟩ : ∃ z, fx_c_J0_coder_7d493_4 = z := ⟨_, rfl⟩
  have hEX : RES = fx_c_J0_coder_7d493_4 := hR.symm
  refine va_gets hx hb hE_10 hS hown (hts (.fieldLink RJ0 38 "java/lang/String" "COMPACT_STRINGS" "Z") (List.mem_of_getElem? (i := 1) rfl)) (fun _ h9 => h9) dJ0_coder_7d493_0 ?_
  as_aux_lemma =>
  refine lv_if_eq (tgt := 13) hx hb dJ0_coder_7d493_3 rfl (fun c_1 => absurd c_1 (by decide +kernel)) (fun c_1 => ?_)
  refine lv_aload_n hx hb dJ0_coder_7d493_6 rfl (lv_at hl 0 rfl) ?_
  refine vk_getf hx hb hE_34 hS hown (hts (.fieldLink RJ0 15 "java/lang/String" "coder" "B") (List.mem_of_getElem? (i := 2) rfl)) (fun _ h9 => h9) dJ0_coder_7d493_7 ?_
  refine lv_goto (tgt := 14) hx hb dJ0_coder_7d493_10 rfl ?_
  have hK9 := hK.sub (tys' := []) [] rfl
  exact W.zret (v := 0) hx hb hr rfl (fun t ht hW => ⟨⟨0, (), rfl, ⟨rfl, (hR.trans hEX).symm⟩, by rw [ht]; exact hP, va_K.moved hW.alike hK9, hD⟩, hS.F ht⟩) hS.2.2 dJ0_coder_7d493_14
noncomputable def wf_c_J0_length_8abf5_4 : List Cond := .code yJ0_length_8abf5 cJ0_length_8abf5 1 (some .int) :: ([.fieldLink RJ0 9 "java/lang/String" "value" "[B", .methodLink RJ0 335 yJ0_coder_7d493, .instanceMethod yJ0_coder_7d493, .selects RJ0 yJ0_coder_7d493 yJ0_coder_7d493, .initialized RJ0, .code yJ0_coder_7d493 cJ0_coder_7d493 1 (some .byte), .fieldLink RJ0 38 "java/lang/String" "COMPACT_STRINGS" "Z", .fieldLink RJ0 15 "java/lang/String" "coder" "B"])
set_option maxRecDepth 20000 in
theorem gf_c_J0_length_8abf5_4_c_J0_coder_7d493_4 : GoodIn wf_c_J0_length_8abf5_4 (wsV RJ0 335 RJ0 yJ0_coder_7d493 wf_c_J0_coder_7d493_4) := goodIn_app (gi_l [2, 3, 4, 5] rfl rfl) (gi_cons (j := 6) rfl rfl (gi_l [7, 8] rfl rfl))
set_option maxHeartbeats 4000000 in
set_option maxRecDepth 100000 in
theorem c_J0_length_8abf5_4 (l : Launch) (dC : Nat → ClassId) (dI : Nat → Nat → Nat) (sz : Nat) (ts4 : Nat) (tv4 : Nat) : Met l yJ0_length_8abf5 wf_c_J0_length_8abf5_4 ({ frames := 1, cells := 0, slots := 0, locals := 20 }) (va_Pc [.ref ts4] (fun U => U.heap.size = sz ∧ va_P (dC, dI) vwCl [] U.heap ∧ va_K (dC, dI) vwCl [] U ∧ va_D (fun _ => True) [] ∧ va_OF "java/lang/String" "value" "[B" (.ref tv4) ts4 (va_A [] sz) U U.heap ∧ va_T .byte tv4 6 (fun j => .int ([118, 108, 114, 100, 112, 104].getD j 0)) (va_A [] sz) U U.heap ∧ va_Z "java/lang/String" "COMPACT_STRINGS" "Z" (.int 1) (va_A [] sz) U U.heap ∧ va_OF "java/lang/String" "coder" "B" (.int 0) ts4 (va_A [] sz) U U.heap ∧ va_O "java/lang/String" ts4 (va_A [] sz) U U.heap)) (va_Qi (fun (r : Int32) (u : Unit) => (r = 6 ∧ r = fx_c_J0_length_8abf5_4)) (fun (u : Unit) t => va_P (dC, dI) vwCl [] t.heap ∧ va_K (dC, dI) vwCl [] t ∧ va_D (va_A [] sz) []) (va_A [] sz)) 0 0 (va_A [] sz) := by
  refine Met.ofW (cc := cJ0_length_8abf5) (maxL := 1) (ret := (some .int)) (by decide +kernel) rfl ?_
  intro p e s m args below meth c s₁ B hml hv
  obtain ⟨rfl, hsz, hP, hK, hD0, hE_35, hE_36, hE_10, hE_34, hE_33⟩ := hv
  have hx := B.exec
  have hb := B.bytes
  have hr := B.returns
  have hts := atoms_spec (ws := wf_c_J0_length_8abf5_4) B.pre
  have hown : s.vm.findClass RJ0 = some m.cls := findClass_of_methodNamed B.named
  have hlocks := B.notSynchronized
  subst hsz
  have hD := hD0.self (sz := s.heap.size)
  generalize hAe : va_A [] s.heap.size = A at hD hE_35 hE_36 hE_10 hE_34 hE_33 ⊢
  have hA : ∀ q : Nat, s.heap.size ≤ q → A q := fun q h => by rw [← hAe]; exact Or.inr h
  have hP : va_P (dC, dI) vwCl [] s.heap := hP
  have hl := lv_entry ([.ref ts4]) (n := 1) (Nat.le_of_ble_eq_true rfl)
  rw [lg_entry_eq]
  generalize (lg_sl ([.ref ts4]) ++ List.replicate (1 - (lg_sl ([.ref ts4])).length) Slot.unset).toArray = ls at hl ⊢
  have hl : lv_has ls 1 [(0, .ref ts4)] := hl
  obtain ⟨H, hHe⟩ : ∃ H : Heap, s.heap = H := ⟨_, rfl⟩
  have hS : va_S A s.heap H [] := by rw [hHe]; exact va_S.rf
  have hP : va_P (dC, dI) vwCl [] H := by rw [← hHe]; exact hP
  rw [hHe]
  obtain ⟨RES, hR⟩ : ∃ z, fx_c_J0_length_8abf5_4 = z := ⟨_, rfl⟩
  have hEX : RES = fx_c_J0_length_8abf5_4 := hR.symm
  refine lv_aload_n hx hb dJ0_length_8abf5_0 rfl (lv_at hl 0 rfl) ?_
  as_aux_lemma =>
  refine vk_getf hx hb hE_35 hS hown (hts (.fieldLink RJ0 9 "java/lang/String" "value" "[B") (List.mem_of_getElem? (i := 1) rfl)) (fun _ h9 => h9) dJ0_length_8abf5_1 ?_
  refine va_tlen (v := 6) hx hb hE_36 hS rfl dJ0_length_8abf5_4 ?_
  refine lv_aload_n hx hb dJ0_length_8abf5_5 rfl (lv_at hl 0 rfl) ?_
  obtain ⟨hPc, hDc, hFc, hqc⟩ := cl_cut (wc := []) hP hD hS hA [] (by decide +kernel) rfl
  have hKc := hK.sub (tys' := []) [] rfl
  have hrv := bv_Orecv hE_33 hS
  refine va_calli (va_runV (As := []) (rest := [.int 6]) ⟨hx, hb, hml, hown, hts⟩ (c_J0_coder_7d493_4 l dC dI H.size ts4) (cwV 0 hts gf_c_J0_length_8abf5_4_c_J0_coder_7d493_4 rfl rfl rfl mdV_J0_coder_7d493 ⟨Nat.le_of_ble_eq_true rfl, Nat.le_of_ble_eq_true rfl⟩) ⟨fun a U g mk q => by obtain ⟨q0, q1, qP, qK, qD, qE0, qE1⟩ := q; exact ⟨q0, q1, qP, va_K.moved (u := U) (U := U.calling g mk a) (Vm.Alike.refl U.vm) qK, qD, va_Z.moved (u := U) (U := U.calling g mk a) (Vm.Alike.refl U.vm) qE0, va_OF.moved (u := U) (U := U.calling g mk a) (Vm.Alike.refl U.vm) qE1⟩, hrv, fun U hU hW => ⟨rfl, by rw [hU], by rw [hU]; exact hPc, va_K.moved hW.alike hKc, hDc.weaken (fun _ _ _ _ => trivial), va_Z.moved hW.alike (by rw [hU]; exact (hE_10.kept hS.2.1).narrow hFc), va_OF.moved hW.alike (by rw [hU]; exact (hE_34.kept hS.2.1).narrow hFc)⟩⟩ rfl rfl hl.1 rfl (lv_room (Nat.le_of_ble_eq_true rfl)) dJ0_length_8abf5_6 ⟨Nat.le_of_ble_eq_true rfl, Nat.le_of_ble_eq_true rfl⟩) hS (fun q _ h => hFc q h) hFc (fun r_1 u t H1 locs ht hvm hw hB hz1 hk1 hS => ?_)
  obtain ⟨hP1, hK1, hD1⟩ := hB
  rw [ht] at hP1
  have hP := bv_still hP hk1
  generalize H1 = H at hP hS ⊢
  as_aux_lemma =>
  rcases hw with ⟨h_2, h_3⟩
  have h_3 : r_1 = _ := h_3
  replace hEX := hEX.trans (exc1_eq h_3)
  rw [h_2]
  refine lv_ishr hx hb dJ0_length_8abf5_9 ?_
  refine lv_topi (fun x_4 ex_4 => ?_)
  obtain rfl : x_4 = 6 := ex_4.trans (by decide +kernel)
  have hK9 := hK.sub (tys' := []) [] rfl
  exact W.iret (v := 6) hx hb hr (fun t ht hW => ⟨⟨6, (), rfl, ⟨rfl, (hR.trans hEX).symm⟩, by rw [ht]; exact hP, va_K.moved hW.alike hK9, hD⟩, hS.F ht⟩) hS.2.2 dJ0_length_8abf5_10
noncomputable def wf_c_J1_indexOfChar_4cfef_4 : List Cond := .code yJ1_indexOfChar_4cfef cJ1_indexOfChar_4cfef 6 (some .int) :: ([])
set_option maxHeartbeats 4000000 in
set_option maxRecDepth 100000 in
theorem c_J1_indexOfChar_4cfef_4 (l : Launch) (dC : Nat → ClassId) (dI : Nat → Nat → Nat) (sz : Nat) (tv4 : Nat) (p1 : Int32) (p2 : Int32) (p3 : Int32) (g_p1 : RG p1 0 255) (g_p2 : RG p2 0 0) (g_p3 : RG p3 6 6) : Met l yJ1_indexOfChar_4cfef wf_c_J1_indexOfChar_4cfef_4 ({ frames := 0, cells := 0, slots := 0, locals := 0 }) (va_Pc [.ref tv4, .int p1, .int p2, .int p3] (fun U => U.heap.size = sz ∧ va_P (dC, dI) vwCl [] U.heap ∧ va_K (dC, dI) vwCl [] U ∧ va_D (fun _ => True) [] ∧ va_T .byte tv4 6 (fun j => .int ([118, 108, 114, 100, 112, 104].getD j 0)) (va_A [] sz) U U.heap)) (va_Qi (fun (r : Int32) (u : Unit) => (r = (-1) ∧ r = fx_c_J1_indexOfChar_4cfef_4 p1 p2 p3) ∨ (RG r 0 5 ∧ r = fx_c_J1_indexOfChar_4cfef_4 p1 p2 p3)) (fun (u : Unit) t => va_P (dC, dI) vwCl [] t.heap ∧ va_K (dC, dI) vwCl [] t ∧ va_D (va_A [] sz) []) (va_A [] sz)) 0 0 (va_A [] sz) := by
  refine Met.ofW (cc := cJ1_indexOfChar_4cfef) (maxL := 6) (ret := (some .int)) (by decide +kernel) rfl ?_
  intro p e s m args below meth c s₁ B hml hv
  obtain ⟨rfl, hsz, hP, hK, hD0, hE_36⟩ := hv
  have hx := B.exec
  have hb := B.bytes
  have hr := B.returns
  have hts := atoms_spec (ws := wf_c_J1_indexOfChar_4cfef_4) B.pre
  have hown : s.vm.findClass RJ1 = some m.cls := findClass_of_methodNamed B.named
  have hlocks := B.notSynchronized
  subst hsz
  have hD := hD0.self (sz := s.heap.size)
  generalize hAe : va_A [] s.heap.size = A at hD hE_36 ⊢
  have hA : ∀ q : Nat, s.heap.size ≤ q → A q := fun q h => by rw [← hAe]; exact Or.inr h
  have hP : va_P (dC, dI) vwCl [] s.heap := hP
  have hl := lv_entry ([.ref tv4, .int p1, .int p2, .int p3]) (n := 6) (Nat.le_of_ble_eq_true rfl)
  rw [lg_entry_eq]
  generalize (lg_sl ([.ref tv4, .int p1, .int p2, .int p3]) ++ List.replicate (6 - (lg_sl ([.ref tv4, .int p1, .int p2, .int p3])).length) Slot.unset).toArray = ls at hl ⊢
  have hl : lv_has ls 6 [(0, .ref tv4), (1, .int p1), (2, .int p2), (3, .int p3)] := hl
  obtain ⟨H, hHe⟩ : ∃ H : Heap, s.heap = H := ⟨_, rfl⟩
  have hS : va_S A s.heap H [] := by rw [hHe]; exact va_S.rf
  have hP : va_P (dC, dI) vwCl [] H := by rw [← hHe]; exact hP
  rw [hHe]
  obtain ⟨RES, hR⟩ : ∃ z, fx_c_J1_indexOfChar_4cfef_4 p1 p2 p3 = z := ⟨_, rfl⟩
  have hEX : RES = fx_c_J1_indexOfChar_4cfef_4 p1 p2 p3 := hR.symm
  refine lv_iload_n hx hb dJ1_indexOfChar_4cfef_0 rfl (lv_at hl 1 rfl) ?_
  as_aux_lemma =>
  refine lv_i2b hx hb dJ1_indexOfChar_4cfef_1 rfl ?_
  refine lv_topi (fun x_1 ex_1 => ?_)
  replace hEX := hEX.trans (exl_eq ex_1)
  refine lv_istore (lv' := [(4, .int x_1), (0, .ref tv4), (1, .int p1), (2, .int p2), (3, .int p3)]) hx hb dJ1_indexOfChar_4cfef_2 hl (Nat.le_of_ble_eq_true rfl) rfl (fun ls hl => ?_)
  refine lv_iload_n hx hb dJ1_indexOfChar_4cfef_4 rfl (lv_at hl 3 rfl) ?_
  refine lv_istore (lv' := [(5, .int p2), (4, .int x_1), (0, .ref tv4), (1, .int p1), (2, .int p2), (3, .int p3)]) hx hb dJ1_indexOfChar_4cfef_5 hl (Nat.le_of_ble_eq_true rfl) rfl (fun ls hl => ?_)
  refine lv_iload hx hb dJ1_indexOfChar_4cfef_7 (lv_at hl 0 rfl) ?_
  refine lv_iload_n hx hb dJ1_indexOfChar_4cfef_9 rfl (lv_at hl 5 rfl) ?_
  refine lv_icmp_ge (tgt := 31) hx hb dJ1_indexOfChar_4cfef_10 rfl (fun c_2 => ?_) (fun c_2 => ?_)
  · replace hEX := hEX.trans (if_pos c_2)
    have g_3 : RG p3 6 0 := RG_le1 g_p3 g_p2 c_2 (by decide +kernel)
    exact RG_dead (RG_le1 g_p3 g_p2 c_2 (b' := 0) (by decide +kernel)) (by decide +kernel)
  · replace hEX := hEX.trans (if_neg c_2)
    have d_4 := Int32.not_le.mp c_2
    refine lv_aload_n hx hb dJ1_indexOfChar_4cfef_13 rfl (lv_at hl 2 rfl) ?_
    as_aux_lemma =>
    refine lv_iload hx hb dJ1_indexOfChar_4cfef_14 (lv_at hl 0 rfl) ?_
    refine va_tb hx hb hE_36 hS (RG_in g_p2 (by decide +kernel)) rfl dJ1_indexOfChar_4cfef_16 ?_
    refine lv_topi (fun x_5 ex_5 => ?_)
    replace hEX := hEX.trans (exl_eq ex_5)
    have g_6 : RG x_5 0 118 := RG_tab ex_5 (by decide +kernel)
    refine lv_iload hx hb dJ1_indexOfChar_4cfef_17 (lv_at hl 1 rfl) ?_
    refine lv_icmp_ne (tgt := 25) hx hb dJ1_indexOfChar_4cfef_19 rfl (fun c_7 => ?_) (fun c_7 => ?_)
    · replace hEX := hEX.trans (if_neg c_7)
      obtain ⟨x_8, ex_8⟩ : ∃ y : Int32, y = p2 + 1 := ⟨_, rfl⟩
      have g_9 : RG x_8 1 1 := RG_add ex_8 g_p2 (RG_k 1 1 rfl) (by decide +kernel)
      replace hEX := hEX.trans (exl_eq ex_8)
      refine lv_iinc (v := x_8) (lv' := [(5, .int x_8), (4, .int x_1), (0, .ref tv4), (1, .int p1), (2, .int p2), (3, .int p3)]) hx hb dJ1_indexOfChar_4cfef_25 hl (k := 0) rfl (by rw [ex_8]; rfl) (Nat.le_of_ble_eq_true rfl) rfl (fun ls hl => ?_)
      refine lv_goto (tgt := 7) hx hb dJ1_indexOfChar_4cfef_28 rfl ?_
      refine lv_iload hx hb dJ1_indexOfChar_4cfef_7 (lv_at hl 0 rfl) ?_
      as_aux_lemma =>
      refine lv_iload_n hx hb dJ1_indexOfChar_4cfef_9 rfl (lv_at hl 5 rfl) ?_
      refine lv_icmp_ge (tgt := 31) hx hb dJ1_indexOfChar_4cfef_10 rfl (fun c_10 => ?_) (fun c_10 => ?_)
      · replace hEX := hEX.trans (if_pos c_10)
        have g_11 : RG p3 6 1 := RG_le1 g_p3 g_9 c_10 (by decide +kernel)
        exact RG_dead (RG_le1 g_p3 g_9 c_10 (b' := 1) (by decide +kernel)) (by decide +kernel)
      · replace hEX := hEX.trans (if_neg c_10)
        have d_12 := Int32.not_le.mp c_10
        refine lv_aload_n hx hb dJ1_indexOfChar_4cfef_13 rfl (lv_at hl 2 rfl) ?_
        refine lv_iload hx hb dJ1_indexOfChar_4cfef_14 (lv_at hl 0 rfl) ?_
        refine va_tb hx hb hE_36 hS (RG_in g_9 (by decide +kernel)) rfl dJ1_indexOfChar_4cfef_16 ?_
        refine lv_topi (fun x_13 ex_13 => ?_)
        replace hEX := hEX.trans (exl_eq ex_13)
        have g_14 : RG x_13 0 118 := RG_tab ex_13 (by decide +kernel)
        refine lv_iload hx hb dJ1_indexOfChar_4cfef_17 (lv_at hl 1 rfl) ?_
        as_aux_lemma =>
        refine lv_icmp_ne (tgt := 25) hx hb dJ1_indexOfChar_4cfef_19 rfl (fun c_15 => ?_) (fun c_15 => ?_)
        · replace hEX := hEX.trans (if_neg c_15)
          obtain ⟨x_16, ex_16⟩ : ∃ y : Int32, y = x_8 + 1 := ⟨_, rfl⟩
          have g_17 : RG x_16 2 2 := RG_add ex_16 g_9 (RG_k 1 1 rfl) (by decide +kernel)
          replace hEX := hEX.trans (exl_eq ex_16)
          refine lv_iinc (v := x_16) (lv' := [(5, .int x_16), (4, .int x_1), (0, .ref tv4), (1, .int p1), (2, .int p2), (3, .int p3)]) hx hb dJ1_indexOfChar_4cfef_25 hl (k := 0) rfl (by rw [ex_16]; rfl) (Nat.le_of_ble_eq_true rfl) rfl (fun ls hl => ?_)
          refine lv_goto (tgt := 7) hx hb dJ1_indexOfChar_4cfef_28 rfl ?_
          refine lv_iload hx hb dJ1_indexOfChar_4cfef_7 (lv_at hl 0 rfl) ?_
          refine lv_iload_n hx hb dJ1_indexOfChar_4cfef_9 rfl (lv_at hl 5 rfl) ?_
          refine lv_icmp_ge (tgt := 31) hx hb dJ1_indexOfChar_4cfef_10 rfl (fun c_18 => ?_) (fun c_18 => ?_)
          · replace hEX := hEX.trans (if_pos c_18)
            have g_19 : RG p3 6 2 := RG_le1 g_p3 g_17 c_18 (by decide +kernel)
            exact RG_dead (RG_le1 g_p3 g_17 c_18 (b' := 2) (by decide +kernel)) (by decide +kernel)
          · replace hEX := hEX.trans (if_neg c_18)
            have d_20 := Int32.not_le.mp c_18
            refine lv_aload_n hx hb dJ1_indexOfChar_4cfef_13 rfl (lv_at hl 2 rfl) ?_
            as_aux_lemma =>
            refine lv_iload hx hb dJ1_indexOfChar_4cfef_14 (lv_at hl 0 rfl) ?_
            refine va_tb hx hb hE_36 hS (RG_in g_17 (by decide +kernel)) rfl dJ1_indexOfChar_4cfef_16 ?_
            refine lv_topi (fun x_21 ex_21 => ?_)
            replace hEX := hEX.trans (exl_eq ex_21)
            have g_22 : RG x_21 0 118 := RG_tab ex_21 (by decide +kernel)
            refine lv_iload hx hb dJ1_indexOfChar_4cfef_17 (lv_at hl 1 rfl) ?_
            refine lv_icmp_ne (tgt := 25) hx hb dJ1_indexOfChar_4cfef_19 rfl (fun c_23 => ?_) (fun c_23 => ?_)
            · replace hEX := hEX.trans (if_neg c_23)
              obtain ⟨x_24, ex_24⟩ : ∃ y : Int32, y = x_16 + 1 := ⟨_, rfl⟩
              have g_25 : RG x_24 3 3 := RG_add ex_24 g_17 (RG_k 1 1 rfl) (by decide +kernel)
              replace hEX := hEX.trans (exl_eq ex_24)
              refine lv_iinc (v := x_24) (lv' := [(5, .int x_24), (4, .int x_1), (0, .ref tv4), (1, .int p1), (2, .int p2), (3, .int p3)]) hx hb dJ1_indexOfChar_4cfef_25 hl (k := 0) rfl (by rw [ex_24]; rfl) (Nat.le_of_ble_eq_true rfl) rfl (fun ls hl => ?_)
              refine lv_goto (tgt := 7) hx hb dJ1_indexOfChar_4cfef_28 rfl ?_
              refine lv_iload hx hb dJ1_indexOfChar_4cfef_7 (lv_at hl 0 rfl) ?_
              as_aux_lemma =>
              refine lv_iload_n hx hb dJ1_indexOfChar_4cfef_9 rfl (lv_at hl 5 rfl) ?_
              refine lv_icmp_ge (tgt := 31) hx hb dJ1_indexOfChar_4cfef_10 rfl (fun c_26 => ?_) (fun c_26 => ?_)
              · replace hEX := hEX.trans (if_pos c_26)
                have g_27 : RG p3 6 3 := RG_le1 g_p3 g_25 c_26 (by decide +kernel)
                exact RG_dead (RG_le1 g_p3 g_25 c_26 (b' := 3) (by decide +kernel)) (by decide +kernel)
              · replace hEX := hEX.trans (if_neg c_26)
                have d_28 := Int32.not_le.mp c_26
                refine lv_aload_n hx hb dJ1_indexOfChar_4cfef_13 rfl (lv_at hl 2 rfl) ?_
                refine lv_iload hx hb dJ1_indexOfChar_4cfef_14 (lv_at hl 0 rfl) ?_
                refine va_tb hx hb hE_36 hS (RG_in g_25 (by decide +kernel)) rfl dJ1_indexOfChar_4cfef_16 ?_
                refine lv_topi (fun x_29 ex_29 => ?_)
                replace hEX := hEX.trans (exl_eq ex_29)
                have g_30 : RG x_29 0 118 := RG_tab ex_29 (by decide +kernel)
                refine lv_iload hx hb dJ1_indexOfChar_4cfef_17 (lv_at hl 1 rfl) ?_
                as_aux_lemma =>
                refine lv_icmp_ne (tgt := 25) hx hb dJ1_indexOfChar_4cfef_19 rfl (fun c_31 => ?_) (fun c_31 => ?_)
                · replace hEX := hEX.trans (if_neg c_31)
                  obtain ⟨x_32, ex_32⟩ : ∃ y : Int32, y = x_24 + 1 := ⟨_, rfl⟩
                  have g_33 : RG x_32 4 4 := RG_add ex_32 g_25 (RG_k 1 1 rfl) (by decide +kernel)
                  replace hEX := hEX.trans (exl_eq ex_32)
                  refine lv_iinc (v := x_32) (lv' := [(5, .int x_32), (4, .int x_1), (0, .ref tv4), (1, .int p1), (2, .int p2), (3, .int p3)]) hx hb dJ1_indexOfChar_4cfef_25 hl (k := 0) rfl (by rw [ex_32]; rfl) (Nat.le_of_ble_eq_true rfl) rfl (fun ls hl => ?_)
                  refine lv_goto (tgt := 7) hx hb dJ1_indexOfChar_4cfef_28 rfl ?_
                  refine lv_iload hx hb dJ1_indexOfChar_4cfef_7 (lv_at hl 0 rfl) ?_
                  refine lv_iload_n hx hb dJ1_indexOfChar_4cfef_9 rfl (lv_at hl 5 rfl) ?_
                  refine lv_icmp_ge (tgt := 31) hx hb dJ1_indexOfChar_4cfef_10 rfl (fun c_34 => ?_) (fun c_34 => ?_)
                  · replace hEX := hEX.trans (if_pos c_34)
                    have g_35 : RG p3 6 4 := RG_le1 g_p3 g_33 c_34 (by decide +kernel)
                    exact RG_dead (RG_le1 g_p3 g_33 c_34 (b' := 4) (by decide +kernel)) (by decide +kernel)
                  · replace hEX := hEX.trans (if_neg c_34)
                    have d_36 := Int32.not_le.mp c_34
                    refine lv_aload_n hx hb dJ1_indexOfChar_4cfef_13 rfl (lv_at hl 2 rfl) ?_
                    as_aux_lemma =>
                    refine lv_iload hx hb dJ1_indexOfChar_4cfef_14 (lv_at hl 0 rfl) ?_
                    refine va_tb hx hb hE_36 hS (RG_in g_33 (by decide +kernel)) rfl dJ1_indexOfChar_4cfef_16 ?_
                    refine lv_topi (fun x_37 ex_37 => ?_)
                    replace hEX := hEX.trans (exl_eq ex_37)
                    have g_38 : RG x_37 0 118 := RG_tab ex_37 (by decide +kernel)
                    refine lv_iload hx hb dJ1_indexOfChar_4cfef_17 (lv_at hl 1 rfl) ?_
                    refine lv_icmp_ne (tgt := 25) hx hb dJ1_indexOfChar_4cfef_19 rfl (fun c_39 => ?_) (fun c_39 => ?_)
                    · replace hEX := hEX.trans (if_neg c_39)
                      obtain ⟨x_40, ex_40⟩ : ∃ y : Int32, y = x_32 + 1 := ⟨_, rfl⟩
                      have g_41 : RG x_40 5 5 := RG_add ex_40 g_33 (RG_k 1 1 rfl) (by decide +kernel)
                      replace hEX := hEX.trans (exl_eq ex_40)
                      refine lv_iinc (v := x_40) (lv' := [(5, .int x_40), (4, .int x_1), (0, .ref tv4), (1, .int p1), (2, .int p2), (3, .int p3)]) hx hb dJ1_indexOfChar_4cfef_25 hl (k := 0) rfl (by rw [ex_40]; rfl) (Nat.le_of_ble_eq_true rfl) rfl (fun ls hl => ?_)
                      refine lv_goto (tgt := 7) hx hb dJ1_indexOfChar_4cfef_28 rfl ?_
                      refine lv_iload hx hb dJ1_indexOfChar_4cfef_7 (lv_at hl 0 rfl) ?_
                      as_aux_lemma =>
                      refine lv_iload_n hx hb dJ1_indexOfChar_4cfef_9 rfl (lv_at hl 5 rfl) ?_
                      refine lv_icmp_ge (tgt := 31) hx hb dJ1_indexOfChar_4cfef_10 rfl (fun c_42 => ?_) (fun c_42 => ?_)
                      · replace hEX := hEX.trans (if_pos c_42)
                        have g_43 : RG p3 6 5 := RG_le1 g_p3 g_41 c_42 (by decide +kernel)
                        exact RG_dead (RG_le1 g_p3 g_41 c_42 (b' := 5) (by decide +kernel)) (by decide +kernel)
                      · replace hEX := hEX.trans (if_neg c_42)
                        have d_44 := Int32.not_le.mp c_42
                        refine lv_aload_n hx hb dJ1_indexOfChar_4cfef_13 rfl (lv_at hl 2 rfl) ?_
                        refine lv_iload hx hb dJ1_indexOfChar_4cfef_14 (lv_at hl 0 rfl) ?_
                        refine va_tb hx hb hE_36 hS (RG_in g_41 (by decide +kernel)) rfl dJ1_indexOfChar_4cfef_16 ?_
                        refine lv_topi (fun x_45 ex_45 => ?_)
                        replace hEX := hEX.trans (exl_eq ex_45)
                        have g_46 : RG x_45 0 118 := RG_tab ex_45 (by decide +kernel)
                        refine lv_iload hx hb dJ1_indexOfChar_4cfef_17 (lv_at hl 1 rfl) ?_
                        as_aux_lemma =>
                        refine lv_icmp_ne (tgt := 25) hx hb dJ1_indexOfChar_4cfef_19 rfl (fun c_47 => ?_) (fun c_47 => ?_)
                        · replace hEX := hEX.trans (if_neg c_47)
                          obtain ⟨x_48, ex_48⟩ : ∃ y : Int32, y = x_40 + 1 := ⟨_, rfl⟩
                          have g_49 : RG x_48 6 6 := RG_add ex_48 g_41 (RG_k 1 1 rfl) (by decide +kernel)
                          replace hEX := hEX.trans (exl_eq ex_48)
                          refine lv_iinc (v := x_48) (lv' := [(5, .int x_48), (4, .int x_1), (0, .ref tv4), (1, .int p1), (2, .int p2), (3, .int p3)]) hx hb dJ1_indexOfChar_4cfef_25 hl (k := 0) rfl (by rw [ex_48]; rfl) (Nat.le_of_ble_eq_true rfl) rfl (fun ls hl => ?_)
                          refine lv_goto (tgt := 7) hx hb dJ1_indexOfChar_4cfef_28 rfl ?_
                          refine lv_iload hx hb dJ1_indexOfChar_4cfef_7 (lv_at hl 0 rfl) ?_
                          refine lv_iload_n hx hb dJ1_indexOfChar_4cfef_9 rfl (lv_at hl 5 rfl) ?_
                          refine lv_icmp_ge (tgt := 31) hx hb dJ1_indexOfChar_4cfef_10 rfl (fun c_50 => ?_) (fun c_50 => ?_)
                          · replace hEX := hEX.trans (if_pos c_50)
                            refine lv_iconst (v := (-1)) hx hb dJ1_indexOfChar_4cfef_31 kc_iconst_m1 ?_
                            have hK9 := hK.sub (tys' := []) [] rfl
                            exact W.iret (v := (-1)) hx hb hr (fun t ht hW => ⟨⟨(-1), (), rfl, (Or.inl ⟨rfl, (hR.trans hEX).symm⟩), by rw [ht]; exact hP, va_K.moved hW.alike hK9, hD⟩, hS.F ht⟩) hS.2.2 dJ1_indexOfChar_4cfef_32
                          · replace hEX := hEX.trans (if_neg c_50)
                            have d_51 := Int32.not_le.mp c_50
                            have g_52 : RG x_48 6 5 := RG_lt1 g_49 g_p3 d_51 (by decide +kernel)
                            exact RG_dead (RG_lt1 g_49 g_p3 d_51 (b' := 5) (by decide +kernel)) (by decide +kernel)
                        · replace hEX := hEX.trans (if_pos c_47)
                          have g_53 : RG x_1 0 118 := RG_eq1 (RG_any x_1) g_46 c_47.symm (by decide +kernel)
                          refine lv_iload hx hb dJ1_indexOfChar_4cfef_22 (lv_at hl 0 rfl) ?_
                          as_aux_lemma =>
                          have hK9 := hK.sub (tys' := []) [] rfl
                          exact W.iret (v := x_40) hx hb hr (fun t ht hW => ⟨⟨x_40, (), rfl, (Or.inr ⟨(RG_w g_41 (by decide +kernel)), (hR.trans hEX).symm⟩), by rw [ht]; exact hP, va_K.moved hW.alike hK9, hD⟩, hS.F ht⟩) hS.2.2 dJ1_indexOfChar_4cfef_24
                    · replace hEX := hEX.trans (if_pos c_39)
                      have g_54 : RG x_1 0 118 := RG_eq1 (RG_any x_1) g_38 c_39.symm (by decide +kernel)
                      refine lv_iload hx hb dJ1_indexOfChar_4cfef_22 (lv_at hl 0 rfl) ?_
                      have hK9 := hK.sub (tys' := []) [] rfl
                      exact W.iret (v := x_32) hx hb hr (fun t ht hW => ⟨⟨x_32, (), rfl, (Or.inr ⟨(RG_w g_33 (by decide +kernel)), (hR.trans hEX).symm⟩), by rw [ht]; exact hP, va_K.moved hW.alike hK9, hD⟩, hS.F ht⟩) hS.2.2 dJ1_indexOfChar_4cfef_24
                · replace hEX := hEX.trans (if_pos c_31)
                  have g_55 : RG x_1 0 118 := RG_eq1 (RG_any x_1) g_30 c_31.symm (by decide +kernel)
                  refine lv_iload hx hb dJ1_indexOfChar_4cfef_22 (lv_at hl 0 rfl) ?_
                  have hK9 := hK.sub (tys' := []) [] rfl
                  exact W.iret (v := x_24) hx hb hr (fun t ht hW => ⟨⟨x_24, (), rfl, (Or.inr ⟨(RG_w g_25 (by decide +kernel)), (hR.trans hEX).symm⟩), by rw [ht]; exact hP, va_K.moved hW.alike hK9, hD⟩, hS.F ht⟩) hS.2.2 dJ1_indexOfChar_4cfef_24
            · replace hEX := hEX.trans (if_pos c_23)
              have g_56 : RG x_1 0 118 := RG_eq1 (RG_any x_1) g_22 c_23.symm (by decide +kernel)
              refine lv_iload hx hb dJ1_indexOfChar_4cfef_22 (lv_at hl 0 rfl) ?_
              as_aux_lemma =>
              have hK9 := hK.sub (tys' := []) [] rfl
              exact W.iret (v := x_16) hx hb hr (fun t ht hW => ⟨⟨x_16, (), rfl, (Or.inr ⟨(RG_w g_17 (by decide +kernel)), (hR.trans hEX).symm⟩), by rw [ht]; exact hP, va_K.moved hW.alike hK9, hD⟩, hS.F ht⟩) hS.2.2 dJ1_indexOfChar_4cfef_24
        · replace hEX := hEX.trans (if_pos c_15)
          have g_57 : RG x_1 0 118 := RG_eq1 (RG_any x_1) g_14 c_15.symm (by decide +kernel)
          refine lv_iload hx hb dJ1_indexOfChar_4cfef_22 (lv_at hl 0 rfl) ?_
          have hK9 := hK.sub (tys' := []) [] rfl
          exact W.iret (v := x_8) hx hb hr (fun t ht hW => ⟨⟨x_8, (), rfl, (Or.inr ⟨(RG_w g_9 (by decide +kernel)), (hR.trans hEX).symm⟩), by rw [ht]; exact hP, va_K.moved hW.alike hK9, hD⟩, hS.F ht⟩) hS.2.2 dJ1_indexOfChar_4cfef_24
    · replace hEX := hEX.trans (if_pos c_7)
      have g_58 : RG x_1 0 118 := RG_eq1 (RG_any x_1) g_6 c_7.symm (by decide +kernel)
      refine lv_iload hx hb dJ1_indexOfChar_4cfef_22 (lv_at hl 0 rfl) ?_
      have hK9 := hK.sub (tys' := []) [] rfl
      exact W.iret (v := p2) hx hb hr (fun t ht hW => ⟨⟨p2, (), rfl, (Or.inr ⟨(RG_w g_p2 (by decide +kernel)), (hR.trans hEX).symm⟩), by rw [ht]; exact hP, va_K.moved hW.alike hK9, hD⟩, hS.F ht⟩) hS.2.2 dJ1_indexOfChar_4cfef_24
noncomputable def wf_c_J1_indexOf_4cfef_4 : List Cond := .code yJ1_indexOf_4cfef cJ1_indexOf_4cfef 4 (some .int) :: ([.methodLink RJ1 88 yJ1_canEncode_9a6ad, .static yJ1_canEncode_9a6ad, .initialized RJ1, .code yJ1_canEncode_9a6ad cJ1_canEncode_9a6ad 1 (some .boolean), .methodLink RJ1 92 Lib.Math.max.name, .static Lib.Math.max.name, .initialized "java/lang/Math", .code Lib.Math.max.name Lib.Math.max.code 2 (some .int), .methodLink RJ1 38 Lib.Math.min.name, .static Lib.Math.min.name, .code Lib.Math.min.name Lib.Math.min.code 2 (some .int), .methodLink RJ1 95 yJ1_indexOfChar_4cfef, .static yJ1_indexOfChar_4cfef, .code yJ1_indexOfChar_4cfef cJ1_indexOfChar_4cfef 6 (some .int)])
set_option maxRecDepth 20000 in
theorem gf_c_J1_indexOf_4cfef_4_c_J1_canEncode_9a6ad : GoodIn wf_c_J1_indexOf_4cfef_4 (va_wsS RJ1 88 yJ1_canEncode_9a6ad wf_c_J1_canEncode_9a6ad) := goodIn_app (gi_l [1, 2, 3] rfl rfl) (gi_cons (j := 4) rfl rfl gi_nil)
set_option maxRecDepth 20000 in
theorem gf_c_J1_indexOf_4cfef_4_c_J1_indexOfChar_4cfef_4 : GoodIn wf_c_J1_indexOf_4cfef_4 (va_wsS RJ1 95 yJ1_indexOfChar_4cfef wf_c_J1_indexOfChar_4cfef_4) := goodIn_app (gi_l [12, 13, 3] rfl rfl) (gi_cons (j := 14) rfl rfl gi_nil)
set_option maxHeartbeats 4000000 in
set_option maxRecDepth 100000 in
theorem c_J1_indexOf_4cfef_4 (l : Launch) (dC : Nat → ClassId) (dI : Nat → Nat → Nat) (sz : Nat) (tv4 : Nat) (p1 : Int32) (g_p1 : RG p1 0 65535) : Met l yJ1_indexOf_4cfef wf_c_J1_indexOf_4cfef_4 ({ frames := 1, cells := 0, slots := 0, locals := 25 }) (va_Pc [.ref tv4, .int p1, .int 0, .int 6] (fun U => U.heap.size = sz ∧ va_P (dC, dI) vwCl [] U.heap ∧ va_K (dC, dI) vwCl [] U ∧ va_D (fun _ => True) [] ∧ va_T .byte tv4 6 (fun j => .int ([118, 108, 114, 100, 112, 104].getD j 0)) (va_A [] sz) U U.heap)) (va_Qi (fun (r : Int32) (u : Unit) => (r = (-1) ∧ r = fx_c_J1_indexOf_4cfef_4 p1) ∨ (RG r 0 5 ∧ RG p1 0 255 ∧ r = fx_c_J1_indexOf_4cfef_4 p1)) (fun (u : Unit) t => va_P (dC, dI) vwCl [] t.heap ∧ va_K (dC, dI) vwCl [] t ∧ va_D (va_A [] sz) []) (va_A [] sz)) 0 0 (va_A [] sz) := by
  refine Met.ofW (cc := cJ1_indexOf_4cfef) (maxL := 4) (ret := (some .int)) (by decide +kernel) rfl ?_
  intro p e s m args below meth c s₁ B hml hv
  obtain ⟨rfl, hsz, hP, hK, hD0, hE_36⟩ := hv
  have hx := B.exec
  have hb := B.bytes
  have hr := B.returns
  have hts := atoms_spec (ws := wf_c_J1_indexOf_4cfef_4) B.pre
  have hown : s.vm.findClass RJ1 = some m.cls := findClass_of_methodNamed B.named
  have hlocks := B.notSynchronized
  subst hsz
  have hD := hD0.self (sz := s.heap.size)
  generalize hAe : va_A [] s.heap.size = A at hD hE_36 ⊢
  have hA : ∀ q : Nat, s.heap.size ≤ q → A q := fun q h => by rw [← hAe]; exact Or.inr h
  have hP : va_P (dC, dI) vwCl [] s.heap := hP
  have hl := lv_entry ([.ref tv4, .int p1, .int 0, .int 6]) (n := 4) (Nat.le_of_ble_eq_true rfl)
  rw [lg_entry_eq]
  generalize (lg_sl ([.ref tv4, .int p1, .int 0, .int 6]) ++ List.replicate (4 - (lg_sl ([.ref tv4, .int p1, .int 0, .int 6])).length) Slot.unset).toArray = ls at hl ⊢
  have hl : lv_has ls 4 [(0, .ref tv4), (1, .int p1), (2, .int 0), (3, .int 6)] := hl
  obtain ⟨H, hHe⟩ : ∃ H : Heap, s.heap = H := ⟨_, rfl⟩
  have hS : va_S A s.heap H [] := by rw [hHe]; exact va_S.rf
  have hP : va_P (dC, dI) vwCl [] H := by rw [← hHe]; exact hP
  rw [hHe]
  obtain ⟨RES, hR⟩ : ∃ z, fx_c_J1_indexOf_4cfef_4 p1 = z := ⟨_, rfl⟩
  have hEX : RES = fx_c_J1_indexOf_4cfef_4 p1 := hR.symm
  refine lv_iload_n hx hb dJ1_indexOf_4cfef_0 rfl (lv_at hl 1 rfl) ?_
  as_aux_lemma =>
  obtain ⟨hPc, hDc, hFc, hqc⟩ := cl_cut (wc := []) hP hD hS hA [] (by decide +kernel) rfl
  have hKc := hK.sub (tys' := []) [] rfl
  refine va_calli (va_runS (As := [.int p1]) (rest := []) ⟨hx, hb, hml, hown, hts⟩ (c_J1_canEncode_9a6ad l dC dI H.size p1 g_p1) (va_cwS 1 hts gf_c_J1_indexOf_4cfef_4_c_J1_canEncode_9a6ad rfl rfl rfl md_J1_canEncode_9a6ad ⟨Nat.le_of_ble_eq_true rfl, Nat.le_of_ble_eq_true rfl⟩) ⟨fun a U g mk q => by obtain ⟨q0, q1, qP, qK, qD⟩ := q; exact ⟨q0, q1, qP, va_K.moved (u := U) (U := U.calling g mk a) (Vm.Alike.refl U.vm) qK, qD⟩, fun U hU hW => ⟨rfl, by rw [hU], by rw [hU]; exact hPc, va_K.moved hW.alike hKc, hDc.weaken (fun _ _ _ _ => trivial)⟩⟩ rfl rfl hl.1 rfl (lv_room (Nat.le_of_ble_eq_true rfl)) dJ1_indexOf_4cfef_1 ⟨Nat.le_of_ble_eq_true rfl, Nat.le_of_ble_eq_true rfl⟩) hS (fun q _ h => hFc q h) hFc (fun r_1 u t H1 locs ht hvm hw hB hz1 hk1 hS => ?_)
  obtain ⟨hP1, hK1, hD1⟩ := hB
  rw [ht] at hP1
  have hP := bv_still hP hk1
  generalize H1 = H at hP hS ⊢
  as_aux_lemma =>
  rcases hw with ⟨h_2, h_3, h_4⟩ | ⟨h_5, h_6, h_7⟩
  · have h_4 : r_1 = _ := h_4
    replace hEX := hEX.trans (exc1_eq h_4)
    replace hEX := hEX.trans (if_pos (show r_1 = 0 from h_2))
    rw [h_2]
    refine lv_if_ne (tgt := 9) hx hb dJ1_indexOf_4cfef_4 rfl (fun c_8 => absurd c_8 (by decide +kernel)) (fun c_8 => ?_)
    refine lv_iconst (v := (-1)) hx hb dJ1_indexOf_4cfef_7 kc_iconst_m1 ?_
    have hK9 := hK.sub (tys' := []) [] rfl
    exact W.iret (v := (-1)) hx hb hr (fun t ht hW => ⟨⟨(-1), (), rfl, (Or.inl ⟨rfl, (hR.trans hEX).symm⟩), by rw [ht]; exact hP, va_K.moved hW.alike hK9, hD⟩, hS.F ht⟩) hS.2.2 dJ1_indexOf_4cfef_8
  · have h_7 : r_1 = _ := h_7
    replace hEX := hEX.trans (exc1_eq h_7)
    replace hEX := hEX.trans (if_neg (fun q9 : r_1 = 0 => absurd ((show r_1 = 1 from h_5).symm.trans q9) (by decide +kernel)))
    rw [h_5]
    refine lv_if_ne (tgt := 9) hx hb dJ1_indexOf_4cfef_4 rfl (fun c_9 => ?_) (fun c_9 => absurd c_9 (by decide +kernel))
    refine lv_iload_n hx hb dJ1_indexOf_4cfef_9 rfl (lv_at hl 2 rfl) ?_
    as_aux_lemma =>
    refine lv_iconst (v := 0) hx hb dJ1_indexOf_4cfef_10 kc_iconst_0 ?_
    refine va_mmax hx hb (by rw [hml]; exact hl.1.symm) hown (hts (.methodLink RJ1 92 Lib.Math.max.name) (List.mem_of_getElem? (i := 5) rfl)) (hts (.static Lib.Math.max.name) (List.mem_of_getElem? (i := 6) rfl)) (hts (.initialized "java/lang/Math") (List.mem_of_getElem? (i := 7) rfl)) (hts (.code Lib.Math.max.name Lib.Math.max.code 2 (some .int)) (List.mem_of_getElem? (i := 8) rfl)) (Nat.le_of_ble_eq_true rfl) (Nat.le_of_ble_eq_true rfl) (Nat.le_of_ble_eq_true rfl) (Nat.le_of_ble_eq_true rfl) dJ1_indexOf_4cfef_11 ?_
    refine lv_topi (fun x_10 ex_10 => ?_)
    replace hEX := hEX.trans (exl_eq ex_10)
    have g_11 : RG x_10 0 0 := RG_max ex_10 (RG_k 0 0 rfl) (RG_k 0 0 rfl) (by decide +kernel)
    refine lv_istore_n (lv' := [(2, .int x_10), (0, .ref tv4), (1, .int p1), (3, .int 6)]) hx hb dJ1_indexOf_4cfef_14 rfl hl (Nat.le_of_ble_eq_true rfl) rfl (fun ls hl => ?_)
    refine lv_iload_n hx hb dJ1_indexOf_4cfef_15 rfl (lv_at hl 3 rfl) ?_
    refine lv_aload_n hx hb dJ1_indexOf_4cfef_16 rfl (lv_at hl 1 rfl) ?_
    refine va_tlen (v := 6) hx hb hE_36 hS rfl dJ1_indexOf_4cfef_17 ?_
    refine va_mmin hx hb (by rw [hml]; exact hl.1.symm) hown (hts (.methodLink RJ1 38 Lib.Math.min.name) (List.mem_of_getElem? (i := 9) rfl)) (hts (.static Lib.Math.min.name) (List.mem_of_getElem? (i := 10) rfl)) (hts (.initialized "java/lang/Math") (List.mem_of_getElem? (i := 7) rfl)) (hts (.code Lib.Math.min.name Lib.Math.min.code 2 (some .int)) (List.mem_of_getElem? (i := 11) rfl)) (Nat.le_of_ble_eq_true rfl) (Nat.le_of_ble_eq_true rfl) (Nat.le_of_ble_eq_true rfl) (Nat.le_of_ble_eq_true rfl) dJ1_indexOf_4cfef_18 ?_
    refine lv_topi (fun x_12 ex_12 => ?_)
    replace hEX := hEX.trans (exl_eq ex_12)
    have g_13 : RG x_12 6 6 := RG_min ex_12 (RG_k 6 6 rfl) (RG_k 6 6 rfl) (by decide +kernel)
    refine lv_istore_n (lv' := [(3, .int x_12), (2, .int x_10), (0, .ref tv4), (1, .int p1)]) hx hb dJ1_indexOf_4cfef_21 rfl hl (Nat.le_of_ble_eq_true rfl) rfl (fun ls hl => ?_)
    as_aux_lemma =>
    refine lv_iload_n hx hb dJ1_indexOf_4cfef_22 rfl (lv_at hl 1 rfl) ?_
    refine lv_iload_n hx hb dJ1_indexOf_4cfef_23 rfl (lv_at hl 0 rfl) ?_
    refine lv_icmp_lt (tgt := 29) hx hb dJ1_indexOf_4cfef_24 rfl (fun c_14 => ?_) (fun c_14 => ?_)
    · replace hEX := hEX.trans (if_pos c_14)
      refine lv_aload_n hx hb dJ1_indexOf_4cfef_29 rfl (lv_at hl 2 rfl) ?_
      refine lv_iload_n hx hb dJ1_indexOf_4cfef_30 rfl (lv_at hl 3 rfl) ?_
      refine lv_iload_n hx hb dJ1_indexOf_4cfef_31 rfl (lv_at hl 1 rfl) ?_
      refine lv_iload_n hx hb dJ1_indexOf_4cfef_32 rfl (lv_at hl 0 rfl) ?_
      obtain ⟨hPc, hDc, hFc, hqc⟩ := cl_cut (wc := []) hP hD hS hA [] (by decide +kernel) rfl
      have hKc := hK.sub (tys' := []) [] rfl
      refine va_calli (va_runS (As := [.ref tv4, .int p1, .int x_10, .int x_12]) (rest := []) ⟨hx, hb, hml, hown, hts⟩ (c_J1_indexOfChar_4cfef_4 l dC dI H.size tv4 p1 x_10 x_12 h_6 g_11 g_13) (va_cwS 4 hts gf_c_J1_indexOf_4cfef_4_c_J1_indexOfChar_4cfef_4 rfl rfl rfl md_J1_indexOfChar_4cfef ⟨Nat.le_of_ble_eq_true rfl, Nat.le_of_ble_eq_true rfl⟩) ⟨fun a U g mk q => by obtain ⟨q0, q1, qP, qK, qD, qE0⟩ := q; exact ⟨q0, q1, qP, va_K.moved (u := U) (U := U.calling g mk a) (Vm.Alike.refl U.vm) qK, qD, va_T.moved (u := U) (U := U.calling g mk a) (Vm.Alike.refl U.vm) qE0⟩, fun U hU hW => ⟨rfl, by rw [hU], by rw [hU]; exact hPc, va_K.moved hW.alike hKc, hDc.weaken (fun _ _ _ _ => trivial), va_T.moved hW.alike (by rw [hU]; exact (hE_36.kept hS.2.1).narrow hFc)⟩⟩ rfl rfl hl.1 rfl (lv_room (Nat.le_of_ble_eq_true rfl)) dJ1_indexOf_4cfef_33 ⟨Nat.le_of_ble_eq_true rfl, Nat.le_of_ble_eq_true rfl⟩) hS (fun q _ h => hFc q h) hFc (fun r_15 u t H1 locs ht hvm hw hB hz1 hk1 hS => ?_)
      obtain ⟨hP1, hK1, hD1⟩ := hB
      rw [ht] at hP1
      have hP := bv_still hP hk1
      generalize H1 = H at hP hS ⊢
      as_aux_lemma =>
      rcases hw with ⟨h_16, h_17⟩ | ⟨h_18, h_19⟩
      · have h_17 : r_15 = _ := h_17
        replace hEX := hEX.trans (exc1_eq h_17)
        replace hEX := hEX.trans (if_pos (show r_15 = (-1) from h_16))
        rw [h_16]
        have hK9 := hK.sub (tys' := []) [] rfl
        exact W.iret (v := (-1)) hx hb hr (fun t ht hW => ⟨⟨(-1), (), rfl, (Or.inl ⟨rfl, (hR.trans hEX).symm⟩), by rw [ht]; exact hP, va_K.moved hW.alike hK9, hD⟩, hS.F ht⟩) hS.2.2 dJ1_indexOf_4cfef_36
      · have h_19 : r_15 = _ := h_19
        replace hEX := hEX.trans (exc1_eq h_19)
        replace hEX := hEX.trans (if_neg (RG_neq (x := r_15) (c := (-1)) (show RG r_15 0 5 from h_18) (by decide +kernel)))
        have hK9 := hK.sub (tys' := []) [] rfl
        exact W.iret (v := r_15) hx hb hr (fun t ht hW => ⟨⟨r_15, (), rfl, (Or.inr ⟨h_18, h_6, (hR.trans hEX).symm⟩), by rw [ht]; exact hP, va_K.moved hW.alike hK9, hD⟩, hS.F ht⟩) hS.2.2 dJ1_indexOf_4cfef_36
    · replace hEX := hEX.trans (if_neg c_14)
      have d_20 := Int32.not_lt.mp c_14
      have g_21 : RG x_12 6 0 := RG_le1 g_13 g_11 d_20 (by decide +kernel)
      exact RG_dead (RG_le1 g_13 g_11 d_20 (b' := 0) (by decide +kernel)) (by decide +kernel)
