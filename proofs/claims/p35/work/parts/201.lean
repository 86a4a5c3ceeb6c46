noncomputable def wf_c_J1_indexOf_4cfef_3 : List Cond := .code yJ1_indexOf_4cfef cJ1_indexOf_4cfef 4 (some .int) :: ([.methodLink RJ1 88 yJ1_canEncode_9a6ad, .static yJ1_canEncode_9a6ad, .initialized RJ1, .code yJ1_canEncode_9a6ad cJ1_canEncode_9a6ad 1 (some .boolean), .methodLink RJ1 92 Lib.Math.max.name, .static Lib.Math.max.name, .initialized "java/lang/Math", .code Lib.Math.max.name Lib.Math.max.code 2 (some .int), .methodLink RJ1 38 Lib.Math.min.name, .static Lib.Math.min.name, .code Lib.Math.min.name Lib.Math.min.code 2 (some .int), .methodLink RJ1 95 yJ1_indexOfChar_4cfef, .static yJ1_indexOfChar_4cfef, .code yJ1_indexOfChar_4cfef cJ1_indexOfChar_4cfef 6 (some .int)])
set_option maxRecDepth 20000 in
theorem gf_c_J1_indexOf_4cfef_3_c_J1_canEncode_9a6ad : GoodIn wf_c_J1_indexOf_4cfef_3 (va_wsS RJ1 88 yJ1_canEncode_9a6ad wf_c_J1_canEncode_9a6ad) := goodIn_app (gi_l [1, 2, 3] rfl rfl) (gi_cons (j := 4) rfl rfl gi_nil)
set_option maxRecDepth 20000 in
theorem gf_c_J1_indexOf_4cfef_3_c_J1_indexOfChar_4cfef_3 : GoodIn wf_c_J1_indexOf_4cfef_3 (va_wsS RJ1 95 yJ1_indexOfChar_4cfef wf_c_J1_indexOfChar_4cfef_3) := goodIn_app (gi_l [12, 13, 3] rfl rfl) (gi_cons (j := 14) rfl rfl gi_nil)
set_option maxHeartbeats 4000000 in
set_option maxRecDepth 100000 in
theorem c_J1_indexOf_4cfef_3 (l : Launch) (dC : Nat → ClassId) (dI : Nat → Nat → Nat) (sz : Nat) (tv3 : Nat) (p1 : Int32) (g_p1 : RG p1 0 65535) : Met l yJ1_indexOf_4cfef wf_c_J1_indexOf_4cfef_3 ({ frames := 1, cells := 0, slots := 0, locals := 25 }) (va_Pc [.ref tv3, .int p1, .int 0, .int 4] (fun U => U.heap.size = sz ∧ va_P (dC, dI) vwCl [] U.heap ∧ va_K (dC, dI) vwCl [] U ∧ va_D (fun _ => True) [] ∧ va_T .byte tv3 4 (fun j => .int ([120, 121, 115, 118].getD j 0)) (va_A [] sz) U U.heap)) (va_Qi (fun (r : Int32) (u : Unit) => (r = (-1)) ∨ (RG r 0 3 ∧ RG p1 0 255)) (fun (u : Unit) t => va_P (dC, dI) vwCl [] t.heap ∧ va_K (dC, dI) vwCl [] t ∧ va_D (va_A [] sz) []) (va_A [] sz)) 0 0 (va_A [] sz) := by
  refine Met.ofW (cc := cJ1_indexOf_4cfef) (maxL := 4) (ret := (some .int)) (by decide +kernel) rfl ?_
  intro p e s m args below meth c s₁ B hml hv
  obtain ⟨rfl, hsz, hP, hK, hD0, hE_31⟩ := hv
  have hx := B.exec
  have hb := B.bytes
  have hr := B.returns
  have hts := atoms_spec (ws := wf_c_J1_indexOf_4cfef_3) B.pre
  have hown : s.vm.findClass RJ1 = some m.cls := findClass_of_methodNamed B.named
  have hlocks := B.notSynchronized
  subst hsz
  have hD := hD0.self (sz := s.heap.size)
  generalize hAe : va_A [] s.heap.size = A at hD hE_31 ⊢
  have hA : ∀ q : Nat, s.heap.size ≤ q → A q := fun q h => by rw [← hAe]; exact Or.inr h
  have hP : va_P (dC, dI) vwCl [] s.heap := hP
  have hl := lv_entry ([.ref tv3, .int p1, .int 0, .int 4]) (n := 4) (Nat.le_of_ble_eq_true rfl)
  rw [lg_entry_eq]
  generalize (lg_sl ([.ref tv3, .int p1, .int 0, .int 4]) ++ List.replicate (4 - (lg_sl ([.ref tv3, .int p1, .int 0, .int 4])).length) Slot.unset).toArray = ls at hl ⊢
  have hl : lv_has ls 4 [(0, .ref tv3), (1, .int p1), (2, .int 0), (3, .int 4)] := hl
  obtain ⟨H, hHe⟩ : ∃ H : Heap, s.heap = H := ⟨_, rfl⟩
  have hS : va_S A s.heap H [] := by rw [hHe]; exact va_S.rf
  have hP : va_P (dC, dI) vwCl [] H := by rw [← hHe]; exact hP
  rw [hHe]
  refine lv_iload_n hx hb dJ1_indexOf_4cfef_0 rfl (lv_at hl 1 rfl) ?_
  as_aux_lemma =>
  obtain ⟨hPc, hDc, hFc, hqc⟩ := cl_cut (wc := []) hP hD hS hA [] (by decide +kernel) rfl
  have hKc := hK.sub (tys' := []) [] rfl
  refine va_calli (va_runS (As := [.int p1]) (rest := []) ⟨hx, hb, hml, hown, hts⟩ (c_J1_canEncode_9a6ad l dC dI H.size p1 g_p1) (va_cwS 1 hts gf_c_J1_indexOf_4cfef_3_c_J1_canEncode_9a6ad rfl rfl rfl md_J1_canEncode_9a6ad ⟨Nat.le_of_ble_eq_true rfl, Nat.le_of_ble_eq_true rfl⟩) ⟨fun a U g mk q => by obtain ⟨q0, q1, qP, qK, qD⟩ := q; exact ⟨q0, q1, qP, va_K.moved (u := U) (U := U.calling g mk a) (Vm.Alike.refl U.vm) qK, qD⟩, fun U hU hW => ⟨rfl, by rw [hU], by rw [hU]; exact hPc, va_K.moved hW.alike hKc, hDc.weaken (fun _ _ _ _ => trivial)⟩⟩ rfl rfl hl.1 rfl (lv_room (Nat.le_of_ble_eq_true rfl)) dJ1_indexOf_4cfef_1 ⟨Nat.le_of_ble_eq_true rfl, Nat.le_of_ble_eq_true rfl⟩) hS (fun q _ h => hFc q h) hFc (fun r_1 u t H1 locs ht hvm hw hB hz1 hk1 hS => ?_)
  obtain ⟨hP1, hK1, hD1⟩ := hB
  rw [ht] at hP1
  have hP := bv_still hP hk1
  generalize H1 = H at hP hS ⊢
  as_aux_lemma =>
  rcases hw with ⟨h_2, h_3⟩ | ⟨h_4, h_5⟩
  · rw [h_2]
    refine lv_if_ne (tgt := 9) hx hb dJ1_indexOf_4cfef_4 rfl (fun c_6 => absurd c_6 (by decide +kernel)) (fun c_6 => ?_)
    refine lv_iconst (v := (-1)) hx hb dJ1_indexOf_4cfef_7 kc_iconst_m1 ?_
    have hK9 := hK.sub (tys' := []) [] rfl
    exact W.iret (v := (-1)) hx hb hr (fun t ht hW => ⟨⟨(-1), (), rfl, (Or.inl rfl), by rw [ht]; exact hP, va_K.moved hW.alike hK9, hD⟩, hS.F ht⟩) hS.2.2 dJ1_indexOf_4cfef_8
  · rw [h_4]
    refine lv_if_ne (tgt := 9) hx hb dJ1_indexOf_4cfef_4 rfl (fun c_7 => ?_) (fun c_7 => absurd c_7 (by decide +kernel))
    refine lv_iload_n hx hb dJ1_indexOf_4cfef_9 rfl (lv_at hl 2 rfl) ?_
    refine lv_iconst (v := 0) hx hb dJ1_indexOf_4cfef_10 kc_iconst_0 ?_
    refine va_mmax hx hb (by rw [hml]; exact hl.1.symm) hown (hts (.methodLink RJ1 92 Lib.Math.max.name) (List.mem_of_getElem? (i := 5) rfl)) (hts (.static Lib.Math.max.name) (List.mem_of_getElem? (i := 6) rfl)) (hts (.initialized "java/lang/Math") (List.mem_of_getElem? (i := 7) rfl)) (hts (.code Lib.Math.max.name Lib.Math.max.code 2 (some .int)) (List.mem_of_getElem? (i := 8) rfl)) (Nat.le_of_ble_eq_true rfl) (Nat.le_of_ble_eq_true rfl) (Nat.le_of_ble_eq_true rfl) (Nat.le_of_ble_eq_true rfl) dJ1_indexOf_4cfef_11 ?_
    refine lv_topi (fun x_8 ex_8 => ?_)
    have g_9 : RG x_8 0 0 := RG_max ex_8 (RG_k 0 0 rfl) (RG_k 0 0 rfl) (by decide +kernel)
    refine lv_istore_n (lv' := [(2, .int x_8), (0, .ref tv3), (1, .int p1), (3, .int 4)]) hx hb dJ1_indexOf_4cfef_14 rfl hl (Nat.le_of_ble_eq_true rfl) rfl (fun ls hl => ?_)
    as_aux_lemma =>
    refine lv_iload_n hx hb dJ1_indexOf_4cfef_15 rfl (lv_at hl 3 rfl) ?_
    refine lv_aload_n hx hb dJ1_indexOf_4cfef_16 rfl (lv_at hl 1 rfl) ?_
    refine va_tlen (v := 4) hx hb hE_31 hS rfl dJ1_indexOf_4cfef_17 ?_
    refine va_mmin hx hb (by rw [hml]; exact hl.1.symm) hown (hts (.methodLink RJ1 38 Lib.Math.min.name) (List.mem_of_getElem? (i := 9) rfl)) (hts (.static Lib.Math.min.name) (List.mem_of_getElem? (i := 10) rfl)) (hts (.initialized "java/lang/Math") (List.mem_of_getElem? (i := 7) rfl)) (hts (.code Lib.Math.min.name Lib.Math.min.code 2 (some .int)) (List.mem_of_getElem? (i := 11) rfl)) (Nat.le_of_ble_eq_true rfl) (Nat.le_of_ble_eq_true rfl) (Nat.le_of_ble_eq_true rfl) (Nat.le_of_ble_eq_true rfl) dJ1_indexOf_4cfef_18 ?_
    refine lv_topi (fun x_10 ex_10 => ?_)
    have g_11 : RG x_10 4 4 := RG_min ex_10 (RG_k 4 4 rfl) (RG_k 4 4 rfl) (by decide +kernel)
    refine lv_istore_n (lv' := [(3, .int x_10), (2, .int x_8), (0, .ref tv3), (1, .int p1)]) hx hb dJ1_indexOf_4cfef_21 rfl hl (Nat.le_of_ble_eq_true rfl) rfl (fun ls hl => ?_)
    refine lv_iload_n hx hb dJ1_indexOf_4cfef_22 rfl (lv_at hl 1 rfl) ?_
    refine lv_iload_n hx hb dJ1_indexOf_4cfef_23 rfl (lv_at hl 0 rfl) ?_
    refine lv_icmp_lt (tgt := 29) hx hb dJ1_indexOf_4cfef_24 rfl (fun c_12 => ?_) (fun c_12 => ?_)
    · refine lv_aload_n hx hb dJ1_indexOf_4cfef_29 rfl (lv_at hl 2 rfl) ?_
      refine lv_iload_n hx hb dJ1_indexOf_4cfef_30 rfl (lv_at hl 3 rfl) ?_
      refine lv_iload_n hx hb dJ1_indexOf_4cfef_31 rfl (lv_at hl 1 rfl) ?_
      refine lv_iload_n hx hb dJ1_indexOf_4cfef_32 rfl (lv_at hl 0 rfl) ?_
      as_aux_lemma =>
      obtain ⟨hPc, hDc, hFc, hqc⟩ := cl_cut (wc := []) hP hD hS hA [] (by decide +kernel) rfl
      have hKc := hK.sub (tys' := []) [] rfl
      refine va_calli (va_runS (As := [.ref tv3, .int p1, .int x_8, .int x_10]) (rest := []) ⟨hx, hb, hml, hown, hts⟩ (c_J1_indexOfChar_4cfef_3 l dC dI H.size tv3 p1 x_8 x_10 h_5 g_9 g_11) (va_cwS 4 hts gf_c_J1_indexOf_4cfef_3_c_J1_indexOfChar_4cfef_3 rfl rfl rfl md_J1_indexOfChar_4cfef ⟨Nat.le_of_ble_eq_true rfl, Nat.le_of_ble_eq_true rfl⟩) ⟨fun a U g mk q => by obtain ⟨q0, q1, qP, qK, qD, qE0⟩ := q; exact ⟨q0, q1, qP, va_K.moved (u := U) (U := U.calling g mk a) (Vm.Alike.refl U.vm) qK, qD, va_T.moved (u := U) (U := U.calling g mk a) (Vm.Alike.refl U.vm) qE0⟩, fun U hU hW => ⟨rfl, by rw [hU], by rw [hU]; exact hPc, va_K.moved hW.alike hKc, hDc.weaken (fun _ _ _ _ => trivial), va_T.moved hW.alike (by rw [hU]; exact (hE_31.kept hS.2.1).narrow hFc)⟩⟩ rfl rfl hl.1 rfl (lv_room (Nat.le_of_ble_eq_true rfl)) dJ1_indexOf_4cfef_33 ⟨Nat.le_of_ble_eq_true rfl, Nat.le_of_ble_eq_true rfl⟩) hS (fun q _ h => hFc q h) hFc (fun r_13 u t H1 locs ht hvm hw hB hz1 hk1 hS => ?_)
      obtain ⟨hP1, hK1, hD1⟩ := hB
      rw [ht] at hP1
      have hP := bv_still hP hk1
      generalize H1 = H at hP hS ⊢
      as_aux_lemma =>
      rcases hw with h_14 | h_15
      · rw [h_14]
        have hK9 := hK.sub (tys' := []) [] rfl
        exact W.iret (v := (-1)) hx hb hr (fun t ht hW => ⟨⟨(-1), (), rfl, (Or.inl rfl), by rw [ht]; exact hP, va_K.moved hW.alike hK9, hD⟩, hS.F ht⟩) hS.2.2 dJ1_indexOf_4cfef_36
      · have hK9 := hK.sub (tys' := []) [] rfl
        exact W.iret (v := r_13) hx hb hr (fun t ht hW => ⟨⟨r_13, (), rfl, (Or.inr ⟨h_15, h_5⟩), by rw [ht]; exact hP, va_K.moved hW.alike hK9, hD⟩, hS.F ht⟩) hS.2.2 dJ1_indexOf_4cfef_36
    · have d_16 := Int32.not_lt.mp c_12
      have g_17 : RG x_10 4 0 := RG_le1 g_11 g_9 d_16 (by decide +kernel)
      exact RG_dead (RG_le1 g_11 g_9 d_16 (b' := 0) (by decide +kernel)) (by decide +kernel)
noncomputable def wf_c_J0_indexOf_7cf53_3 : List Cond := .code yJ0_indexOf_7cf53 cJ0_indexOf_7cf53 3 (some .int) :: ([.methodLink RJ0 492 yJ0_isLatin1_aae02, .instanceMethod yJ0_isLatin1_aae02, .selects RJ0 yJ0_isLatin1_aae02 yJ0_isLatin1_aae02, .initialized RJ0, .code yJ0_isLatin1_aae02 cJ0_isLatin1_aae02 1 (some .boolean), .fieldLink RJ0 38 "java/lang/String" "COMPACT_STRINGS" "Z", .fieldLink RJ0 15 "java/lang/String" "coder" "B", .fieldLink RJ0 9 "java/lang/String" "value" "[B", .methodLink RJ0 505 yJ0_length_8abf5, .instanceMethod yJ0_length_8abf5, .selects RJ0 yJ0_length_8abf5 yJ0_length_8abf5, .code yJ0_length_8abf5 cJ0_length_8abf5 1 (some .int), .methodLink RJ0 335 yJ0_coder_7d493, .instanceMethod yJ0_coder_7d493, .selects RJ0 yJ0_coder_7d493 yJ0_coder_7d493, .code yJ0_coder_7d493 cJ0_coder_7d493 1 (some .byte), .methodLink RJ0 637 yJ1_indexOf_4cfef, .static yJ1_indexOf_4cfef, .initialized RJ1, .code yJ1_indexOf_4cfef cJ1_indexOf_4cfef 4 (some .int), .methodLink RJ1 88 yJ1_canEncode_9a6ad, .static yJ1_canEncode_9a6ad, .code yJ1_canEncode_9a6ad cJ1_canEncode_9a6ad 1 (some .boolean), .methodLink RJ1 92 Lib.Math.max.name, .static Lib.Math.max.name, .initialized "java/lang/Math", .code Lib.Math.max.name Lib.Math.max.code 2 (some .int), .methodLink RJ1 38 Lib.Math.min.name, .static Lib.Math.min.name, .code Lib.Math.min.name Lib.Math.min.code 2 (some .int), .methodLink RJ1 95 yJ1_indexOfChar_4cfef, .static yJ1_indexOfChar_4cfef, .code yJ1_indexOfChar_4cfef cJ1_indexOfChar_4cfef 6 (some .int)])
set_option maxRecDepth 20000 in
theorem gf_c_J0_indexOf_7cf53_3_c_J0_isLatin1_aae02_3 : GoodIn wf_c_J0_indexOf_7cf53_3 (wsV RJ0 492 RJ0 yJ0_isLatin1_aae02 wf_c_J0_isLatin1_aae02_3) := goodIn_app (gi_l [1, 2, 3, 4] rfl rfl) (gi_cons (j := 5) rfl rfl (gi_l [6, 7] rfl rfl))
set_option maxRecDepth 20000 in
theorem gf_c_J0_indexOf_7cf53_3_c_J0_length_8abf5_3 : GoodIn wf_c_J0_indexOf_7cf53_3 (wsV RJ0 505 RJ0 yJ0_length_8abf5 wf_c_J0_length_8abf5_3) := goodIn_app (gi_l [9, 10, 11, 4] rfl rfl) (gi_cons (j := 12) rfl rfl (gi_l [8, 13, 14, 15, 4, 16, 6, 7] rfl rfl))
set_option maxRecDepth 20000 in
theorem gf_c_J0_indexOf_7cf53_3_c_J1_indexOf_4cfef_3 : GoodIn wf_c_J0_indexOf_7cf53_3 (va_wsS RJ0 637 yJ1_indexOf_4cfef wf_c_J1_indexOf_4cfef_3) := goodIn_app (gi_l [17, 18, 19] rfl rfl) (gi_cons (j := 20) rfl rfl (gi_l [21, 22, 19, 23, 24, 25, 26, 27, 28, 29, 30, 31, 32, 33] rfl rfl))
set_option maxHeartbeats 4000000 in
set_option maxRecDepth 100000 in
theorem c_J0_indexOf_7cf53_3 (l : Launch) (dC : Nat → ClassId) (dI : Nat → Nat → Nat) (sz : Nat) (ts3 : Nat) (p1 : Int32) (tv3 : Nat) (g_p1 : RG p1 0 65535) : Met l yJ0_indexOf_7cf53 wf_c_J0_indexOf_7cf53_3 ({ frames := 2, cells := 0, slots := 0, locals := 48 }) (va_Pc [.ref ts3, .int p1, .int 0] (fun U => U.heap.size = sz ∧ va_P (dC, dI) vwCl [] U.heap ∧ va_K (dC, dI) vwCl [] U ∧ va_D (fun _ => True) [] ∧ va_Z "java/lang/String" "COMPACT_STRINGS" "Z" (.int 1) (va_A [] sz) U U.heap ∧ va_OF "java/lang/String" "coder" "B" (.int 0) ts3 (va_A [] sz) U U.heap ∧ va_O "java/lang/String" ts3 (va_A [] sz) U U.heap ∧ va_OF "java/lang/String" "value" "[B" (.ref tv3) ts3 (va_A [] sz) U U.heap ∧ va_T .byte tv3 4 (fun j => .int ([120, 121, 115, 118].getD j 0)) (va_A [] sz) U U.heap)) (va_Qi (fun (r : Int32) (u : Unit) => (r = (-1)) ∨ (RG r 0 3 ∧ RG p1 0 255)) (fun (u : Unit) t => va_P (dC, dI) vwCl [] t.heap ∧ va_K (dC, dI) vwCl [] t ∧ va_D (va_A [] sz) []) (va_A [] sz)) 0 0 (va_A [] sz) := by
  refine Met.ofW (cc := cJ0_indexOf_7cf53) (maxL := 3) (ret := (some .int)) (by decide +kernel) rfl ?_
  intro p e s m args below meth c s₁ B hml hv
  obtain ⟨rfl, hsz, hP, hK, hD0, hE_10, hE_29, hE_28, hE_30, hE_31⟩ := hv
  have hx := B.exec
  have hb := B.bytes
  have hr := B.returns
  have hts := atoms_spec (ws := wf_c_J0_indexOf_7cf53_3) B.pre
  have hown : s.vm.findClass RJ0 = some m.cls := findClass_of_methodNamed B.named
  have hlocks := B.notSynchronized
  subst hsz
  have hD := hD0.self (sz := s.heap.size)
  generalize hAe : va_A [] s.heap.size = A at hD hE_10 hE_29 hE_28 hE_30 hE_31 ⊢
  have hA : ∀ q : Nat, s.heap.size ≤ q → A q := fun q h => by rw [← hAe]; exact Or.inr h
  have hP : va_P (dC, dI) vwCl [] s.heap := hP
  have hl := lv_entry ([.ref ts3, .int p1, .int 0]) (n := 3) (Nat.le_of_ble_eq_true rfl)
  rw [lg_entry_eq]
  generalize (lg_sl ([.ref ts3, .int p1, .int 0]) ++ List.replicate (3 - (lg_sl ([.ref ts3, .int p1, .int 0])).length) Slot.unset).toArray = ls at hl ⊢
  have hl : lv_has ls 3 [(0, .ref ts3), (1, .int p1), (2, .int 0)] := hl
  obtain ⟨H, hHe⟩ : ∃ H : Heap, s.heap = H := ⟨_, rfl⟩
  have hS : va_S A s.heap H [] := by rw [hHe]; exact va_S.rf
  have hP : va_P (dC, dI) vwCl [] H := by rw [← hHe]; exact hP
  rw [hHe]
  refine lv_aload_n hx hb dJ0_indexOf_7cf53_0 rfl (lv_at hl 0 rfl) ?_
  as_aux_lemma =>
  obtain ⟨hPc, hDc, hFc, hqc⟩ := cl_cut (wc := []) hP hD hS hA [] (by decide +kernel) rfl
  have hKc := hK.sub (tys' := []) [] rfl
  have hrv := bv_Orecv hE_28 hS
  refine va_calli (va_runV (As := []) (rest := []) ⟨hx, hb, hml, hown, hts⟩ (c_J0_isLatin1_aae02_3 l dC dI H.size ts3) (cwV 0 hts gf_c_J0_indexOf_7cf53_3_c_J0_isLatin1_aae02_3 rfl rfl rfl mdV_J0_isLatin1_aae02 ⟨Nat.le_of_ble_eq_true rfl, Nat.le_of_ble_eq_true rfl⟩) ⟨fun a U g mk q => by obtain ⟨q0, q1, qP, qK, qD, qE0, qE1⟩ := q; exact ⟨q0, q1, qP, va_K.moved (u := U) (U := U.calling g mk a) (Vm.Alike.refl U.vm) qK, qD, va_Z.moved (u := U) (U := U.calling g mk a) (Vm.Alike.refl U.vm) qE0, va_OF.moved (u := U) (U := U.calling g mk a) (Vm.Alike.refl U.vm) qE1⟩, hrv, fun U hU hW => ⟨rfl, by rw [hU], by rw [hU]; exact hPc, va_K.moved hW.alike hKc, hDc.weaken (fun _ _ _ _ => trivial), va_Z.moved hW.alike (by rw [hU]; exact (hE_10.kept hS.2.1).narrow hFc), va_OF.moved hW.alike (by rw [hU]; exact (hE_29.kept hS.2.1).narrow hFc)⟩⟩ rfl rfl hl.1 rfl (lv_room (Nat.le_of_ble_eq_true rfl)) dJ0_indexOf_7cf53_1 ⟨Nat.le_of_ble_eq_true rfl, Nat.le_of_ble_eq_true rfl⟩) hS (fun q _ h => hFc q h) hFc (fun r_1 u t H1 locs ht hvm hw hB hz1 hk1 hS => ?_)
  obtain ⟨hP1, hK1, hD1⟩ := hB
  rw [ht] at hP1
  have hP := bv_still hP hk1
  generalize H1 = H at hP hS ⊢
  as_aux_lemma =>
  have h_2 := hw
  rw [h_2]
  refine lv_if_eq (tgt := 23) hx hb dJ0_indexOf_7cf53_4 rfl (fun c_3 => absurd c_3 (by decide +kernel)) (fun c_3 => ?_)
  refine lv_aload_n hx hb dJ0_indexOf_7cf53_7 rfl (lv_at hl 0 rfl) ?_
  refine vk_getf hx hb hE_30 hS hown (hts (.fieldLink RJ0 9 "java/lang/String" "value" "[B") (List.mem_of_getElem? (i := 8) rfl)) (fun _ h9 => h9) dJ0_indexOf_7cf53_8 ?_
  refine lv_iload_n hx hb dJ0_indexOf_7cf53_11 rfl (lv_at hl 1 rfl) ?_
  refine lv_iload_n hx hb dJ0_indexOf_7cf53_12 rfl (lv_at hl 2 rfl) ?_
  refine lv_aload_n hx hb dJ0_indexOf_7cf53_13 rfl (lv_at hl 0 rfl) ?_
  obtain ⟨hPc, hDc, hFc, hqc⟩ := cl_cut (wc := []) hP hD hS hA [] (by decide +kernel) rfl
  have hKc := hK.sub (tys' := []) [] rfl
  have hrv := bv_Orecv hE_28 hS
  refine va_calli (va_runV (As := []) (rest := [.int 0, .int p1, .ref tv3]) ⟨hx, hb, hml, hown, hts⟩ (c_J0_length_8abf5_3 l dC dI H.size ts3 tv3) (cwV 0 hts gf_c_J0_indexOf_7cf53_3_c_J0_length_8abf5_3 rfl rfl rfl mdV_J0_length_8abf5 ⟨Nat.le_of_ble_eq_true rfl, Nat.le_of_ble_eq_true rfl⟩) ⟨fun a U g mk q => by obtain ⟨q0, q1, qP, qK, qD, qE0, qE1, qE2, qE3, qE4⟩ := q; exact ⟨q0, q1, qP, va_K.moved (u := U) (U := U.calling g mk a) (Vm.Alike.refl U.vm) qK, qD, va_OF.moved (u := U) (U := U.calling g mk a) (Vm.Alike.refl U.vm) qE0, va_T.moved (u := U) (U := U.calling g mk a) (Vm.Alike.refl U.vm) qE1, va_Z.moved (u := U) (U := U.calling g mk a) (Vm.Alike.refl U.vm) qE2, va_OF.moved (u := U) (U := U.calling g mk a) (Vm.Alike.refl U.vm) qE3, va_O.moved (u := U) (U := U.calling g mk a) (Vm.Alike.refl U.vm) qE4⟩, hrv, fun U hU hW => ⟨rfl, by rw [hU], by rw [hU]; exact hPc, va_K.moved hW.alike hKc, hDc.weaken (fun _ _ _ _ => trivial), va_OF.moved hW.alike (by rw [hU]; exact (hE_30.kept hS.2.1).narrow hFc), va_T.moved hW.alike (by rw [hU]; exact (hE_31.kept hS.2.1).narrow hFc), va_Z.moved hW.alike (by rw [hU]; exact (hE_10.kept hS.2.1).narrow hFc), va_OF.moved hW.alike (by rw [hU]; exact (hE_29.kept hS.2.1).narrow hFc), va_O.moved hW.alike (by rw [hU]; exact (hE_28.kept hS.2.1).narrow hFc)⟩⟩ rfl rfl hl.1 rfl (lv_room (Nat.le_of_ble_eq_true rfl)) dJ0_indexOf_7cf53_14 ⟨Nat.le_of_ble_eq_true rfl, Nat.le_of_ble_eq_true rfl⟩) hS (fun q _ h => hFc q h) hFc (fun r_4 u t H1 locs ht hvm hw hB hz1 hk1 hS => ?_)
  obtain ⟨hP1, hK1, hD1⟩ := hB
  rw [ht] at hP1
  have hP := bv_still hP hk1
  generalize H1 = H at hP hS ⊢
  as_aux_lemma =>
  have h_5 := hw
  rw [h_5]
  obtain ⟨hPc, hDc, hFc, hqc⟩ := cl_cut (wc := []) hP hD hS hA [] (by decide +kernel) rfl
  have hKc := hK.sub (tys' := []) [] rfl
  refine va_calli (va_runS (As := [.ref tv3, .int p1, .int 0, .int 4]) (rest := []) ⟨hx, hb, hml, hown, hts⟩ (c_J1_indexOf_4cfef_3 l dC dI H.size tv3 p1 g_p1) (va_cwS 4 hts gf_c_J0_indexOf_7cf53_3_c_J1_indexOf_4cfef_3 rfl rfl rfl md_J1_indexOf_4cfef ⟨Nat.le_of_ble_eq_true rfl, Nat.le_of_ble_eq_true rfl⟩) ⟨fun a U g mk q => by obtain ⟨q0, q1, qP, qK, qD, qE0⟩ := q; exact ⟨q0, q1, qP, va_K.moved (u := U) (U := U.calling g mk a) (Vm.Alike.refl U.vm) qK, qD, va_T.moved (u := U) (U := U.calling g mk a) (Vm.Alike.refl U.vm) qE0⟩, fun U hU hW => ⟨rfl, by rw [hU], by rw [hU]; exact hPc, va_K.moved hW.alike hKc, hDc.weaken (fun _ _ _ _ => trivial), va_T.moved hW.alike (by rw [hU]; exact (hE_31.kept hS.2.1).narrow hFc)⟩⟩ rfl rfl hl.1 rfl (lv_room (Nat.le_of_ble_eq_true rfl)) dJ0_indexOf_7cf53_17 ⟨Nat.le_of_ble_eq_true rfl, Nat.le_of_ble_eq_true rfl⟩) hS (fun q _ h => hFc q h) hFc (fun r_6 u t H1 locs ht hvm hw hB hz1 hk1 hS => ?_)
  obtain ⟨hP1, hK1, hD1⟩ := hB
  rw [ht] at hP1
  have hP := bv_still hP hk1
  generalize H1 = H at hP hS ⊢
  as_aux_lemma =>
  rcases hw with h_7 | ⟨h_8, h_9⟩
  · rw [h_7]
    refine lv_goto (tgt := 36) hx hb dJ0_indexOf_7cf53_20 rfl ?_
    have hK9 := hK.sub (tys' := []) [] rfl
    exact W.iret (v := (-1)) hx hb hr (fun t ht hW => ⟨⟨(-1), (), rfl, (Or.inl rfl), by rw [ht]; exact hP, va_K.moved hW.alike hK9, hD⟩, hS.F ht⟩) hS.2.2 dJ0_indexOf_7cf53_36
  · refine lv_goto (tgt := 36) hx hb dJ0_indexOf_7cf53_20 rfl ?_
    have hK9 := hK.sub (tys' := []) [] rfl
    exact W.iret (v := r_6) hx hb hr (fun t ht hW => ⟨⟨r_6, (), rfl, (Or.inr ⟨h_8, h_9⟩), by rw [ht]; exact hP, va_K.moved hW.alike hK9, hD⟩, hS.F ht⟩) hS.2.2 dJ0_indexOf_7cf53_36
noncomputable def wf_c_J0_indexOf_0f7a4_3 : List Cond := .code yJ0_indexOf_0f7a4 cJ0_indexOf_0f7a4 2 (some .int) :: ([.methodLink RJ0 633 yJ0_indexOf_7cf53, .instanceMethod yJ0_indexOf_7cf53, .selects RJ0 yJ0_indexOf_7cf53 yJ0_indexOf_7cf53, .initialized RJ0, .code yJ0_indexOf_7cf53 cJ0_indexOf_7cf53 3 (some .int), .methodLink RJ0 492 yJ0_isLatin1_aae02, .instanceMethod yJ0_isLatin1_aae02, .selects RJ0 yJ0_isLatin1_aae02 yJ0_isLatin1_aae02, .code yJ0_isLatin1_aae02 cJ0_isLatin1_aae02 1 (some .boolean), .fieldLink RJ0 38 "java/lang/String" "COMPACT_STRINGS" "Z", .fieldLink RJ0 15 "java/lang/String" "coder" "B", .fieldLink RJ0 9 "java/lang/String" "value" "[B", .methodLink RJ0 505 yJ0_length_8abf5, .instanceMethod yJ0_length_8abf5, .selects RJ0 yJ0_length_8abf5 yJ0_length_8abf5, .code yJ0_length_8abf5 cJ0_length_8abf5 1 (some .int), .methodLink RJ0 335 yJ0_coder_7d493, .instanceMethod yJ0_coder_7d493, .selects RJ0 yJ0_coder_7d493 yJ0_coder_7d493, .code yJ0_coder_7d493 cJ0_coder_7d493 1 (some .byte), .methodLink RJ0 637 yJ1_indexOf_4cfef, .static yJ1_indexOf_4cfef, .initialized RJ1, .code yJ1_indexOf_4cfef cJ1_indexOf_4cfef 4 (some .int), .methodLink RJ1 88 yJ1_canEncode_9a6ad, .static yJ1_canEncode_9a6ad, .code yJ1_canEncode_9a6ad cJ1_canEncode_9a6ad 1 (some .boolean), .methodLink RJ1 92 Lib.Math.max.name, .static Lib.Math.max.name, .initialized "java/lang/Math", .code Lib.Math.max.name Lib.Math.max.code 2 (some .int), .methodLink RJ1 38 Lib.Math.min.name, .static Lib.Math.min.name, .code Lib.Math.min.name Lib.Math.min.code 2 (some .int), .methodLink RJ1 95 yJ1_indexOfChar_4cfef, .static yJ1_indexOfChar_4cfef, .code yJ1_indexOfChar_4cfef cJ1_indexOfChar_4cfef 6 (some .int)])
set_option maxRecDepth 20000 in
theorem gf_c_J0_indexOf_0f7a4_3_c_J0_indexOf_7cf53_3 : GoodIn wf_c_J0_indexOf_0f7a4_3 (wsV RJ0 633 RJ0 yJ0_indexOf_7cf53 wf_c_J0_indexOf_7cf53_3) := goodIn_app (gi_l [1, 2, 3, 4] rfl rfl) (gi_cons (j := 5) rfl rfl (gi_l [6, 7, 8, 4, 9, 10, 11, 12, 13, 14, 15, 16, 17, 18, 19, 20, 21, 22, 23, 24, 25, 26, 27, 28, 29, 30, 31, 32, 33, 34, 35, 36, 37] rfl rfl))
set_option maxHeartbeats 4000000 in
set_option maxRecDepth 100000 in
theorem c_J0_indexOf_0f7a4_3 (l : Launch) (dC : Nat → ClassId) (dI : Nat → Nat → Nat) (sz : Nat) (ts3 : Nat) (p1 : Int32) (tv3 : Nat) (g_p1 : RG p1 0 65535) : Met l yJ0_indexOf_0f7a4 wf_c_J0_indexOf_0f7a4_3 ({ frames := 3, cells := 0, slots := 0, locals := 70 }) (va_Pc [.ref ts3, .int p1] (fun U => U.heap.size = sz ∧ va_P (dC, dI) vwCl [] U.heap ∧ va_K (dC, dI) vwCl [] U ∧ va_D (fun _ => True) [] ∧ va_Z "java/lang/String" "COMPACT_STRINGS" "Z" (.int 1) (va_A [] sz) U U.heap ∧ va_OF "java/lang/String" "coder" "B" (.int 0) ts3 (va_A [] sz) U U.heap ∧ va_O "java/lang/String" ts3 (va_A [] sz) U U.heap ∧ va_OF "java/lang/String" "value" "[B" (.ref tv3) ts3 (va_A [] sz) U U.heap ∧ va_T .byte tv3 4 (fun j => .int ([120, 121, 115, 118].getD j 0)) (va_A [] sz) U U.heap)) (va_Qi (fun (r : Int32) (u : Unit) => (r = (-1)) ∨ (RG r 0 3 ∧ RG p1 0 255)) (fun (u : Unit) t => va_P (dC, dI) vwCl [] t.heap ∧ va_K (dC, dI) vwCl [] t ∧ va_D (va_A [] sz) []) (va_A [] sz)) 0 0 (va_A [] sz) := by
  refine Met.ofW (cc := cJ0_indexOf_0f7a4) (maxL := 2) (ret := (some .int)) (by decide +kernel) rfl ?_
  intro p e s m args below meth c s₁ B hml hv
  obtain ⟨rfl, hsz, hP, hK, hD0, hE_10, hE_29, hE_28, hE_30, hE_31⟩ := hv
  have hx := B.exec
  have hb := B.bytes
  have hr := B.returns
  have hts := atoms_spec (ws := wf_c_J0_indexOf_0f7a4_3) B.pre
  have hown : s.vm.findClass RJ0 = some m.cls := findClass_of_methodNamed B.named
  have hlocks := B.notSynchronized
  subst hsz
  have hD := hD0.self (sz := s.heap.size)
  generalize hAe : va_A [] s.heap.size = A at hD hE_10 hE_29 hE_28 hE_30 hE_31 ⊢
  have hA : ∀ q : Nat, s.heap.size ≤ q → A q := fun q h => by rw [← hAe]; exact Or.inr h
  have hP : va_P (dC, dI) vwCl [] s.heap := hP
  have hl := lv_entry ([.ref ts3, .int p1]) (n := 2) (Nat.le_of_ble_eq_true rfl)
  rw [lg_entry_eq]
  generalize (lg_sl ([.ref ts3, .int p1]) ++ List.replicate (2 - (lg_sl ([.ref ts3, .int p1])).length) Slot.unset).toArray = ls at hl ⊢
  have hl : lv_has ls 2 [(0, .ref ts3), (1, .int p1)] := hl
  obtain ⟨H, hHe⟩ : ∃ H : Heap, s.heap = H := ⟨_, rfl⟩
  have hS : va_S A s.heap H [] := by rw [hHe]; exact va_S.rf
  have hP : va_P (dC, dI) vwCl [] H := by rw [← hHe]; exact hP
  rw [hHe]
  refine lv_aload_n hx hb dJ0_indexOf_0f7a4_0 rfl (lv_at hl 0 rfl) ?_
  as_aux_lemma =>
  refine lv_iload_n hx hb dJ0_indexOf_0f7a4_1 rfl (lv_at hl 1 rfl) ?_
  refine lv_iconst (v := 0) hx hb dJ0_indexOf_0f7a4_2 kc_iconst_0 ?_
  obtain ⟨hPc, hDc, hFc, hqc⟩ := cl_cut (wc := []) hP hD hS hA [] (by decide +kernel) rfl
  have hKc := hK.sub (tys' := []) [] rfl
  have hrv := bv_Orecv hE_28 hS
  refine va_calli (va_runV (As := [.int p1, .int 0]) (rest := []) ⟨hx, hb, hml, hown, hts⟩ (c_J0_indexOf_7cf53_3 l dC dI H.size ts3 p1 tv3 g_p1) (cwV 2 hts gf_c_J0_indexOf_0f7a4_3_c_J0_indexOf_7cf53_3 rfl rfl rfl mdV_J0_indexOf_7cf53 ⟨Nat.le_of_ble_eq_true rfl, Nat.le_of_ble_eq_true rfl⟩) ⟨fun a U g mk q => by obtain ⟨q0, q1, qP, qK, qD, qE0, qE1, qE2, qE3, qE4⟩ := q; exact ⟨q0, q1, qP, va_K.moved (u := U) (U := U.calling g mk a) (Vm.Alike.refl U.vm) qK, qD, va_Z.moved (u := U) (U := U.calling g mk a) (Vm.Alike.refl U.vm) qE0, va_OF.moved (u := U) (U := U.calling g mk a) (Vm.Alike.refl U.vm) qE1, va_O.moved (u := U) (U := U.calling g mk a) (Vm.Alike.refl U.vm) qE2, va_OF.moved (u := U) (U := U.calling g mk a) (Vm.Alike.refl U.vm) qE3, va_T.moved (u := U) (U := U.calling g mk a) (Vm.Alike.refl U.vm) qE4⟩, hrv, fun U hU hW => ⟨rfl, by rw [hU], by rw [hU]; exact hPc, va_K.moved hW.alike hKc, hDc.weaken (fun _ _ _ _ => trivial), va_Z.moved hW.alike (by rw [hU]; exact (hE_10.kept hS.2.1).narrow hFc), va_OF.moved hW.alike (by rw [hU]; exact (hE_29.kept hS.2.1).narrow hFc), va_O.moved hW.alike (by rw [hU]; exact (hE_28.kept hS.2.1).narrow hFc), va_OF.moved hW.alike (by rw [hU]; exact (hE_30.kept hS.2.1).narrow hFc), va_T.moved hW.alike (by rw [hU]; exact (hE_31.kept hS.2.1).narrow hFc)⟩⟩ rfl rfl hl.1 rfl (lv_room (Nat.le_of_ble_eq_true rfl)) dJ0_indexOf_0f7a4_3 ⟨Nat.le_of_ble_eq_true rfl, Nat.le_of_ble_eq_true rfl⟩) hS (fun q _ h => hFc q h) hFc (fun r_1 u t H1 locs ht hvm hw hB hz1 hk1 hS => ?_)
  obtain ⟨hP1, hK1, hD1⟩ := hB
  rw [ht] at hP1
  have hP := bv_still hP hk1
  generalize H1 = H at hP hS ⊢
  as_aux_lemma =>
  rcases hw with h_2 | ⟨h_3, h_4⟩
  · rw [h_2]
    have hK9 := hK.sub (tys' := []) [] rfl
    exact W.iret (v := (-1)) hx hb hr (fun t ht hW => ⟨⟨(-1), (), rfl, (Or.inl rfl), by rw [ht]; exact hP, va_K.moved hW.alike hK9, hD⟩, hS.F ht⟩) hS.2.2 dJ0_indexOf_0f7a4_6
  · have hK9 := hK.sub (tys' := []) [] rfl
    exact W.iret (v := r_1) hx hb hr (fun t ht hW => ⟨⟨r_1, (), rfl, (Or.inr ⟨h_3, h_4⟩), by rw [ht]; exact hP, va_K.moved hW.alike hK9, hD⟩, hS.F ht⟩) hS.2.2 dJ0_indexOf_0f7a4_6
noncomputable def wf_c_X0_placeIn_7 : List Cond := .code yX0_placeIn cX0_placeIn 2 (some .int) :: ([.methodLink RX0 128 yJ0_indexOf_0f7a4, .instanceMethod yJ0_indexOf_0f7a4, .selects RJ0 yJ0_indexOf_0f7a4 yJ0_indexOf_0f7a4, .initialized RJ0, .code yJ0_indexOf_0f7a4 cJ0_indexOf_0f7a4 2 (some .int), .methodLink RJ0 633 yJ0_indexOf_7cf53, .instanceMethod yJ0_indexOf_7cf53, .selects RJ0 yJ0_indexOf_7cf53 yJ0_indexOf_7cf53, .code yJ0_indexOf_7cf53 cJ0_indexOf_7cf53 3 (some .int), .methodLink RJ0 492 yJ0_isLatin1_aae02, .instanceMethod yJ0_isLatin1_aae02, .selects RJ0 yJ0_isLatin1_aae02 yJ0_isLatin1_aae02, .code yJ0_isLatin1_aae02 cJ0_isLatin1_aae02 1 (some .boolean), .fieldLink RJ0 38 "java/lang/String" "COMPACT_STRINGS" "Z", .fieldLink RJ0 15 "java/lang/String" "coder" "B", .fieldLink RJ0 9 "java/lang/String" "value" "[B", .methodLink RJ0 505 yJ0_length_8abf5, .instanceMethod yJ0_length_8abf5, .selects RJ0 yJ0_length_8abf5 yJ0_length_8abf5, .code yJ0_length_8abf5 cJ0_length_8abf5 1 (some .int), .methodLink RJ0 335 yJ0_coder_7d493, .instanceMethod yJ0_coder_7d493, .selects RJ0 yJ0_coder_7d493 yJ0_coder_7d493, .code yJ0_coder_7d493 cJ0_coder_7d493 1 (some .byte), .methodLink RJ0 637 yJ1_indexOf_4cfef, .static yJ1_indexOf_4cfef, .initialized RJ1, .code yJ1_indexOf_4cfef cJ1_indexOf_4cfef 4 (some .int), .methodLink RJ1 88 yJ1_canEncode_9a6ad, .static yJ1_canEncode_9a6ad, .code yJ1_canEncode_9a6ad cJ1_canEncode_9a6ad 1 (some .boolean), .methodLink RJ1 92 Lib.Math.max.name, .static Lib.Math.max.name, .initialized "java/lang/Math", .code Lib.Math.max.name Lib.Math.max.code 2 (some .int), .methodLink RJ1 38 Lib.Math.min.name, .static Lib.Math.min.name, .code Lib.Math.min.name Lib.Math.min.code 2 (some .int), .methodLink RJ1 95 yJ1_indexOfChar_4cfef, .static yJ1_indexOfChar_4cfef, .code yJ1_indexOfChar_4cfef cJ1_indexOfChar_4cfef 6 (some .int)])
set_option maxRecDepth 20000 in
theorem gf_c_X0_placeIn_7_c_J0_indexOf_0f7a4_3 : GoodIn wf_c_X0_placeIn_7 (wsV RX0 128 RJ0 yJ0_indexOf_0f7a4 wf_c_J0_indexOf_0f7a4_3) := goodIn_app (gi_l [1, 2, 3, 4] rfl rfl) (gi_cons (j := 5) rfl rfl (gi_l [6, 7, 8, 4, 9, 10, 11, 12, 13, 14, 15, 16, 17, 18, 19, 20, 21, 22, 23, 24, 25, 26, 27, 28, 29, 30, 31, 32, 33, 34, 35, 36, 37, 38, 39, 40, 41] rfl rfl))
set_option maxHeartbeats 4000000 in
set_option maxRecDepth 100000 in
theorem c_X0_placeIn_7 (l : Launch) (dC : Nat → ClassId) (dI : Nat → Nat → Nat) (sz : Nat) (ts3 : Nat) (p1 : Int32) (tv3 : Nat) (g_p1 : RG p1 0 255) : Met l yX0_placeIn wf_c_X0_placeIn_7 ({ frames := 4, cells := 0, slots := 0, locals := 91 }) (va_Pc [.ref ts3, .int p1] (fun U => U.heap.size = sz ∧ va_P (dC, dI) vwCl [] U.heap ∧ va_K (dC, dI) vwCl [] U ∧ va_D (fun _ => True) [] ∧ va_Z "java/lang/String" "COMPACT_STRINGS" "Z" (.int 1) (va_A [] sz) U U.heap ∧ va_OF "java/lang/String" "coder" "B" (.int 0) ts3 (va_A [] sz) U U.heap ∧ va_O "java/lang/String" ts3 (va_A [] sz) U U.heap ∧ va_OF "java/lang/String" "value" "[B" (.ref tv3) ts3 (va_A [] sz) U U.heap ∧ va_T .byte tv3 4 (fun j => .int ([120, 121, 115, 118].getD j 0)) (va_A [] sz) U U.heap)) (va_Qi (fun (r : Int32) (u : Unit) => (r = (-1)) ∨ (RG r 0 3)) (fun (u : Unit) t => va_P (dC, dI) vwCl [] t.heap ∧ va_K (dC, dI) vwCl [] t ∧ va_D (va_A [] sz) []) (va_A [] sz)) 0 0 (va_A [] sz) := by
  refine Met.ofW (cc := cX0_placeIn) (maxL := 2) (ret := (some .int)) (by decide +kernel) rfl ?_
  intro p e s m args below meth c s₁ B hml hv
  obtain ⟨rfl, hsz, hP, hK, hD0, hE_10, hE_29, hE_28, hE_30, hE_31⟩ := hv
  have hx := B.exec
  have hb := B.bytes
  have hr := B.returns
  have hts := atoms_spec (ws := wf_c_X0_placeIn_7) B.pre
  have hown : s.vm.findClass RX0 = some m.cls := findClass_of_methodNamed B.named
  have hlocks := B.notSynchronized
  subst hsz
  have hD := hD0.self (sz := s.heap.size)
  generalize hAe : va_A [] s.heap.size = A at hD hE_10 hE_29 hE_28 hE_30 hE_31 ⊢
  have hA : ∀ q : Nat, s.heap.size ≤ q → A q := fun q h => by rw [← hAe]; exact Or.inr h
  have hP : va_P (dC, dI) vwCl [] s.heap := hP
  have hl := lv_entry ([.ref ts3, .int p1]) (n := 2) (Nat.le_of_ble_eq_true rfl)
  rw [lg_entry_eq]
  generalize (lg_sl ([.ref ts3, .int p1]) ++ List.replicate (2 - (lg_sl ([.ref ts3, .int p1])).length) Slot.unset).toArray = ls at hl ⊢
  have hl : lv_has ls 2 [(0, .ref ts3), (1, .int p1)] := hl
  obtain ⟨H, hHe⟩ : ∃ H : Heap, s.heap = H := ⟨_, rfl⟩
  have hS : va_S A s.heap H [] := by rw [hHe]; exact va_S.rf
  have hP : va_P (dC, dI) vwCl [] H := by rw [← hHe]; exact hP
  rw [hHe]
  refine lv_iload_n hx hb dX0_placeIn_0 rfl (lv_at hl 1 rfl) ?_
  as_aux_lemma =>
  refine lv_if_ge (tgt := 8) hx hb dX0_placeIn_1 rfl (fun c_1 => ?_) (fun c_1 => ?_)
  · refine lv_aload_n hx hb dX0_placeIn_8 rfl (lv_at hl 0 rfl) ?_
    refine lv_iload_n hx hb dX0_placeIn_9 rfl (lv_at hl 1 rfl) ?_
    refine lv_i2c hx hb dX0_placeIn_10 rfl ?_
    refine lv_topi (fun x_2 ex_2 => ?_)
    have g_3 : RG x_2 0 65535 := RG_i2c ex_2
    obtain ⟨hPc, hDc, hFc, hqc⟩ := cl_cut (wc := []) hP hD hS hA [] (by decide +kernel) rfl
    have hKc := hK.sub (tys' := []) [] rfl
    have hrv := bv_Orecv hE_28 hS
    refine va_calli (va_runV (As := [.int x_2]) (rest := []) ⟨hx, hb, hml, hown, hts⟩ (c_J0_indexOf_0f7a4_3 l dC dI H.size ts3 x_2 tv3 g_3) (cwV 1 hts gf_c_X0_placeIn_7_c_J0_indexOf_0f7a4_3 rfl rfl rfl mdV_J0_indexOf_0f7a4 ⟨Nat.le_of_ble_eq_true rfl, Nat.le_of_ble_eq_true rfl⟩) ⟨fun a U g mk q => by obtain ⟨q0, q1, qP, qK, qD, qE0, qE1, qE2, qE3, qE4⟩ := q; exact ⟨q0, q1, qP, va_K.moved (u := U) (U := U.calling g mk a) (Vm.Alike.refl U.vm) qK, qD, va_Z.moved (u := U) (U := U.calling g mk a) (Vm.Alike.refl U.vm) qE0, va_OF.moved (u := U) (U := U.calling g mk a) (Vm.Alike.refl U.vm) qE1, va_O.moved (u := U) (U := U.calling g mk a) (Vm.Alike.refl U.vm) qE2, va_OF.moved (u := U) (U := U.calling g mk a) (Vm.Alike.refl U.vm) qE3, va_T.moved (u := U) (U := U.calling g mk a) (Vm.Alike.refl U.vm) qE4⟩, hrv, fun U hU hW => ⟨rfl, by rw [hU], by rw [hU]; exact hPc, va_K.moved hW.alike hKc, hDc.weaken (fun _ _ _ _ => trivial), va_Z.moved hW.alike (by rw [hU]; exact (hE_10.kept hS.2.1).narrow hFc), va_OF.moved hW.alike (by rw [hU]; exact (hE_29.kept hS.2.1).narrow hFc), va_O.moved hW.alike (by rw [hU]; exact (hE_28.kept hS.2.1).narrow hFc), va_OF.moved hW.alike (by rw [hU]; exact (hE_30.kept hS.2.1).narrow hFc), va_T.moved hW.alike (by rw [hU]; exact (hE_31.kept hS.2.1).narrow hFc)⟩⟩ rfl rfl hl.1 rfl (lv_room (Nat.le_of_ble_eq_true rfl)) dX0_placeIn_11 ⟨Nat.le_of_ble_eq_true rfl, Nat.le_of_ble_eq_true rfl⟩) hS (fun q _ h => hFc q h) hFc (fun r_4 u t H1 locs ht hvm hw hB hz1 hk1 hS => ?_)
    obtain ⟨hP1, hK1, hD1⟩ := hB
    rw [ht] at hP1
    have hP := bv_still hP hk1
    generalize H1 = H at hP hS ⊢
    as_aux_lemma =>
    rcases hw with h_5 | ⟨h_6, h_7⟩
    · rw [h_5]
      have hK9 := hK.sub (tys' := []) [] rfl
      exact W.iret (v := (-1)) hx hb hr (fun t ht hW => ⟨⟨(-1), (), rfl, (Or.inl rfl), by rw [ht]; exact hP, va_K.moved hW.alike hK9, hD⟩, hS.F ht⟩) hS.2.2 dX0_placeIn_14
    · have hK9 := hK.sub (tys' := []) [] rfl
      exact W.iret (v := r_4) hx hb hr (fun t ht hW => ⟨⟨r_4, (), rfl, (Or.inr h_6), by rw [ht]; exact hP, va_K.moved hW.alike hK9, hD⟩, hS.F ht⟩) hS.2.2 dX0_placeIn_14
  · have d_8 := Int32.not_le.mp c_1
    have g_9 : RG p1 0 (-1) := RG_lt1 g_p1 (RG_k 0 0 rfl) d_8 (by decide +kernel)
    exact RG_dead (RG_lt1 g_p1 (RG_k 0 0 rfl) d_8 (b' := (-1)) (by decide +kernel)) (by decide +kernel)
noncomputable def wd_c_X0_readClause (a0 : Nat) (a1 : Nat) (a2 : Int32) (a3 : Int32) (a4 : Int32) (a5 : Nat) (a6 : ClassId) (a7 : Nat → Int32) (a8 : Nat) (a9 : Nat) (a10 : Int32) (a11 : Int32) (a12 : Int32) (a13 : Nat) (a14 : ClassId) (a15 : Nat → Int32) : va_W := [(a0, .inr (9, [.ref a1, .int a2, .int a3, .int a4])), (a5, .inl (a6, 240, .inl a7)), (a8, .inr (0, [.ref a9, .int a10, .int a11, .int a12])), (a13, .inl (a14, 80, .inl a15))]
noncomputable def wf_c_X0_readClause : List Cond := List.cons (.code yX0_readClause cX0_readClause 8 none) (@HAppend.hAppend (List Cond) (List Cond) (List Cond) _ (@HAppend.hAppend (List Cond) (List Cond) (List Cond) _ [.methodLink RX0 72 yX9_peek, .instanceMethod yX9_peek, .selects RX9 yX9_peek yX9_peek, .initialized RX9, .code yX9_peek cX9_peek 1 (some .int), .fieldLink RX9 22 "BuoyVote$Tape" "at" "I", .fieldLink RX9 19 "BuoyVote$Tape" "length" "I", .fieldLink RX9 11 "BuoyVote$Tape" "bytes" "[I", .methodLink RX0 75 yX0_placeIn, .static yX0_placeIn, .initialized RX0, .code yX0_placeIn cX0_placeIn 2 (some .int), .methodLink RX0 128 yJ0_indexOf_0f7a4, .instanceMethod yJ0_indexOf_0f7a4, .selects RJ0 yJ0_indexOf_0f7a4 yJ0_indexOf_0f7a4, .initialized RJ0, .code yJ0_indexOf_0f7a4 cJ0_indexOf_0f7a4 2 (some .int), .methodLink RJ0 633 yJ0_indexOf_7cf53, .instanceMethod yJ0_indexOf_7cf53, .selects RJ0 yJ0_indexOf_7cf53 yJ0_indexOf_7cf53, .code yJ0_indexOf_7cf53 cJ0_indexOf_7cf53 3 (some .int), .methodLink RJ0 492 yJ0_isLatin1_aae02, .instanceMethod yJ0_isLatin1_aae02, .selects RJ0 yJ0_isLatin1_aae02 yJ0_isLatin1_aae02, .code yJ0_isLatin1_aae02 cJ0_isLatin1_aae02 1 (some .boolean), .fieldLink RJ0 38 "java/lang/String" "COMPACT_STRINGS" "Z", .fieldLink RJ0 15 "java/lang/String" "coder" "B", .fieldLink RJ0 9 "java/lang/String" "value" "[B", .methodLink RJ0 505 yJ0_length_8abf5, .instanceMethod yJ0_length_8abf5, .selects RJ0 yJ0_length_8abf5 yJ0_length_8abf5, .code yJ0_length_8abf5 cJ0_length_8abf5 1 (some .int), .methodLink RJ0 335 yJ0_coder_7d493, .instanceMethod yJ0_coder_7d493, .selects RJ0 yJ0_coder_7d493 yJ0_coder_7d493, .code yJ0_coder_7d493 cJ0_coder_7d493 1 (some .byte), .methodLink RJ0 637 yJ1_indexOf_4cfef, .static yJ1_indexOf_4cfef, .initialized RJ1, .code yJ1_indexOf_4cfef cJ1_indexOf_4cfef 4 (some .int), .methodLink RJ1 88 yJ1_canEncode_9a6ad, .static yJ1_canEncode_9a6ad, .code yJ1_canEncode_9a6ad cJ1_canEncode_9a6ad 1 (some .boolean), .methodLink RJ1 92 Lib.Math.max.name, .static Lib.Math.max.name, .initialized "java/lang/Math", .code Lib.Math.max.name Lib.Math.max.code 2 (some .int), .methodLink RJ1 38 Lib.Math.min.name, .static Lib.Math.min.name, .code Lib.Math.min.name Lib.Math.min.code 2 (some .int), .methodLink RJ1 95 yJ1_indexOfChar_4cfef, .static yJ1_indexOfChar_4cfef, .code yJ1_indexOfChar_4cfef cJ1_indexOfChar_4cfef 6 (some .int), .methodLink RX0 79 yX0_hasRoomFor, .instanceMethod yX0_hasRoomFor, .selects RX0 yX0_hasRoomFor yX0_hasRoomFor, .code yX0_hasRoomFor cX0_hasRoomFor 2 (some .boolean), .fieldLink RX0 28 "BuoyVote$Borough" "ruled" "Z", .methodLink RX0 85 yX9_skip, .instanceMethod yX9_skip, .selects RX9 yX9_skip yX9_skip, .code yX9_skip cX9_skip 1 none, .methodLink RX0 88 yX0_beginClause, .instanceMethod yX0_beginClause, .selects RX0 yX0_beginClause yX0_beginClause, .code yX0_beginClause cX0_beginClause 3 (some .int), .methodLink RX0 32 yX0_setUsual, .instanceMethod yX0_setUsual, .selects RX0 yX0_setUsual yX0_setUsual, .code yX0_setUsual cX0_setUsual 5 none, .methodLink RX0 92 yX0_lettersOf, .static yX0_lettersOf, .code yX0_lettersOf cX0_lettersOf 1 (some (.object "java/lang/String")), .methodLink RX0 96 yJ0_length_8abf5, .fieldLink RX0 11 "BuoyVote$Borough" "values" "[I", .fieldLink RX0 113 "BuoyVote$Borough" "USUAL" "[I", .fieldLink RX0 103 "BuoyVote$Borough" "FIRST" "[I", .fieldLink RX0 21 "BuoyVote$Borough" "buoys" "I", .fieldLink RX0 25 "BuoyVote$Borough" "boats" "I", .methodLink RX0 82 yX9_refuseHere, .instanceMethod yX9_refuseHere, .selects RX9 yX9_refuseHere yX9_refuseHere, .code yX9_refuseHere cX9_refuseHere 1 none, .methodLink RX9 25 yX9_refuse, .instanceMethod yX9_refuse, .selects RX9 yX9_refuse yX9_refuse, .code yX9_refuse cX9_refuse 2 none, .fieldLink RX9 15 "BuoyVote$Tape" "wrong" "I", .methodLink RX0 52 yX9_isRight, .instanceMethod yX9_isRight, .selects RX9 yX9_isRight yX9_isRight, .code yX9_isRight cX9_isRight 1 (some .boolean), .fieldLink RX0 100 "BuoyVote$Borough" "LOW" "[I", .fieldLink RX0 106 "BuoyVote$Borough" "HIGH" "[I", .methodLink RX0 109 yX9_numberWithin, .instanceMethod yX9_numberWithin, .selects RX9 yX9_numberWithin yX9_numberWithin, .code yX9_numberWithin cX9_numberWithin 4 (some .int), .methodLink RX9 29 yX9_peek, .methodLink RX9 33 yX9_number, .instanceMethod yX9_number, .selects RX9 yX9_number yX9_number, .code yX9_number cX9_number 4 (some .int)] wsX90) wsX00)
theorem iw_c_X0_readClause_X9 : ∀ w ∈ wsX90, w ∈ wf_c_X0_readClause := fun w h => List.mem_cons_of_mem _ (List.mem_append_left _ (List.mem_append_right _ h))
theorem iw_c_X0_readClause_X0 : ∀ w ∈ wsX00, w ∈ wf_c_X0_readClause := fun w h => List.mem_cons_of_mem _ (List.mem_append_right _ h)
set_option maxRecDepth 20000 in
theorem gf_c_X0_readClause_c_X9_refuseHere : GoodIn wf_c_X0_readClause (wsV RX0 82 RX9 yX9_refuseHere wf_c_X9_refuseHere) := goodIn_app (gi_l [80, 81, 82, 4] rfl rfl) (gi_cons (j := 83) rfl rfl (goodIn_app (gi_l [6, 84, 85, 86, 4, 87, 88] rfl rfl) (goodIn_sub iw_c_X0_readClause_X9 gw_X9)))
set_option maxRecDepth 20000 in
theorem gf_c_X0_readClause_c_J0_length_8abf5 : GoodIn wf_c_X0_readClause (wsV RX0 96 RJ0 yJ0_length_8abf5 wf_c_J0_length_8abf5) := goodIn_app (gi_l [74, 30, 31, 16] rfl rfl) (gi_cons (j := 32) rfl rfl (gi_l [28, 33, 34, 35, 16, 36, 26, 27] rfl rfl))
set_option maxRecDepth 20000 in
theorem gf_c_X0_readClause_c_X9_isRight : GoodIn wf_c_X0_readClause (wsV RX0 52 RX9 yX9_isRight wf_c_X9_isRight) := goodIn_app (gi_l [89, 90, 91, 4] rfl rfl) (gi_cons (j := 92) rfl rfl (goodIn_app (gi_l [88] rfl rfl) (goodIn_sub iw_c_X0_readClause_X9 gw_X9)))
set_option maxRecDepth 20000 in
theorem gf_c_X0_readClause_c_X9_peek : GoodIn wf_c_X0_readClause (wsV RX0 72 RX9 yX9_peek wf_c_X9_peek) := goodIn_app (gi_l [1, 2, 3, 4] rfl rfl) (gi_cons (j := 5) rfl rfl (goodIn_app (gi_l [6, 7, 8] rfl rfl) (goodIn_sub iw_c_X0_readClause_X9 gw_X9)))
set_option maxRecDepth 20000 in
theorem gf_c_X0_readClause_c_X0_placeIn_2 : GoodIn wf_c_X0_readClause (va_wsS RX0 75 yX0_placeIn wf_c_X0_placeIn_2) := goodIn_app (gi_l [9, 10, 11] rfl rfl) (gi_cons (j := 12) rfl rfl gi_nil)
set_option maxRecDepth 20000 in
theorem gf_c_X0_readClause_c_X0_placeIn_3 : GoodIn wf_c_X0_readClause (va_wsS RX0 75 yX0_placeIn wf_c_X0_placeIn_3) := goodIn_app (gi_l [9, 10, 11] rfl rfl) (gi_cons (j := 12) rfl rfl (gi_l [13, 14, 15, 16, 17, 18, 19, 20, 21, 22, 23, 24, 25, 26, 27, 28, 29, 30, 31, 32, 33, 34, 35, 36, 37, 38, 39, 40, 41, 42, 43, 44, 45, 46, 47, 48, 49, 50, 51, 52, 53] rfl rfl))
set_option maxRecDepth 20000 in
theorem gf_c_X0_readClause_c_X9_skip : GoodIn wf_c_X0_readClause (wsV RX0 85 RX9 yX9_skip wf_c_X9_skip) := goodIn_app (gi_l [59, 60, 61, 4] rfl rfl) (gi_cons (j := 62) rfl rfl (goodIn_app (gi_l [6] rfl rfl) (goodIn_sub iw_c_X0_readClause_X9 gw_X9)))
set_option maxRecDepth 20000 in
theorem gf_c_X0_readClause_c_X9_numberWithin : GoodIn wf_c_X0_readClause (wsV RX0 109 RX9 yX9_numberWithin wf_c_X9_numberWithin) := goodIn_app (gi_l [95, 96, 97, 4] rfl rfl) (gi_cons (j := 98) rfl rfl (goodIn_app (gi_l [99, 2, 3, 4, 5, 6, 7, 8, 100, 101, 102, 103, 84, 85, 86, 87, 88] rfl rfl) (goodIn_sub iw_c_X0_readClause_X9 gw_X9)))
set_option maxRecDepth 20000 in
theorem gf_c_X0_readClause_c_J0_length_8abf5_2 : GoodIn wf_c_X0_readClause (wsV RX0 96 RJ0 yJ0_length_8abf5 wf_c_J0_length_8abf5_2) := goodIn_app (gi_l [74, 30, 31, 16] rfl rfl) (gi_cons (j := 32) rfl rfl (gi_l [28, 33, 34, 35, 16, 36, 26, 27] rfl rfl))
set_option maxRecDepth 20000 in
theorem gf_c_X0_readClause_c_X0_placeIn_4 : GoodIn wf_c_X0_readClause (va_wsS RX0 75 yX0_placeIn wf_c_X0_placeIn_4) := goodIn_app (gi_l [9, 10, 11] rfl rfl) (gi_cons (j := 12) rfl rfl gi_nil)
set_option maxRecDepth 20000 in
theorem gf_c_X0_readClause_c_X0_placeIn_5 : GoodIn wf_c_X0_readClause (va_wsS RX0 75 yX0_placeIn wf_c_X0_placeIn_5) := goodIn_app (gi_l [9, 10, 11] rfl rfl) (gi_cons (j := 12) rfl rfl (gi_l [13, 14, 15, 16, 17, 18, 19, 20, 21, 22, 23, 24, 25, 26, 27, 28, 29, 30, 31, 32, 33, 34, 35, 36, 37, 38, 39, 40, 41, 42, 43, 44, 45, 46, 47, 48, 49, 50, 51, 52, 53] rfl rfl))
set_option maxRecDepth 20000 in
theorem gf_c_X0_readClause_c_J0_length_8abf5_3 : GoodIn wf_c_X0_readClause (wsV RX0 96 RJ0 yJ0_length_8abf5 wf_c_J0_length_8abf5_3) := goodIn_app (gi_l [74, 30, 31, 16] rfl rfl) (gi_cons (j := 32) rfl rfl (gi_l [28, 33, 34, 35, 16, 36, 26, 27] rfl rfl))
set_option maxRecDepth 20000 in
theorem gf_c_X0_readClause_c_X0_placeIn_6 : GoodIn wf_c_X0_readClause (va_wsS RX0 75 yX0_placeIn wf_c_X0_placeIn_6) := goodIn_app (gi_l [9, 10, 11] rfl rfl) (gi_cons (j := 12) rfl rfl gi_nil)
set_option maxRecDepth 20000 in
theorem gf_c_X0_readClause_c_X0_placeIn_7 : GoodIn wf_c_X0_readClause (va_wsS RX0 75 yX0_placeIn wf_c_X0_placeIn_7) := goodIn_app (gi_l [9, 10, 11] rfl rfl) (gi_cons (j := 12) rfl rfl (gi_l [13, 14, 15, 16, 17, 18, 19, 20, 21, 22, 23, 24, 25, 26, 27, 28, 29, 30, 31, 32, 33, 34, 35, 36, 37, 38, 39, 40, 41, 42, 43, 44, 45, 46, 47, 48, 49, 50, 51, 52, 53] rfl rfl))
set_option maxRecDepth 20000 in
theorem gf_c_X0_readClause_c_X0_placeIn : GoodIn wf_c_X0_readClause (va_wsS RX0 75 yX0_placeIn wf_c_X0_placeIn) := goodIn_app (gi_l [9, 10, 11] rfl rfl) (gi_cons (j := 12) rfl rfl gi_nil)
set_option maxRecDepth 20000 in
theorem gf_c_X0_readClause_c_X0_placeIn_1 : GoodIn wf_c_X0_readClause (va_wsS RX0 75 yX0_placeIn wf_c_X0_placeIn_1) := goodIn_app (gi_l [9, 10, 11] rfl rfl) (gi_cons (j := 12) rfl rfl (gi_l [13, 14, 15, 16, 17, 18, 19, 20, 21, 22, 23, 24, 25, 26, 27, 28, 29, 30, 31, 32, 33, 34, 35, 36, 37, 38, 39, 40, 41, 42, 43, 44, 45, 46, 47, 48, 49, 50, 51, 52, 53] rfl rfl))
set_option maxRecDepth 20000 in
theorem gf_c_X0_readClause_c_X0_hasRoomFor : GoodIn wf_c_X0_readClause (wsV RX0 79 RX0 yX0_hasRoomFor wf_c_X0_hasRoomFor) := goodIn_app (gi_l [54, 55, 56, 11] rfl rfl) (gi_cons (j := 57) rfl rfl (goodIn_app (gi_l [58] rfl rfl) (goodIn_sub iw_c_X0_readClause_X0 gw_X0)))
set_option maxRecDepth 20000 in
theorem gf_c_X0_readClause_c_X0_beginClause : GoodIn wf_c_X0_readClause (wsV RX0 88 RX0 yX0_beginClause wf_c_X0_beginClause) := goodIn_app (gi_l [63, 64, 65, 11] rfl rfl) (gi_cons (j := 66) rfl rfl (goodIn_app (gi_l [58, 67, 68, 69, 11, 70, 71, 72, 73, 74, 30, 31, 16, 32, 28, 33, 34, 35, 36, 26, 27, 75, 76, 77] rfl rfl) (goodIn_sub iw_c_X0_readClause_X0 gw_X0)))
set_option maxRecDepth 20000 in
theorem gf_c_X0_readClause_c_X0_lettersOf : GoodIn wf_c_X0_readClause (va_wsS RX0 92 yX0_lettersOf wf_c_X0_lettersOf) := goodIn_app (gi_l [71, 72, 11] rfl rfl) (gi_cons (j := 73) rfl rfl gi_nil)
set_option maxRecDepth 20000 in
theorem gf_c_X0_readClause_c_X0_hasRoomFor_1 : GoodIn wf_c_X0_readClause (wsV RX0 79 RX0 yX0_hasRoomFor wf_c_X0_hasRoomFor_1) := goodIn_app (gi_l [54, 55, 56, 11] rfl rfl) (gi_cons (j := 57) rfl rfl (goodIn_app (gi_l [78] rfl rfl) (goodIn_sub iw_c_X0_readClause_X0 gw_X0)))
set_option maxRecDepth 20000 in
theorem gf_c_X0_readClause_c_X0_beginClause_1 : GoodIn wf_c_X0_readClause (wsV RX0 88 RX0 yX0_beginClause wf_c_X0_beginClause_1) := goodIn_app (gi_l [63, 64, 65, 11] rfl rfl) (gi_cons (j := 66) rfl rfl (goodIn_app (gi_l [78, 67, 68, 69, 11, 70, 71, 72, 73, 74, 30, 31, 16, 32, 28, 33, 34, 35, 36, 26, 27, 75, 76, 77] rfl rfl) (goodIn_sub iw_c_X0_readClause_X0 gw_X0)))
set_option maxRecDepth 20000 in
theorem gf_c_X0_readClause_c_X0_lettersOf_1 : GoodIn wf_c_X0_readClause (va_wsS RX0 92 yX0_lettersOf wf_c_X0_lettersOf_1) := goodIn_app (gi_l [71, 72, 11] rfl rfl) (gi_cons (j := 73) rfl rfl gi_nil)
set_option maxRecDepth 20000 in
theorem gf_c_X0_readClause_c_X0_hasRoomFor_2 : GoodIn wf_c_X0_readClause (wsV RX0 79 RX0 yX0_hasRoomFor wf_c_X0_hasRoomFor_2) := goodIn_app (gi_l [54, 55, 56, 11] rfl rfl) (gi_cons (j := 57) rfl rfl (goodIn_app (gi_l [79] rfl rfl) (goodIn_sub iw_c_X0_readClause_X0 gw_X0)))
set_option maxRecDepth 20000 in
theorem gf_c_X0_readClause_c_X0_beginClause_2 : GoodIn wf_c_X0_readClause (wsV RX0 88 RX0 yX0_beginClause wf_c_X0_beginClause_2) := goodIn_app (gi_l [63, 64, 65, 11] rfl rfl) (gi_cons (j := 66) rfl rfl (goodIn_app (gi_l [79, 67, 68, 69, 11, 70, 71, 72, 73, 74, 30, 31, 16, 32, 28, 33, 34, 35, 36, 26, 27, 75, 76, 77] rfl rfl) (goodIn_sub iw_c_X0_readClause_X0 gw_X0)))
set_option maxRecDepth 20000 in
theorem gf_c_X0_readClause_c_X0_lettersOf_2 : GoodIn wf_c_X0_readClause (va_wsS RX0 92 yX0_lettersOf wf_c_X0_lettersOf_2) := goodIn_app (gi_l [71, 72, 11] rfl rfl) (gi_cons (j := 73) rfl rfl gi_nil)
set_option maxHeartbeats 4000000 in
set_option maxRecDepth 100000 in
theorem c_X0_readClause (l : Launch) (dC : Nat → ClassId) (dI : Nat → Nat → Nat) (sz : Nat) (h0 : Nat) (h1 : Nat) (h1_0 : Nat) (h1_f1 : Int32) (h1_f2 : Int32) (h1_f3 : Int32) (h1_0k : ClassId) (h1_0c : Nat → Int32) (h0_0 : Nat) (h0_f1 : Int32) (h0_f2 : Int32) (h0_f3 : Int32) (h0_0k : ClassId) (h0_0c : Nat → Int32) (ts0 : Nat) (tv0 : Nat) (ts1 : Nat) (tv1 : Nat) (ta3 : Nat) (ta0 : Nat) (ts2 : Nat) (tv2 : Nat) (ts3 : Nat) (tv3 : Nat) (ta1 : Nat) (ta2 : Nat) (g_h1_f1 : RG h1_f1 0 240) (g_h1_f2 : RG h1_f2 0 240) (g_h1_f3 : RG h1_f3 (-1) 240) (a_h1_0c : AI h1_0c 0 255) (g_h0_f1 : RG h0_f1 0 8) (g_h0_f2 : RG h0_f2 0 3) (g_h0_f3 : RG h0_f3 0 1) (a_h0_0c : AI h0_0c (-1) 99) : Met l yX0_readClause wf_c_X0_readClause ({ frames := 5, cells := 0, slots := 0, locals := 112 }) (va_Pc [.ref h0, .ref h1] (fun U => U.heap.size = sz ∧ va_P (dC, dI) vwCl (wd_c_X0_readClause h1 h1_0 h1_f1 h1_f2 h1_f3 h1_0 h1_0k h1_0c h0 h0_0 h0_f1 h0_f2 h0_f3 h0_0 h0_0k h0_0c) U.heap ∧ va_K (dC, dI) vwCl [(h1_0k, .int), (h0_0k, .int)] U ∧ va_D (fun _ => True) (wd_c_X0_readClause h1 h1_0 h1_f1 h1_f2 h1_f3 h1_0 h1_0k h1_0c h0 h0_0 h0_f1 h0_f2 h0_f3 h0_0 h0_0k h0_0c) ∧ vk_R RX0 70 "sbc" ts0 U ∧ va_Z "java/lang/String" "COMPACT_STRINGS" "Z" (.int 1) (va_A (wd_c_X0_readClause h1 h1_0 h1_f1 h1_f2 h1_f3 h1_0 h1_0k h1_0c h0 h0_0 h0_f1 h0_f2 h0_f3 h0_0 h0_0k h0_0c) sz) U U.heap ∧ va_OF "java/lang/String" "coder" "B" (.int 0) ts0 (va_A (wd_c_X0_readClause h1 h1_0 h1_f1 h1_f2 h1_f3 h1_0 h1_0k h1_0c h0 h0_0 h0_f1 h0_f2 h0_f3 h0_0 h0_0k h0_0c) sz) U U.heap ∧ va_O "java/lang/String" ts0 (va_A (wd_c_X0_readClause h1 h1_0 h1_f1 h1_f2 h1_f3 h1_0 h1_0k h1_0c h0 h0_0 h0_f1 h0_f2 h0_f3 h0_0 h0_0k h0_0c) sz) U U.heap ∧ va_OF "java/lang/String" "value" "[B" (.ref tv0) ts0 (va_A (wd_c_X0_readClause h1 h1_0 h1_f1 h1_f2 h1_f3 h1_0 h1_0k h1_0c h0 h0_0 h0_f1 h0_f2 h0_f3 h0_0 h0_0k h0_0c) sz) U U.heap ∧ va_T .byte tv0 3 (fun j => .int ([115, 98, 99].getD j 0)) (va_A (wd_c_X0_readClause h1 h1_0 h1_f1 h1_f2 h1_f3 h1_0 h1_0k h1_0c h0 h0_0 h0_f1 h0_f2 h0_f3 h0_0 h0_0k h0_0c) sz) U U.heap ∧ vk_R RX0 122 "wdth" ts1 U ∧ va_OF "java/lang/String" "value" "[B" (.ref tv1) ts1 (va_A (wd_c_X0_readClause h1 h1_0 h1_f1 h1_f2 h1_f3 h1_0 h1_0k h1_0c h0 h0_0 h0_f1 h0_f2 h0_f3 h0_0 h0_0k h0_0c) sz) U U.heap ∧ va_T .byte tv1 4 (fun j => .int ([119, 100, 116, 104].getD j 0)) (va_A (wd_c_X0_readClause h1 h1_0 h1_f1 h1_f2 h1_f3 h1_0 h1_0k h1_0c h0 h0_0 h0_f1 h0_f2 h0_f3 h0_0 h0_0k h0_0c) sz) U U.heap ∧ va_OF "java/lang/String" "coder" "B" (.int 0) ts1 (va_A (wd_c_X0_readClause h1 h1_0 h1_f1 h1_f2 h1_f3 h1_0 h1_0k h1_0c h0 h0_0 h0_f1 h0_f2 h0_f3 h0_0 h0_0k h0_0c) sz) U U.heap ∧ va_O "java/lang/String" ts1 (va_A (wd_c_X0_readClause h1 h1_0 h1_f1 h1_f2 h1_f3 h1_0 h1_0k h1_0c h0 h0_0 h0_f1 h0_f2 h0_f3 h0_0 h0_0k h0_0c) sz) U U.heap ∧ va_Z "BuoyVote$Borough" "USUAL" "[I" (.ref ta3) (va_A (wd_c_X0_readClause h1 h1_0 h1_f1 h1_f2 h1_f3 h1_0 h1_0k h1_0c h0 h0_0 h0_f1 h0_f2 h0_f3 h0_0 h0_0k h0_0c) sz) U U.heap ∧ va_Z "BuoyVote$Borough" "FIRST" "[I" (.ref ta0) (va_A (wd_c_X0_readClause h1 h1_0 h1_f1 h1_f2 h1_f3 h1_0 h1_0k h1_0c h0 h0_0 h0_f1 h0_f2 h0_f3 h0_0 h0_0k h0_0c) sz) U U.heap ∧ va_T .int ta0 3 (fun j => .int ([0, 4, 12].getD j 0)) (va_A (wd_c_X0_readClause h1 h1_0 h1_f1 h1_f2 h1_f3 h1_0 h1_0k h1_0c h0 h0_0 h0_f1 h0_f2 h0_f3 h0_0 h0_0k h0_0c) sz) U U.heap ∧ va_T .int ta3 16 (fun j => .int ([2, 0, 6, 8, 0, 0, 3, 0, 0, 0, 3, 2, 0, 0, 2, 3].getD j 0)) (va_A (wd_c_X0_readClause h1 h1_0 h1_f1 h1_f2 h1_f3 h1_0 h1_0k h1_0c h0 h0_0 h0_f1 h0_f2 h0_f3 h0_0 h0_0k h0_0c) sz) U U.heap ∧ vk_R RX0 124 "xycaefor" ts2 U ∧ va_OF "java/lang/String" "value" "[B" (.ref tv2) ts2 (va_A (wd_c_X0_readClause h1 h1_0 h1_f1 h1_f2 h1_f3 h1_0 h1_0k h1_0c h0 h0_0 h0_f1 h0_f2 h0_f3 h0_0 h0_0k h0_0c) sz) U U.heap ∧ va_T .byte tv2 8 (fun j => .int ([120, 121, 99, 97, 101, 102, 111, 114].getD j 0)) (va_A (wd_c_X0_readClause h1 h1_0 h1_f1 h1_f2 h1_f3 h1_0 h1_0k h1_0c h0 h0_0 h0_f1 h0_f2 h0_f3 h0_0 h0_0k h0_0c) sz) U U.heap ∧ va_OF "java/lang/String" "coder" "B" (.int 0) ts2 (va_A (wd_c_X0_readClause h1 h1_0 h1_f1 h1_f2 h1_f3 h1_0 h1_0k h1_0c h0 h0_0 h0_f1 h0_f2 h0_f3 h0_0 h0_0k h0_0c) sz) U U.heap ∧ va_O "java/lang/String" ts2 (va_A (wd_c_X0_readClause h1 h1_0 h1_f1 h1_f2 h1_f3 h1_0 h1_0k h1_0c h0 h0_0 h0_f1 h0_f2 h0_f3 h0_0 h0_0k h0_0c) sz) U U.heap ∧ vk_R RX0 126 "xysv" ts3 U ∧ va_OF "java/lang/String" "value" "[B" (.ref tv3) ts3 (va_A (wd_c_X0_readClause h1 h1_0 h1_f1 h1_f2 h1_f3 h1_0 h1_0k h1_0c h0 h0_0 h0_f1 h0_f2 h0_f3 h0_0 h0_0k h0_0c) sz) U U.heap ∧ va_T .byte tv3 4 (fun j => .int ([120, 121, 115, 118].getD j 0)) (va_A (wd_c_X0_readClause h1 h1_0 h1_f1 h1_f2 h1_f3 h1_0 h1_0k h1_0c h0 h0_0 h0_f1 h0_f2 h0_f3 h0_0 h0_0k h0_0c) sz) U U.heap ∧ va_OF "java/lang/String" "coder" "B" (.int 0) ts3 (va_A (wd_c_X0_readClause h1 h1_0 h1_f1 h1_f2 h1_f3 h1_0 h1_0k h1_0c h0 h0_0 h0_f1 h0_f2 h0_f3 h0_0 h0_0k h0_0c) sz) U U.heap ∧ va_O "java/lang/String" ts3 (va_A (wd_c_X0_readClause h1 h1_0 h1_f1 h1_f2 h1_f3 h1_0 h1_0k h1_0c h0 h0_0 h0_f1 h0_f2 h0_f3 h0_0 h0_0k h0_0c) sz) U U.heap ∧ va_Z "BuoyVote$Borough" "LOW" "[I" (.ref ta1) (va_A (wd_c_X0_readClause h1 h1_0 h1_f1 h1_f2 h1_f3 h1_0 h1_0k h1_0c h0 h0_0 h0_f1 h0_f2 h0_f3 h0_0 h0_0k h0_0c) sz) U U.heap ∧ va_T .int ta1 16 (fun j => .int ([0, 0, 1, 1, 0, 0, 0, 0, 0, 0, 0, 0, 0, 0, 1, 0].getD j 0)) (va_A (wd_c_X0_readClause h1 h1_0 h1_f1 h1_f2 h1_f3 h1_0 h1_0k h1_0c h0 h0_0 h0_f1 h0_f2 h0_f3 h0_0 h0_0k h0_0c) sz) U U.heap ∧ va_Z "BuoyVote$Borough" "HIGH" "[I" (.ref ta2) (va_A (wd_c_X0_readClause h1 h1_0 h1_f1 h1_f2 h1_f3 h1_0 h1_0k h1_0c h0 h0_0 h0_f1 h0_f2 h0_f3 h0_0 h0_0k h0_0c) sz) U U.heap ∧ va_T .int ta2 16 (fun j => .int ([9, 3, 12, 20, 9, 9, 9, 9, 9, 9, 3, 9, 9, 9, 4, 9].getD j 0)) (va_A (wd_c_X0_readClause h1 h1_0 h1_f1 h1_f2 h1_f3 h1_0 h1_0k h1_0c h0 h0_0 h0_f1 h0_f2 h0_f3 h0_0 h0_0k h0_0c) sz) U U.heap)) (va_Qv (fun (u : (Int32) × (Int32) × (Int32) × (Int32) × (Int32) × (Nat → Int32)) => (RG u.1 0 240 ∧ RG u.2.1 (-1) 240 ∧ RG u.2.2.1 0 8 ∧ RG u.2.2.2.1 0 3 ∧ RG u.2.2.2.2.1 0 1 ∧ AI (u.2.2.2.2.2) (-1) 99)) (fun (u : (Int32) × (Int32) × (Int32) × (Int32) × (Int32) × (Nat → Int32)) t => va_P (dC, dI) vwCl (wd_c_X0_readClause h1 h1_0 h1_f1 (u.1) (u.2.1) h1_0 h1_0k h1_0c h0 h0_0 (u.2.2.1) (u.2.2.2.1) (u.2.2.2.2.1) h0_0 h0_0k (u.2.2.2.2.2)) t.heap ∧ va_K (dC, dI) vwCl [] t ∧ va_D (va_A (wd_c_X0_readClause h1 h1_0 h1_f1 h1_f2 h1_f3 h1_0 h1_0k h1_0c h0 h0_0 h0_f1 h0_f2 h0_f3 h0_0 h0_0k h0_0c) sz) (wd_c_X0_readClause h1 h1_0 h1_f1 (u.1) (u.2.1) h1_0 h1_0k h1_0c h0 h0_0 (u.2.2.1) (u.2.2.2.1) (u.2.2.2.2.1) h0_0 h0_0k (u.2.2.2.2.2))) (va_A (wd_c_X0_readClause h1 h1_0 h1_f1 h1_f2 h1_f3 h1_0 h1_0k h1_0c h0 h0_0 h0_f1 h0_f2 h0_f3 h0_0 h0_0k h0_0c) sz)) 0 0 (va_A (wd_c_X0_readClause h1 h1_0 h1_f1 h1_f2 h1_f3 h1_0 h1_0k h1_0c h0 h0_0 h0_f1 h0_f2 h0_f3 h0_0 h0_0k h0_0c) sz) := by
  refine Met.ofW (cc := cX0_readClause) (maxL := 8) (ret := none) (by decide +kernel) rfl ?_
  intro p e s m args below meth c s₁ B hml hv
  obtain ⟨rfl, hsz, hP, hK, hD0, hE_12, hE_10, hE_14, hE_13, hE_15, hE_16, hE_17, hE_20, hE_21, hE_19, hE_18, hE_6, hE_0, hE_1, hE_7, hE_22, hE_25, hE_26, hE_24, hE_23, hE_27, hE_30, hE_31, hE_29, hE_28, hE_2, hE_3, hE_4, hE_5⟩ := hv
  have hx := B.exec
  have hb := B.bytes
  have hr := B.returns
  have hts := atoms_spec (ws := wf_c_X0_readClause) B.pre
  have hown : s.vm.findClass RX0 = some m.cls := findClass_of_methodNamed B.named
  have hlocks := B.notSynchronized
  subst hsz
  have hD := hD0.self (sz := s.heap.size)
  generalize hAe : va_A (wd_c_X0_readClause h1 h1_0 h1_f1 h1_f2 h1_f3 h1_0 h1_0k h1_0c h0 h0_0 h0_f1 h0_f2 h0_f3 h0_0 h0_0k h0_0c) s.heap.size = A at hD hE_10 hE_14 hE_13 hE_15 hE_16 hE_20 hE_21 hE_19 hE_18 hE_6 hE_0 hE_1 hE_7 hE_25 hE_26 hE_24 hE_23 hE_30 hE_31 hE_29 hE_28 hE_2 hE_3 hE_4 hE_5 ⊢
  have hA : ∀ q : Nat, s.heap.size ≤ q → A q := fun q h => by rw [← hAe]; exact Or.inr h
  have hP : va_P (dC, dI) vwCl (wd_c_X0_readClause h1 h1_0 h1_f1 h1_f2 h1_f3 h1_0 h1_0k h1_0c h0 h0_0 h0_f1 h0_f2 h0_f3 h0_0 h0_0k h0_0c) s.heap := hP
  have hl := lv_entry ([.ref h0, .ref h1]) (n := 8) (Nat.le_of_ble_eq_true rfl)
  rw [lg_entry_eq]
  generalize (lg_sl ([.ref h0, .ref h1]) ++ List.replicate (8 - (lg_sl ([.ref h0, .ref h1])).length) Slot.unset).toArray = ls at hl ⊢
  have hl : lv_has ls 8 [(0, .ref h0), (1, .ref h1)] := hl
  obtain ⟨H, hHe⟩ : ∃ H : Heap, s.heap = H := ⟨_, rfl⟩
  have hS : va_S A s.heap H [] := by rw [hHe]; exact va_S.rf
  have hP : va_P (dC, dI) vwCl (wd_c_X0_readClause h1 h1_0 h1_f1 h1_f2 h1_f3 h1_0 h1_0k h1_0c h0 h0_0 h0_f1 h0_f2 h0_f3 h0_0 h0_0k h0_0c) H := by rw [← hHe]; exact hP
  rw [hHe]
  refine wj (fun G hG hU => ?_)
  as_aux_lemma =>
  have J22 : ∀ (j22_h1_f2 : Int32) (g_h0_f1 : RG h0_f1 0 8) (g_h0_f2 : RG h0_f2 0 3) (g_h0_f3 : RG h0_f3 0 1) (g_h1_f1 : RG h1_f1 0 240) (g_h1_f2 : RG h1_f2 0 240) (g_h1_f3 : RG h1_f3 (-1) 240) (g_j22_h1_f2 : RG j22_h1_f2 0 240) (H : Heap) (locs : List Loc) (ls : Array Slot) (hP : va_P (dC, dI) vwCl (wd_c_X0_readClause h1 h1_0 h1_f1 j22_h1_f2 h1_f3 h1_0 h1_0k h1_0c h0 h0_0 h0_f1 h0_f2 h0_f3 h0_0 h0_0k h0_0c) H) (hD : va_D A (wd_c_X0_readClause h1 h1_0 h1_f1 j22_h1_f2 h1_f3 h1_0 h1_0k h1_0c h0 h0_0 h0_f1 h0_f2 h0_f3 h0_0 h0_0k h0_0c)) (hS : va_S A s.heap H locs) (hl : lv_has ls 8 [(1, .ref h1)]), G H locs (F0 m 22 ls []) := by
    as_aux_lemma =>
    intro j22_h1_f2 g_h0_f1 g_h0_f2 g_h0_f3 g_h1_f1 g_h1_f2 g_h1_f3 g_j22_h1_f2 H locs ls hP hD hS hl
    refine hG _ _ _ ?_
    refine lv_aload_n hx hb dX0_readClause_22 rfl (lv_at hl 0 rfl) ?_
    obtain ⟨hPc, hDc, hFc, hqc⟩ := cl_cut (wc := (wd_c_X9_refuseHere h1 h1_0 h1_f1 j22_h1_f2 h1_f3)) hP hD hS hA [0] (by decide +kernel) rfl
    have hKc := hK.sub (tys' := []) [] rfl
    have hrv := va_recv hKc hPc (ci := 9) (q0 := 0) rfl rfl
    refine va_callv (va_runV (As := []) (rest := []) ⟨hx, hb, hml, hown, hts⟩ (c_X9_refuseHere l dC dI H.size h1 h1_0 h1_f1 j22_h1_f2 h1_f3 g_h1_f1 g_j22_h1_f2 g_h1_f3) (cwV 0 hts gf_c_X0_readClause_c_X9_refuseHere rfl rfl rfl mdV_X9_refuseHere ⟨Nat.le_of_ble_eq_true rfl, Nat.le_of_ble_eq_true rfl⟩) ⟨fun a U g mk q => by obtain ⟨q0, q1, qP, qK, qD⟩ := q; exact ⟨q0, q1, qP, va_K.moved (u := U) (U := U.calling g mk a) (Vm.Alike.refl U.vm) qK, qD⟩, hrv, fun U hU hW => ⟨rfl, by rw [hU], by rw [hU]; exact hPc, va_K.moved hW.alike hKc, hDc.weaken (fun _ _ _ _ => trivial)⟩⟩ rfl rfl hl.1 rfl (lv_room (Nat.le_of_ble_eq_true rfl)) dX0_readClause_23 ⟨Nat.le_of_ble_eq_true rfl, Nat.le_of_ble_eq_true rfl⟩) hS (fun q _ h => hFc q h) hFc (fun x_2 t H1 locs ht hvm hw hB hz1 hk1 hS => ?_)
    obtain ⟨hP1, hK1, hD1⟩ := hB
    rw [ht] at hP1
    obtain ⟨hP, hD⟩ := cl_put (w1 := (wd_c_X9_refuseHere h1 h1_0 h1_f1 j22_h1_f2 x_2)) (nw := (wd_c_X0_readClause h1 h1_0 h1_f1 j22_h1_f2 x_2 h1_0 h1_0k h1_0c h0 h0_0 h0_f1 h0_f2 h0_f3 h0_0 h0_0k h0_0c)) hP hD [0] [4, 1, 2, 3] 4 rfl hqc (by decide +kernel) rfl hk1 hFc hP1 hD1
    generalize H1 = H at hP hS ⊢
    as_aux_lemma =>
    have h_3 := hw
    have hK9 := hK.sub (tys' := []) [] rfl
    exact W.vret hx hb hr (fun t ht hW => ⟨⟨(j22_h1_f2, x_2, h0_f1, h0_f2, h0_f3, h0_0c), rfl, ⟨g_j22_h1_f2, (RG_w h_3 (by decide +kernel)), g_h0_f1, g_h0_f2, g_h0_f3, a_h0_0c⟩, by rw [ht]; exact hP, va_K.moved hW.alike hK9, hD⟩, hS.F ht⟩) hS.2.2 dX0_readClause_26
  have J49 : ∀ (n49 : Nat) (j49_l6 : Int32) (j49_l5 : Int32) (j49_h1_f2 : Int32) (j49_h1_f3 : Int32) (j49_h0_0c : Nat → Int32) (hM49 : MU j49_l6 < n49) (g_h0_f1 : RG h0_f1 0 8) (g_h0_f2 : RG h0_f2 0 3) (g_h0_f3 : RG h0_f3 0 0) (g_h1_f1 : RG h1_f1 1 240) (g_h1_f2 : RG h1_f2 0 240) (g_h1_f3 : RG h1_f3 (-1) 240) (g_j49_h1_f2 : RG j49_h1_f2 0 240) (g_j49_h1_f3 : RG j49_h1_f3 (-1) 240) (g_j49_l6 : RG j49_l6 0 5) (a_j49_h0_0c : AI j49_h0_0c (-1) 99) (H : Heap) (locs : List Loc) (ls : Array Slot) (hP : va_P (dC, dI) vwCl (wd_c_X0_readClause h1 h1_0 h1_f1 j49_h1_f2 j49_h1_f3 h1_0 h1_0k h1_0c h0 h0_0 h0_f1 h0_f2 1 h0_0 h0_0k j49_h0_0c) H) (hD : va_D A (wd_c_X0_readClause h1 h1_0 h1_f1 j49_h1_f2 j49_h1_f3 h1_0 h1_0k h1_0c h0 h0_0 h0_f1 h0_f2 1 h0_0 h0_0k j49_h0_0c)) (hS : va_S A s.heap H locs) (hl : lv_has ls 8 [(6, .int j49_l6), (5, .int j49_l5), (4, .ref ts1), (3, .int 0), (2, .int 0), (0, .ref h0), (1, .ref h1)]), G H locs (F0 m 49 ls []) := by
    as_aux_lemma =>
    intro n49
    induction n49 with
    | zero => intros; exact absurd (by assumption) (Nat.not_lt_zero _)
    | succ n49 ih49 =>
      intro j49_l6 j49_l5 j49_h1_f2 j49_h1_f3 j49_h0_0c hM49 g_h0_f1 g_h0_f2 g_h0_f3 g_h1_f1 g_h1_f2 g_h1_f3 g_j49_h1_f2 g_j49_h1_f3 g_j49_l6 a_j49_h0_0c H locs ls hP hD hS hl
      refine hG _ _ _ ?_
      refine lv_iload hx hb dX0_readClause_49 (lv_at hl 0 rfl) ?_
      refine lv_aload hx hb dX0_readClause_51 (lv_at hl 2 rfl) ?_
      obtain ⟨hPc, hDc, hFc, hqc⟩ := cl_cut (wc := []) hP hD hS hA [] (by decide +kernel) rfl
      have hKc := hK.sub (tys' := []) [] rfl
      have hrv := bv_Orecv hE_18 hS
      refine va_calli (va_runV (As := []) (rest := [.int j49_l6]) ⟨hx, hb, hml, hown, hts⟩ (c_J0_length_8abf5 l dC dI H.size ts1 tv1) (cwV 0 hts gf_c_X0_readClause_c_J0_length_8abf5 rfl rfl rfl mdV_J0_length_8abf5 ⟨Nat.le_of_ble_eq_true rfl, Nat.le_of_ble_eq_true rfl⟩) ⟨fun a U g mk q => by obtain ⟨q0, q1, qP, qK, qD, qE0, qE1, qE2, qE3, qE4⟩ := q; exact ⟨q0, q1, qP, va_K.moved (u := U) (U := U.calling g mk a) (Vm.Alike.refl U.vm) qK, qD, va_OF.moved (u := U) (U := U.calling g mk a) (Vm.Alike.refl U.vm) qE0, va_T.moved (u := U) (U := U.calling g mk a) (Vm.Alike.refl U.vm) qE1, va_Z.moved (u := U) (U := U.calling g mk a) (Vm.Alike.refl U.vm) qE2, va_OF.moved (u := U) (U := U.calling g mk a) (Vm.Alike.refl U.vm) qE3, va_O.moved (u := U) (U := U.calling g mk a) (Vm.Alike.refl U.vm) qE4⟩, hrv, fun U hU hW => ⟨rfl, by rw [hU], by rw [hU]; exact hPc, va_K.moved hW.alike hKc, hDc.weaken (fun _ _ _ _ => trivial), va_OF.moved hW.alike (by rw [hU]; exact (hE_20.kept hS.2.1).narrow hFc), va_T.moved hW.alike (by rw [hU]; exact (hE_21.kept hS.2.1).narrow hFc), va_Z.moved hW.alike (by rw [hU]; exact (hE_10.kept hS.2.1).narrow hFc), va_OF.moved hW.alike (by rw [hU]; exact (hE_19.kept hS.2.1).narrow hFc), va_O.moved hW.alike (by rw [hU]; exact (hE_18.kept hS.2.1).narrow hFc)⟩⟩ rfl rfl hl.1 rfl (lv_room (Nat.le_of_ble_eq_true rfl)) dX0_readClause_53 ⟨Nat.le_of_ble_eq_true rfl, Nat.le_of_ble_eq_true rfl⟩) hS (fun q _ h => hFc q h) hFc (fun r_4 u t H1 locs ht hvm hw hB hz1 hk1 hS => ?_)
      obtain ⟨hP1, hK1, hD1⟩ := hB
      rw [ht] at hP1
      have hP := bv_still hP hk1
      generalize H1 = H at hP hS ⊢
      as_aux_lemma =>
      have h_5 := hw
      rw [h_5]
      refine lv_icmp_gt (tgt := 154) hx hb dX0_readClause_56 rfl (fun c_6 => ?_) (fun c_6 => ?_)
      · have g_7 : RG j49_l6 5 5 := RG_lt2 (RG_k 4 4 rfl) g_j49_l6 c_6 (by decide +kernel)
        have hK9 := hK.sub (tys' := []) [] rfl
        exact W.vret hx hb hr (fun t ht hW => ⟨⟨(j49_h1_f2, j49_h1_f3, h0_f1, h0_f2, 1, j49_h0_0c), rfl, ⟨g_j49_h1_f2, g_j49_h1_f3, g_h0_f1, g_h0_f2, (RG_w (RG_k 1 1 rfl) (by decide +kernel)), a_j49_h0_0c⟩, by rw [ht]; exact hP, va_K.moved hW.alike hK9, hD⟩, hS.F ht⟩) hS.2.2 dX0_readClause_154
      · have d_8 := Int32.not_lt.mp c_6
        have g_9 : RG j49_l6 0 4 := RG_le1 g_j49_l6 (RG_k 4 4 rfl) d_8 (by decide +kernel)
        refine lv_aload_n hx hb dX0_readClause_59 rfl (lv_at hl 6 rfl) ?_
        obtain ⟨hPc, hDc, hFc, hqc⟩ := cl_cut (wc := (wd_c_X9_isRight h1 h1_0 h1_f1 j49_h1_f2 j49_h1_f3)) hP hD hS hA [0] (by decide +kernel) rfl
        have hKc := hK.sub (tys' := []) [] rfl
        have hrv := va_recv hKc hPc (ci := 9) (q0 := 0) rfl rfl
        refine va_calli (va_runV (As := []) (rest := []) ⟨hx, hb, hml, hown, hts⟩ (c_X9_isRight l dC dI H.size h1 h1_0 h1_f1 j49_h1_f2 j49_h1_f3 (RG_w g_h1_f1 (by decide +kernel)) g_j49_h1_f2 g_j49_h1_f3) (cwV 0 hts gf_c_X0_readClause_c_X9_isRight rfl rfl rfl mdV_X9_isRight ⟨Nat.le_of_ble_eq_true rfl, Nat.le_of_ble_eq_true rfl⟩) ⟨fun a U g mk q => by obtain ⟨q0, q1, qP, qK, qD⟩ := q; exact ⟨q0, q1, qP, va_K.moved (u := U) (U := U.calling g mk a) (Vm.Alike.refl U.vm) qK, qD⟩, hrv, fun U hU hW => ⟨rfl, by rw [hU], by rw [hU]; exact hPc, va_K.moved hW.alike hKc, hDc.weaken (fun _ _ _ _ => trivial)⟩⟩ rfl rfl hl.1 rfl (lv_room (Nat.le_of_ble_eq_true rfl)) dX0_readClause_60 ⟨Nat.le_of_ble_eq_true rfl, Nat.le_of_ble_eq_true rfl⟩) hS (fun q _ h => hFc q h) hFc (fun r_10 u t H1 locs ht hvm hw hB hz1 hk1 hS => ?_)
        obtain ⟨hP1, hK1, hD1⟩ := hB
        rw [ht] at hP1
        obtain ⟨hP, hD⟩ := cl_put (w1 := (wd_c_X9_isRight h1 h1_0 h1_f1 j49_h1_f2 j49_h1_f3)) (nw := (wd_c_X0_readClause h1 h1_0 h1_f1 j49_h1_f2 j49_h1_f3 h1_0 h1_0k h1_0c h0 h0_0 h0_f1 h0_f2 1 h0_0 h0_0k j49_h0_0c)) hP hD [0] [4, 1, 2, 3] 4 rfl hqc (by decide +kernel) rfl hk1 hFc hP1 hD1
        generalize H1 = H at hP hS ⊢
        as_aux_lemma =>
        rcases hw with ⟨h_11, h_12⟩ | ⟨h_13, h_14⟩
        · rw [h_11]
          refine lv_if_eq (tgt := 154) hx hb dX0_readClause_63 rfl (fun c_15 => ?_) (fun c_15 => absurd c_15 (by decide +kernel))
          have hK9 := hK.sub (tys' := []) [] rfl
          exact W.vret hx hb hr (fun t ht hW => ⟨⟨(j49_h1_f2, j49_h1_f3, h0_f1, h0_f2, 1, j49_h0_0c), rfl, ⟨g_j49_h1_f2, (RG_w h_12 (by decide +kernel)), g_h0_f1, g_h0_f2, (RG_w (RG_k 1 1 rfl) (by decide +kernel)), a_j49_h0_0c⟩, by rw [ht]; exact hP, va_K.moved hW.alike hK9, hD⟩, hS.F ht⟩) hS.2.2 dX0_readClause_154
        · rw [h_13]
          refine lv_if_eq (tgt := 154) hx hb dX0_readClause_63 rfl (fun c_16 => absurd c_16 (by decide +kernel)) (fun c_16 => ?_)
          refine lv_aload hx hb dX0_readClause_66 (lv_at hl 2 rfl) ?_
          refine lv_aload_n hx hb dX0_readClause_68 rfl (lv_at hl 6 rfl) ?_
          obtain ⟨hPc, hDc, hFc, hqc⟩ := cl_cut (wc := (wd_c_X9_peek h1 h1_0 h1_f1 j49_h1_f2 j49_h1_f3 h1_0 h1_0k h1_0c)) hP hD hS hA [0, 1] (by decide +kernel) rfl
          have hKc := hK.sub (tys' := [(h1_0k, .int)]) [0] rfl
          have hrv := va_recv hKc hPc (ci := 9) (q0 := 0) rfl rfl
          refine va_calli (va_runV (As := []) (rest := [.ref ts1]) ⟨hx, hb, hml, hown, hts⟩ (c_X9_peek l dC dI H.size h1 h1_0 h1_f1 j49_h1_f2 j49_h1_f3 h1_0k h1_0c (RG_w g_h1_f1 (by decide +kernel)) g_j49_h1_f2 (RG_w h_14 (by decide +kernel)) a_h1_0c) (cwV 0 hts gf_c_X0_readClause_c_X9_peek rfl rfl rfl mdV_X9_peek ⟨Nat.le_of_ble_eq_true rfl, Nat.le_of_ble_eq_true rfl⟩) ⟨fun a U g mk q => by obtain ⟨q0, q1, qP, qK, qD⟩ := q; exact ⟨q0, q1, qP, va_K.moved (u := U) (U := U.calling g mk a) (Vm.Alike.refl U.vm) qK, qD⟩, hrv, fun U hU hW => ⟨rfl, by rw [hU], by rw [hU]; exact hPc, va_K.moved hW.alike hKc, hDc.weaken (fun _ _ _ _ => trivial)⟩⟩ rfl rfl hl.1 rfl (lv_room (Nat.le_of_ble_eq_true rfl)) dX0_readClause_69 ⟨Nat.le_of_ble_eq_true rfl, Nat.le_of_ble_eq_true rfl⟩) hS (fun q _ h => hFc q h) hFc (fun r_17 x_18 t H1 locs ht hvm hw hB hz1 hk1 hS => ?_)
          obtain ⟨hP1, hK1, hD1⟩ := hB
          rw [ht] at hP1
          obtain ⟨hP, hD⟩ := cl_put (w1 := (wd_c_X9_peek h1 h1_0 h1_f1 x_18 j49_h1_f3 h1_0 h1_0k h1_0c)) (nw := (wd_c_X0_readClause h1 h1_0 h1_f1 x_18 j49_h1_f3 h1_0 h1_0k h1_0c h0 h0_0 h0_f1 h0_f2 1 h0_0 h0_0k j49_h0_0c)) hP hD [0, 1] [4, 5, 2, 3] 4 rfl hqc (by decide +kernel) rfl hk1 hFc hP1 hD1
          generalize H1 = H at hP hS ⊢
          as_aux_lemma =>
          rcases hw with ⟨h_19, h_20, h_21⟩ | ⟨h_22, h_23, h_24, h_25⟩
          · rw [h_19]
            obtain ⟨hPc, hDc, hFc, hqc⟩ := cl_cut (wc := []) hP hD hS hA [] (by decide +kernel) rfl
            have hKc := hK.sub (tys' := []) [] rfl
            refine va_calli (va_runS (As := [.ref ts1, .int (-1)]) (rest := []) ⟨hx, hb, hml, hown, hts⟩ (c_X0_placeIn_2 l dC dI H.size ts1 (-1) (RG_k (-1) (-1) rfl)) (va_cwS 2 hts gf_c_X0_readClause_c_X0_placeIn_2 rfl rfl rfl md_X0_placeIn ⟨Nat.le_of_ble_eq_true rfl, Nat.le_of_ble_eq_true rfl⟩) ⟨fun a U g mk q => by obtain ⟨q0, q1, qP, qK, qD⟩ := q; exact ⟨q0, q1, qP, va_K.moved (u := U) (U := U.calling g mk a) (Vm.Alike.refl U.vm) qK, qD⟩, fun U hU hW => ⟨rfl, by rw [hU], by rw [hU]; exact hPc, va_K.moved hW.alike hKc, hDc.weaken (fun _ _ _ _ => trivial)⟩⟩ rfl rfl hl.1 rfl (lv_room (Nat.le_of_ble_eq_true rfl)) dX0_readClause_72 ⟨Nat.le_of_ble_eq_true rfl, Nat.le_of_ble_eq_true rfl⟩) hS (fun q _ h => hFc q h) hFc (fun r_26 u t H1 locs ht hvm hw hB hz1 hk1 hS => ?_)
            obtain ⟨hP1, hK1, hD1⟩ := hB
            rw [ht] at hP1
            have hP := bv_still hP hk1
            generalize H1 = H at hP hS ⊢
            as_aux_lemma =>
            have h_27 := hw
            rw [h_27]
            refine lv_istore (lv' := [(7, .int (-1)), (6, .int j49_l6), (5, .int j49_l5), (4, .ref ts1), (3, .int 0), (2, .int 0), (0, .ref h0), (1, .ref h1)]) hx hb dX0_readClause_75 hl (Nat.le_of_ble_eq_true rfl) rfl (fun ls hl => ?_)
            refine lv_iload hx hb dX0_readClause_77 (lv_at hl 0 rfl) ?_
            refine lv_if_ge (tgt := 83) hx hb dX0_readClause_79 rfl (fun c_28 => absurd c_28 (by decide +kernel)) (fun c_28 => ?_)
            have hK9 := hK.sub (tys' := []) [] rfl
            exact W.vret hx hb hr (fun t ht hW => ⟨⟨(x_18, j49_h1_f3, h0_f1, h0_f2, 1, j49_h0_0c), rfl, ⟨h_20, (RG_w h_14 (by decide +kernel)), g_h0_f1, g_h0_f2, (RG_w (RG_k 1 1 rfl) (by decide +kernel)), a_j49_h0_0c⟩, by rw [ht]; exact hP, va_K.moved hW.alike hK9, hD⟩, hS.F ht⟩) hS.2.2 dX0_readClause_82
          · obtain ⟨hPc, hDc, hFc, hqc⟩ := cl_cut (wc := []) hP hD hS hA [] (by decide +kernel) rfl
            have hKc := hK.sub (tys' := []) [] rfl
            refine va_calli (va_runS (As := [.ref ts1, .int r_17]) (rest := []) ⟨hx, hb, hml, hown, hts⟩ (c_X0_placeIn_3 l dC dI H.size ts1 r_17 tv1 h_22) (va_cwS 2 hts gf_c_X0_readClause_c_X0_placeIn_3 rfl rfl rfl md_X0_placeIn ⟨Nat.le_of_ble_eq_true rfl, Nat.le_of_ble_eq_true rfl⟩) ⟨fun a U g mk q => by obtain ⟨q0, q1, qP, qK, qD, qE0, qE1, qE2, qE3, qE4⟩ := q; exact ⟨q0, q1, qP, va_K.moved (u := U) (U := U.calling g mk a) (Vm.Alike.refl U.vm) qK, qD, va_Z.moved (u := U) (U := U.calling g mk a) (Vm.Alike.refl U.vm) qE0, va_OF.moved (u := U) (U := U.calling g mk a) (Vm.Alike.refl U.vm) qE1, va_O.moved (u := U) (U := U.calling g mk a) (Vm.Alike.refl U.vm) qE2, va_OF.moved (u := U) (U := U.calling g mk a) (Vm.Alike.refl U.vm) qE3, va_T.moved (u := U) (U := U.calling g mk a) (Vm.Alike.refl U.vm) qE4⟩, fun U hU hW => ⟨rfl, by rw [hU], by rw [hU]; exact hPc, va_K.moved hW.alike hKc, hDc.weaken (fun _ _ _ _ => trivial), va_Z.moved hW.alike (by rw [hU]; exact (hE_10.kept hS.2.1).narrow hFc), va_OF.moved hW.alike (by rw [hU]; exact (hE_19.kept hS.2.1).narrow hFc), va_O.moved hW.alike (by rw [hU]; exact (hE_18.kept hS.2.1).narrow hFc), va_OF.moved hW.alike (by rw [hU]; exact (hE_20.kept hS.2.1).narrow hFc), va_T.moved hW.alike (by rw [hU]; exact (hE_21.kept hS.2.1).narrow hFc)⟩⟩ rfl rfl hl.1 rfl (lv_room (Nat.le_of_ble_eq_true rfl)) dX0_readClause_72 ⟨Nat.le_of_ble_eq_true rfl, Nat.le_of_ble_eq_true rfl⟩) hS (fun q _ h => hFc q h) hFc (fun r_29 u t H1 locs ht hvm hw hB hz1 hk1 hS => ?_)
            obtain ⟨hP1, hK1, hD1⟩ := hB
            rw [ht] at hP1
            have hP := bv_still hP hk1
            generalize H1 = H at hP hS ⊢
            as_aux_lemma =>
            rcases hw with h_30 | h_31
            · rw [h_30]
              refine lv_istore (lv' := [(7, .int (-1)), (6, .int j49_l6), (5, .int j49_l5), (4, .ref ts1), (3, .int 0), (2, .int 0), (0, .ref h0), (1, .ref h1)]) hx hb dX0_readClause_75 hl (Nat.le_of_ble_eq_true rfl) rfl (fun ls hl => ?_)
              refine lv_iload hx hb dX0_readClause_77 (lv_at hl 0 rfl) ?_
              refine lv_if_ge (tgt := 83) hx hb dX0_readClause_79 rfl (fun c_32 => absurd c_32 (by decide +kernel)) (fun c_32 => ?_)
              have hK9 := hK.sub (tys' := []) [] rfl
              exact W.vret hx hb hr (fun t ht hW => ⟨⟨(x_18, j49_h1_f3, h0_f1, h0_f2, 1, j49_h0_0c), rfl, ⟨(RG_w h_23 (by decide +kernel)), (RG_w h_14 (by decide +kernel)), g_h0_f1, g_h0_f2, (RG_w (RG_k 1 1 rfl) (by decide +kernel)), a_j49_h0_0c⟩, by rw [ht]; exact hP, va_K.moved hW.alike hK9, hD⟩, hS.F ht⟩) hS.2.2 dX0_readClause_82
            · refine lv_istore (lv' := [(7, .int r_29), (6, .int j49_l6), (5, .int j49_l5), (4, .ref ts1), (3, .int 0), (2, .int 0), (0, .ref h0), (1, .ref h1)]) hx hb dX0_readClause_75 hl (Nat.le_of_ble_eq_true rfl) rfl (fun ls hl => ?_)
              refine lv_iload hx hb dX0_readClause_77 (lv_at hl 0 rfl) ?_
              refine lv_if_ge (tgt := 83) hx hb dX0_readClause_79 rfl (fun c_33 => ?_) (fun c_33 => ?_)
              · refine lv_iload hx hb dX0_readClause_83 (lv_at hl 2 rfl) ?_
                refine lv_iload hx hb dX0_readClause_85 (lv_at hl 0 rfl) ?_
                refine lv_ishr hx hb dX0_readClause_87 ?_
                refine lv_topi (fun x_34 ex_34 => ?_)
                as_aux_lemma =>
                refine lv_iconst (v := 1) hx hb dX0_readClause_88 kc_iconst_1 ?_
                refine lv_iand hx hb dX0_readClause_89 ?_
                refine lv_topi (fun x_35 ex_35 => ?_)
                have g_36 : RG x_35 0 1 := RG_andr ex_35 (RG_k 1 1 rfl) (by decide +kernel)
                refine lv_if_eq (tgt := 98) hx hb dX0_readClause_90 rfl (fun c_37 => ?_) (fun c_37 => ?_)
                · have g_38 : RG x_35 0 0 := RG_eq1 g_36 (RG_k 0 0 rfl) c_37 (by decide +kernel)
                  refine lv_iload hx hb dX0_readClause_98 (lv_at hl 2 rfl) ?_
                  refine lv_iconst (v := 1) hx hb dX0_readClause_100 kc_iconst_1 ?_
                  refine lv_iload hx hb dX0_readClause_101 (lv_at hl 0 rfl) ?_
                  refine lv_ishl hx hb dX0_readClause_103 ?_
                  refine lv_topi (fun x_39 ex_39 => ?_)
                  have g_40 : RG x_39 1 8 := RG_shl1 ex_39 h_31 (by decide +kernel)
                  refine lv_ior hx hb dX0_readClause_104 ?_
                  refine lv_topi (fun x_41 ex_41 => ?_)
                  as_aux_lemma =>
                  refine lv_istore (lv' := [(5, .int x_41), (7, .int r_29), (6, .int j49_l6), (4, .ref ts1), (3, .int 0), (2, .int 0), (0, .ref h0), (1, .ref h1)]) hx hb dX0_readClause_105 hl (Nat.le_of_ble_eq_true rfl) rfl (fun ls hl => ?_)
                  refine lv_aload_n hx hb dX0_readClause_107 rfl (lv_at hl 7 rfl) ?_
                  obtain ⟨hPc, hDc, hFc, hqc⟩ := cl_cut (wc := (wd_c_X9_skip h1 h1_0 h1_f1 x_18 j49_h1_f3)) hP hD hS hA [0] (by decide +kernel) rfl
                  have hKc := hK.sub (tys' := []) [] rfl
                  have hrv := va_recv hKc hPc (ci := 9) (q0 := 0) rfl rfl
                  refine va_callv (va_runV (As := []) (rest := []) ⟨hx, hb, hml, hown, hts⟩ (c_X9_skip l dC dI H.size h1 h1_0 h1_f1 x_18 j49_h1_f3 (RG_w g_h1_f1 (by decide +kernel)) h_23 (RG_w h_14 (by decide +kernel))) (cwV 0 hts gf_c_X0_readClause_c_X9_skip rfl rfl rfl mdV_X9_skip ⟨Nat.le_of_ble_eq_true rfl, Nat.le_of_ble_eq_true rfl⟩) ⟨fun a U g mk q => by obtain ⟨q0, q1, qP, qK, qD⟩ := q; exact ⟨q0, q1, qP, va_K.moved (u := U) (U := U.calling g mk a) (Vm.Alike.refl U.vm) qK, qD⟩, hrv, fun U hU hW => ⟨rfl, by rw [hU], by rw [hU]; exact hPc, va_K.moved hW.alike hKc, hDc.weaken (fun _ _ _ _ => trivial)⟩⟩ rfl rfl hl.1 rfl (lv_room (Nat.le_of_ble_eq_true rfl)) dX0_readClause_108 ⟨Nat.le_of_ble_eq_true rfl, Nat.le_of_ble_eq_true rfl⟩) hS (fun q _ h => hFc q h) hFc (fun x_43 t H1 locs ht hvm hw hB hz1 hk1 hS => ?_)
                  obtain ⟨hP1, hK1, hD1⟩ := hB
                  rw [ht] at hP1
                  obtain ⟨hP, hD⟩ := cl_put (w1 := (wd_c_X9_skip h1 h1_0 h1_f1 x_43 j49_h1_f3)) (nw := (wd_c_X0_readClause h1 h1_0 h1_f1 x_43 j49_h1_f3 h1_0 h1_0k h1_0c h0 h0_0 h0_f1 h0_f2 1 h0_0 h0_0k j49_h0_0c)) hP hD [0] [4, 1, 2, 3] 4 rfl hqc (by decide +kernel) rfl hk1 hFc hP1 hD1
                  generalize H1 = H at hP hS ⊢
                  as_aux_lemma =>
                  rcases hw with ⟨h_44, h_45, h_46⟩
                  refine lv_aload_n hx hb dX0_readClause_111 rfl (lv_at hl 6 rfl) ?_
                  refine va_get (D := (dC, dI)) (ci := 0) (v := .ref h0_0) (C := RX0) (T := TX0) (N := 4) hx hb hts iw_c_X0_readClause_X0 hown hK hP 2 rfl rfl 0 (by decide +kernel) (hts (.fieldLink RX0 11 "BuoyVote$Borough" "values" "[I") (List.mem_of_getElem? (i := 75) rfl)) (fun _ h9 => h9) rfl dX0_readClause_112 ?_
                  refine lv_iload_n hx hb dX0_readClause_115 rfl (lv_at hl 4 rfl) ?_
                  refine lv_iload hx hb dX0_readClause_116 (lv_at hl 1 rfl) ?_
                  refine lv_iadd hx hb dX0_readClause_118 ?_
                  refine lv_topi (fun x_47 ex_47 => ?_)
                  have g_48 : RG x_47 0 3 := RG_add ex_47 (RG_k 0 0 rfl) h_31 (by decide +kernel)
                  refine lv_aload_n hx hb dX0_readClause_119 rfl (lv_at hl 7 rfl) ?_
                  refine va_gets hx hb hE_2 hS hown (hts (.fieldLink RX0 100 "BuoyVote$Borough" "LOW" "[I") (List.mem_of_getElem? (i := 93) rfl)) (fun _ h9 => h9) dX0_readClause_120 ?_
                  refine va_gets hx hb hE_0 hS hown (hts (.fieldLink RX0 103 "BuoyVote$Borough" "FIRST" "[I") (List.mem_of_getElem? (i := 77) rfl)) (fun _ h9 => h9) dX0_readClause_123 ?_
                  refine lv_iload_n hx hb dX0_readClause_126 rfl (lv_at hl 5 rfl) ?_
                  refine va_ti (v := .int 0) hx hb hE_1 hS (by unfold vp_in; decide) rfl dX0_readClause_127 ?_
                  refine lv_iload hx hb dX0_readClause_128 (lv_at hl 1 rfl) ?_
                  as_aux_lemma =>
                  refine lv_iadd hx hb dX0_readClause_130 ?_
                  refine lv_topi (fun x_49 ex_49 => ?_)
                  obtain rfl : x_47 = x_49 := ex_47.trans ex_49.symm
                  refine va_ti hx hb hE_3 hS (RG_in g_48 (by decide +kernel)) rfl dX0_readClause_131 ?_
                  refine lv_topi (fun x_50 ex_50 => ?_)
                  have g_51 : RG x_50 0 1 := RG_tab ex_50 (by decide +kernel)
                  refine va_gets hx hb hE_4 hS hown (hts (.fieldLink RX0 106 "BuoyVote$Borough" "HIGH" "[I") (List.mem_of_getElem? (i := 94) rfl)) (fun _ h9 => h9) dX0_readClause_132 ?_
                  refine va_gets hx hb hE_0 hS hown (hts (.fieldLink RX0 103 "BuoyVote$Borough" "FIRST" "[I") (List.mem_of_getElem? (i := 77) rfl)) (fun _ h9 => h9) dX0_readClause_135 ?_
                  refine lv_iload_n hx hb dX0_readClause_138 rfl (lv_at hl 5 rfl) ?_
                  refine va_ti (v := .int 0) hx hb hE_1 hS (by unfold vp_in; decide) rfl dX0_readClause_139 ?_
                  refine lv_iload hx hb dX0_readClause_140 (lv_at hl 1 rfl) ?_
                  refine lv_iadd hx hb dX0_readClause_142 ?_
                  refine lv_topi (fun x_52 ex_52 => ?_)
                  obtain rfl : x_47 = x_52 := ex_47.trans ex_52.symm
                  refine va_ti hx hb hE_5 hS (RG_in g_48 (by decide +kernel)) rfl dX0_readClause_143 ?_
                  as_aux_lemma =>
                  refine lv_topi (fun x_53 ex_53 => ?_)
                  have g_54 : RG x_53 0 20 := RG_tab ex_53 (by decide +kernel)
                  obtain ⟨hPc, hDc, hFc, hqc⟩ := cl_cut (wc := (wd_c_X9_numberWithin h1 h1_0 h1_f1 x_43 j49_h1_f3 h1_0 h1_0k h1_0c)) hP hD hS hA [0, 1] (by decide +kernel) rfl
                  have hKc := hK.sub (tys' := [(h1_0k, .int)]) [0] rfl
                  have hrv := va_recv hKc hPc (ci := 9) (q0 := 0) rfl rfl
                  refine va_calli (va_runV (As := [.int x_50, .int x_53]) (rest := [.int x_47, .ref h0_0]) ⟨hx, hb, hml, hown, hts⟩ (c_X9_numberWithin l dC dI H.size h1 x_50 x_53 h1_0 h1_f1 x_43 j49_h1_f3 h1_0k h1_0c g_51 g_54 (RG_w g_h1_f1 (by decide +kernel)) (RG_w h_44 (by decide +kernel)) (RG_w h_14 (by decide +kernel)) a_h1_0c) (cwV 2 hts gf_c_X0_readClause_c_X9_numberWithin rfl rfl rfl mdV_X9_numberWithin ⟨Nat.le_of_ble_eq_true rfl, Nat.le_of_ble_eq_true rfl⟩) ⟨fun a U g mk q => by obtain ⟨q0, q1, qP, qK, qD⟩ := q; exact ⟨q0, q1, qP, va_K.moved (u := U) (U := U.calling g mk a) (Vm.Alike.refl U.vm) qK, qD⟩, hrv, fun U hU hW => ⟨rfl, by rw [hU], by rw [hU]; exact hPc, va_K.moved hW.alike hKc, hDc.weaken (fun _ _ _ _ => trivial)⟩⟩ rfl rfl hl.1 rfl (lv_room (Nat.le_of_ble_eq_true rfl)) dX0_readClause_144 ⟨Nat.le_of_ble_eq_true rfl, Nat.le_of_ble_eq_true rfl⟩) hS (fun q _ h => hFc q h) hFc (fun r_55 u t H1 locs ht hvm hw hB hz1 hk1 hS => ?_)
                  obtain ⟨x_56, x_57⟩ := u
                  obtain ⟨hP1, hK1, hD1⟩ := hB
                  rw [ht] at hP1
                  obtain ⟨hP, hD⟩ := cl_put (w1 := (wd_c_X9_numberWithin h1 h1_0 h1_f1 x_56 x_57 h1_0 h1_0k h1_0c)) (nw := (wd_c_X0_readClause h1 h1_0 h1_f1 x_56 x_57 h1_0 h1_0k h1_0c h0 h0_0 h0_f1 h0_f2 1 h0_0 h0_0k j49_h0_0c)) hP hD [0, 1] [4, 5, 2, 3] 4 rfl hqc (by decide +kernel) rfl hk1 hFc hP1 hD1
                  generalize H1 = H at hP hS ⊢
                  as_aux_lemma =>
                  rcases hw with ⟨h_58, h_59, h_60, h_61⟩ | ⟨h_62, h_63, h_64, h_65, h_66⟩
                  · rw [h_58]
                    refine va_iast hx hb hK hP hD hS 3 1 rfl rfl (RG_in g_48 (by decide +kernel)) dX0_readClause_147 (fun H locs hP hD hS => ?_)
                    have hP : va_P (dC, dI) vwCl (wd_c_X0_readClause h1 h1_0 h1_f1 x_56 x_57 h1_0 h1_0k h1_0c h0 h0_0 h0_f1 h0_f2 1 h0_0 h0_0k (upd j49_h0_0c (x_47 : Int32).toNatClampNeg (-1))) H := hP
                    have hD : va_D A (wd_c_X0_readClause h1 h1_0 h1_f1 x_56 x_57 h1_0 h1_0k h1_0c h0 h0_0 h0_f1 h0_f2 1 h0_0 h0_0k (upd j49_h0_0c (x_47 : Int32).toNatClampNeg (-1))) := hD
                    have l_68 : (upd j49_h0_0c (x_47 : Int32).toNatClampNeg (-1)) (x_47 : Int32).toNatClampNeg = (-1) := pk_us
                    have a_69 : AI (upd j49_h0_0c (x_47 : Int32).toNatClampNeg (-1)) (-1) 99 := AI_up a_j49_h0_0c (RG_k (-1) (-1) rfl) (by decide +kernel)
                    generalize (upd j49_h0_0c (x_47 : Int32).toNatClampNeg (-1)) = w_67 at hP hD a_69 l_68
                    have hP : va_P (dC, dI) vwCl (wd_c_X0_readClause h1 h1_0 h1_f1 x_56 x_57 h1_0 h1_0k h1_0c h0 h0_0 h0_f1 h0_f2 1 h0_0 h0_0k w_67) H := hP
                    have hD : va_D A (wd_c_X0_readClause h1 h1_0 h1_f1 x_56 x_57 h1_0 h1_0k h1_0c h0 h0_0 h0_f1 h0_f2 1 h0_0 h0_0k w_67) := hD
                    obtain ⟨x_70, ex_70⟩ : ∃ y : Int32, y = j49_l6 + 1 := ⟨_, rfl⟩
                    have g_71 : RG x_70 1 5 := RG_add ex_70 g_9 (RG_k 1 1 rfl) (by decide +kernel)
                    refine lv_iinc (v := x_70) (lv' := [(6, .int x_70), (5, .int x_41), (7, .int r_29), (4, .ref ts1), (3, .int 0), (2, .int 0), (0, .ref h0), (1, .ref h1)]) hx hb dX0_readClause_148 hl (k := 2) rfl (by rw [ex_70]; rfl) (Nat.le_of_ble_eq_true rfl) rfl (fun ls hl => ?_)
                    refine lv_goto (tgt := 49) hx hb dX0_readClause_151 rfl ?_
                    as_aux_lemma =>
                    exact hU _ _ _ (ih49 x_70 x_41 x_56 x_57 w_67 (mu_s (MU_add ex_70 g_9 (q := 1) rfl (by decide +kernel)) hM49) g_h0_f1 g_h0_f2 g_h0_f3 g_h1_f1 g_h1_f2 g_h1_f3 h_59 (RG_w h_60 (by decide +kernel)) (RG_w g_71 (by decide +kernel)) a_69 _ _ _ hP hD hS (lv_sub hl [0, 1, 3, 4, 5, 6, 7] rfl))
                  · refine va_iast hx hb hK hP hD hS 3 1 rfl rfl (RG_in g_48 (by decide +kernel)) dX0_readClause_147 (fun H locs hP hD hS => ?_)
                    have hP : va_P (dC, dI) vwCl (wd_c_X0_readClause h1 h1_0 h1_f1 x_56 x_57 h1_0 h1_0k h1_0c h0 h0_0 h0_f1 h0_f2 1 h0_0 h0_0k (upd j49_h0_0c (x_47 : Int32).toNatClampNeg r_55)) H := hP
                    have hD : va_D A (wd_c_X0_readClause h1 h1_0 h1_f1 x_56 x_57 h1_0 h1_0k h1_0c h0 h0_0 h0_f1 h0_f2 1 h0_0 h0_0k (upd j49_h0_0c (x_47 : Int32).toNatClampNeg r_55)) := hD
                    have l_73 : (upd j49_h0_0c (x_47 : Int32).toNatClampNeg r_55) (x_47 : Int32).toNatClampNeg = r_55 := pk_us
                    have a_74 : AI (upd j49_h0_0c (x_47 : Int32).toNatClampNeg r_55) (-1) 99 := AI_up a_j49_h0_0c h_62 (by decide +kernel)
                    generalize (upd j49_h0_0c (x_47 : Int32).toNatClampNeg r_55) = w_72 at hP hD a_74 l_73
                    have hP : va_P (dC, dI) vwCl (wd_c_X0_readClause h1 h1_0 h1_f1 x_56 x_57 h1_0 h1_0k h1_0c h0 h0_0 h0_f1 h0_f2 1 h0_0 h0_0k w_72) H := hP
                    have hD : va_D A (wd_c_X0_readClause h1 h1_0 h1_f1 x_56 x_57 h1_0 h1_0k h1_0c h0 h0_0 h0_f1 h0_f2 1 h0_0 h0_0k w_72) := hD
                    obtain ⟨x_75, ex_75⟩ : ∃ y : Int32, y = j49_l6 + 1 := ⟨_, rfl⟩
                    have g_76 : RG x_75 1 5 := RG_add ex_75 g_9 (RG_k 1 1 rfl) (by decide +kernel)
                    refine lv_iinc (v := x_75) (lv' := [(6, .int x_75), (5, .int x_41), (7, .int r_29), (4, .ref ts1), (3, .int 0), (2, .int 0), (0, .ref h0), (1, .ref h1)]) hx hb dX0_readClause_148 hl (k := 2) rfl (by rw [ex_75]; rfl) (Nat.le_of_ble_eq_true rfl) rfl (fun ls hl => ?_)
                    refine lv_goto (tgt := 49) hx hb dX0_readClause_151 rfl ?_
                    exact hU _ _ _ (ih49 x_75 x_41 x_56 x_57 w_72 (mu_s (MU_add ex_75 g_9 (q := 1) rfl (by decide +kernel)) hM49) g_h0_f1 g_h0_f2 g_h0_f3 g_h1_f1 g_h1_f2 g_h1_f3 (RG_w h_63 (by decide +kernel)) h_64 (RG_w g_76 (by decide +kernel)) a_74 _ _ _ hP hD hS (lv_sub hl [0, 1, 3, 4, 5, 6, 7] rfl))
                · have g_77 : RG x_35 1 1 := RG_ne1 g_36 (q := 0) rfl c_37 (by decide +kernel)
                  refine lv_aload_n hx hb dX0_readClause_93 rfl (lv_at hl 7 rfl) ?_
                  as_aux_lemma =>
                  obtain ⟨hPc, hDc, hFc, hqc⟩ := cl_cut (wc := (wd_c_X9_refuseHere h1 h1_0 h1_f1 x_18 j49_h1_f3)) hP hD hS hA [0] (by decide +kernel) rfl
                  have hKc := hK.sub (tys' := []) [] rfl
                  have hrv := va_recv hKc hPc (ci := 9) (q0 := 0) rfl rfl
                  refine va_callv (va_runV (As := []) (rest := []) ⟨hx, hb, hml, hown, hts⟩ (c_X9_refuseHere l dC dI H.size h1 h1_0 h1_f1 x_18 j49_h1_f3 (RG_w g_h1_f1 (by decide +kernel)) (RG_w h_23 (by decide +kernel)) (RG_w h_14 (by decide +kernel))) (cwV 0 hts gf_c_X0_readClause_c_X9_refuseHere rfl rfl rfl mdV_X9_refuseHere ⟨Nat.le_of_ble_eq_true rfl, Nat.le_of_ble_eq_true rfl⟩) ⟨fun a U g mk q => by obtain ⟨q0, q1, qP, qK, qD⟩ := q; exact ⟨q0, q1, qP, va_K.moved (u := U) (U := U.calling g mk a) (Vm.Alike.refl U.vm) qK, qD⟩, hrv, fun U hU hW => ⟨rfl, by rw [hU], by rw [hU]; exact hPc, va_K.moved hW.alike hKc, hDc.weaken (fun _ _ _ _ => trivial)⟩⟩ rfl rfl hl.1 rfl (lv_room (Nat.le_of_ble_eq_true rfl)) dX0_readClause_94 ⟨Nat.le_of_ble_eq_true rfl, Nat.le_of_ble_eq_true rfl⟩) hS (fun q _ h => hFc q h) hFc (fun x_79 t H1 locs ht hvm hw hB hz1 hk1 hS => ?_)
                  obtain ⟨hP1, hK1, hD1⟩ := hB
                  rw [ht] at hP1
                  obtain ⟨hP, hD⟩ := cl_put (w1 := (wd_c_X9_refuseHere h1 h1_0 h1_f1 x_18 x_79)) (nw := (wd_c_X0_readClause h1 h1_0 h1_f1 x_18 x_79 h1_0 h1_0k h1_0c h0 h0_0 h0_f1 h0_f2 1 h0_0 h0_0k j49_h0_0c)) hP hD [0] [4, 1, 2, 3] 4 rfl hqc (by decide +kernel) rfl hk1 hFc hP1 hD1
                  generalize H1 = H at hP hS ⊢
                  as_aux_lemma =>
                  have h_80 := hw
                  have hK9 := hK.sub (tys' := []) [] rfl
                  exact W.vret hx hb hr (fun t ht hW => ⟨⟨(x_18, x_79, h0_f1, h0_f2, 1, j49_h0_0c), rfl, ⟨(RG_w h_23 (by decide +kernel)), (RG_w h_80 (by decide +kernel)), g_h0_f1, g_h0_f2, (RG_w (RG_k 1 1 rfl) (by decide +kernel)), a_j49_h0_0c⟩, by rw [ht]; exact hP, va_K.moved hW.alike hK9, hD⟩, hS.F ht⟩) hS.2.2 dX0_readClause_97
              · have d_81 := Int32.not_le.mp c_33
                have g_82 : RG r_29 0 (-1) := RG_lt1 h_31 (RG_k 0 0 rfl) d_81 (by decide +kernel)
                exact RG_dead (RG_lt1 h_31 (RG_k 0 0 rfl) d_81 (b' := (-1)) (by decide +kernel)) (by decide +kernel)
  have J49b : ∀ (n49b : Nat) (j49b_l6 : Int32) (j49b_l5 : Int32) (j49b_l3 : Int32) (j49b_h1_f2 : Int32) (j49b_h1_f3 : Int32) (j49b_h0_f1 : Int32) (j49b_h0_0c : Nat → Int32) (hM49b : MU j49b_l6 < n49b) (g_h0_f1 : RG h0_f1 0 7) (g_h0_f2 : RG h0_f2 0 3) (g_h0_f3 : RG h0_f3 0 1) (g_h1_f1 : RG h1_f1 1 240) (g_h1_f2 : RG h1_f2 0 240) (g_h1_f3 : RG h1_f3 (-1) 240) (g_j49b_h0_f1 : RG j49b_h0_f1 1 8) (g_j49b_h1_f2 : RG j49b_h1_f2 0 240) (g_j49b_h1_f3 : RG j49b_h1_f3 (-1) 240) (g_j49b_l3 : RG j49b_l3 4 60) (g_j49b_l6 : RG j49b_l6 0 9) (a_j49b_h0_0c : AI j49b_h0_0c (-1) 99) (H : Heap) (locs : List Loc) (ls : Array Slot) (hP : va_P (dC, dI) vwCl (wd_c_X0_readClause h1 h1_0 h1_f1 j49b_h1_f2 j49b_h1_f3 h1_0 h1_0k h1_0c h0 h0_0 j49b_h0_f1 h0_f2 h0_f3 h0_0 h0_0k j49b_h0_0c) H) (hD : va_D A (wd_c_X0_readClause h1 h1_0 h1_f1 j49b_h1_f2 j49b_h1_f3 h1_0 h1_0k h1_0c h0 h0_0 j49b_h0_f1 h0_f2 h0_f3 h0_0 h0_0k j49b_h0_0c)) (hS : va_S A s.heap H locs) (hl : lv_has ls 8 [(6, .int j49b_l6), (5, .int j49b_l5), (4, .ref ts2), (3, .int j49b_l3), (2, .int 1), (0, .ref h0), (1, .ref h1)]), G H locs (F0 m 49 ls []) := by
    as_aux_lemma =>
    intro n49b
    induction n49b with
    | zero => intros; exact absurd (by assumption) (Nat.not_lt_zero _)
    | succ n49b ih49b =>
      intro j49b_l6 j49b_l5 j49b_l3 j49b_h1_f2 j49b_h1_f3 j49b_h0_f1 j49b_h0_0c hM49b g_h0_f1 g_h0_f2 g_h0_f3 g_h1_f1 g_h1_f2 g_h1_f3 g_j49b_h0_f1 g_j49b_h1_f2 g_j49b_h1_f3 g_j49b_l3 g_j49b_l6 a_j49b_h0_0c H locs ls hP hD hS hl
      refine hG _ _ _ ?_
      refine lv_iload hx hb dX0_readClause_49 (lv_at hl 0 rfl) ?_
      refine lv_aload hx hb dX0_readClause_51 (lv_at hl 2 rfl) ?_
      obtain ⟨hPc, hDc, hFc, hqc⟩ := cl_cut (wc := []) hP hD hS hA [] (by decide +kernel) rfl
      have hKc := hK.sub (tys' := []) [] rfl
      have hrv := bv_Orecv hE_23 hS
      refine va_calli (va_runV (As := []) (rest := [.int j49b_l6]) ⟨hx, hb, hml, hown, hts⟩ (c_J0_length_8abf5_2 l dC dI H.size ts2 tv2) (cwV 0 hts gf_c_X0_readClause_c_J0_length_8abf5_2 rfl rfl rfl mdV_J0_length_8abf5 ⟨Nat.le_of_ble_eq_true rfl, Nat.le_of_ble_eq_true rfl⟩) ⟨fun a U g mk q => by obtain ⟨q0, q1, qP, qK, qD, qE0, qE1, qE2, qE3, qE4⟩ := q; exact ⟨q0, q1, qP, va_K.moved (u := U) (U := U.calling g mk a) (Vm.Alike.refl U.vm) qK, qD, va_OF.moved (u := U) (U := U.calling g mk a) (Vm.Alike.refl U.vm) qE0, va_T.moved (u := U) (U := U.calling g mk a) (Vm.Alike.refl U.vm) qE1, va_Z.moved (u := U) (U := U.calling g mk a) (Vm.Alike.refl U.vm) qE2, va_OF.moved (u := U) (U := U.calling g mk a) (Vm.Alike.refl U.vm) qE3, va_O.moved (u := U) (U := U.calling g mk a) (Vm.Alike.refl U.vm) qE4⟩, hrv, fun U hU hW => ⟨rfl, by rw [hU], by rw [hU]; exact hPc, va_K.moved hW.alike hKc, hDc.weaken (fun _ _ _ _ => trivial), va_OF.moved hW.alike (by rw [hU]; exact (hE_25.kept hS.2.1).narrow hFc), va_T.moved hW.alike (by rw [hU]; exact (hE_26.kept hS.2.1).narrow hFc), va_Z.moved hW.alike (by rw [hU]; exact (hE_10.kept hS.2.1).narrow hFc), va_OF.moved hW.alike (by rw [hU]; exact (hE_24.kept hS.2.1).narrow hFc), va_O.moved hW.alike (by rw [hU]; exact (hE_23.kept hS.2.1).narrow hFc)⟩⟩ rfl rfl hl.1 rfl (lv_room (Nat.le_of_ble_eq_true rfl)) dX0_readClause_53 ⟨Nat.le_of_ble_eq_true rfl, Nat.le_of_ble_eq_true rfl⟩) hS (fun q _ h => hFc q h) hFc (fun r_83 u t H1 locs ht hvm hw hB hz1 hk1 hS => ?_)
      obtain ⟨hP1, hK1, hD1⟩ := hB
      rw [ht] at hP1
      have hP := bv_still hP hk1
      generalize H1 = H at hP hS ⊢
      as_aux_lemma =>
      have h_84 := hw
      rw [h_84]
      refine lv_icmp_gt (tgt := 154) hx hb dX0_readClause_56 rfl (fun c_85 => ?_) (fun c_85 => ?_)
      · have g_86 : RG j49b_l6 9 9 := RG_lt2 (RG_k 8 8 rfl) g_j49b_l6 c_85 (by decide +kernel)
        have hK9 := hK.sub (tys' := []) [] rfl
        exact W.vret hx hb hr (fun t ht hW => ⟨⟨(j49b_h1_f2, j49b_h1_f3, j49b_h0_f1, h0_f2, h0_f3, j49b_h0_0c), rfl, ⟨g_j49b_h1_f2, g_j49b_h1_f3, (RG_w g_j49b_h0_f1 (by decide +kernel)), g_h0_f2, g_h0_f3, a_j49b_h0_0c⟩, by rw [ht]; exact hP, va_K.moved hW.alike hK9, hD⟩, hS.F ht⟩) hS.2.2 dX0_readClause_154
      · have d_87 := Int32.not_lt.mp c_85
        have g_88 : RG j49b_l6 0 8 := RG_le1 g_j49b_l6 (RG_k 8 8 rfl) d_87 (by decide +kernel)
        refine lv_aload_n hx hb dX0_readClause_59 rfl (lv_at hl 6 rfl) ?_
        obtain ⟨hPc, hDc, hFc, hqc⟩ := cl_cut (wc := (wd_c_X9_isRight h1 h1_0 h1_f1 j49b_h1_f2 j49b_h1_f3)) hP hD hS hA [0] (by decide +kernel) rfl
        have hKc := hK.sub (tys' := []) [] rfl
        have hrv := va_recv hKc hPc (ci := 9) (q0 := 0) rfl rfl
        refine va_calli (va_runV (As := []) (rest := []) ⟨hx, hb, hml, hown, hts⟩ (c_X9_isRight l dC dI H.size h1 h1_0 h1_f1 j49b_h1_f2 j49b_h1_f3 (RG_w g_h1_f1 (by decide +kernel)) g_j49b_h1_f2 g_j49b_h1_f3) (cwV 0 hts gf_c_X0_readClause_c_X9_isRight rfl rfl rfl mdV_X9_isRight ⟨Nat.le_of_ble_eq_true rfl, Nat.le_of_ble_eq_true rfl⟩) ⟨fun a U g mk q => by obtain ⟨q0, q1, qP, qK, qD⟩ := q; exact ⟨q0, q1, qP, va_K.moved (u := U) (U := U.calling g mk a) (Vm.Alike.refl U.vm) qK, qD⟩, hrv, fun U hU hW => ⟨rfl, by rw [hU], by rw [hU]; exact hPc, va_K.moved hW.alike hKc, hDc.weaken (fun _ _ _ _ => trivial)⟩⟩ rfl rfl hl.1 rfl (lv_room (Nat.le_of_ble_eq_true rfl)) dX0_readClause_60 ⟨Nat.le_of_ble_eq_true rfl, Nat.le_of_ble_eq_true rfl⟩) hS (fun q _ h => hFc q h) hFc (fun r_89 u t H1 locs ht hvm hw hB hz1 hk1 hS => ?_)
        obtain ⟨hP1, hK1, hD1⟩ := hB
        rw [ht] at hP1
        obtain ⟨hP, hD⟩ := cl_put (w1 := (wd_c_X9_isRight h1 h1_0 h1_f1 j49b_h1_f2 j49b_h1_f3)) (nw := (wd_c_X0_readClause h1 h1_0 h1_f1 j49b_h1_f2 j49b_h1_f3 h1_0 h1_0k h1_0c h0 h0_0 j49b_h0_f1 h0_f2 h0_f3 h0_0 h0_0k j49b_h0_0c)) hP hD [0] [4, 1, 2, 3] 4 rfl hqc (by decide +kernel) rfl hk1 hFc hP1 hD1
        generalize H1 = H at hP hS ⊢
        as_aux_lemma =>
        rcases hw with ⟨h_90, h_91⟩ | ⟨h_92, h_93⟩
        · rw [h_90]
          refine lv_if_eq (tgt := 154) hx hb dX0_readClause_63 rfl (fun c_94 => ?_) (fun c_94 => absurd c_94 (by decide +kernel))
          have hK9 := hK.sub (tys' := []) [] rfl
          exact W.vret hx hb hr (fun t ht hW => ⟨⟨(j49b_h1_f2, j49b_h1_f3, j49b_h0_f1, h0_f2, h0_f3, j49b_h0_0c), rfl, ⟨g_j49b_h1_f2, (RG_w h_91 (by decide +kernel)), (RG_w g_j49b_h0_f1 (by decide +kernel)), g_h0_f2, g_h0_f3, a_j49b_h0_0c⟩, by rw [ht]; exact hP, va_K.moved hW.alike hK9, hD⟩, hS.F ht⟩) hS.2.2 dX0_readClause_154
        · rw [h_92]
          refine lv_if_eq (tgt := 154) hx hb dX0_readClause_63 rfl (fun c_95 => absurd c_95 (by decide +kernel)) (fun c_95 => ?_)
          refine lv_aload hx hb dX0_readClause_66 (lv_at hl 2 rfl) ?_
          refine lv_aload_n hx hb dX0_readClause_68 rfl (lv_at hl 6 rfl) ?_
          obtain ⟨hPc, hDc, hFc, hqc⟩ := cl_cut (wc := (wd_c_X9_peek h1 h1_0 h1_f1 j49b_h1_f2 j49b_h1_f3 h1_0 h1_0k h1_0c)) hP hD hS hA [0, 1] (by decide +kernel) rfl
          have hKc := hK.sub (tys' := [(h1_0k, .int)]) [0] rfl
          have hrv := va_recv hKc hPc (ci := 9) (q0 := 0) rfl rfl
          refine va_calli (va_runV (As := []) (rest := [.ref ts2]) ⟨hx, hb, hml, hown, hts⟩ (c_X9_peek l dC dI H.size h1 h1_0 h1_f1 j49b_h1_f2 j49b_h1_f3 h1_0k h1_0c (RG_w g_h1_f1 (by decide +kernel)) g_j49b_h1_f2 (RG_w h_93 (by decide +kernel)) a_h1_0c) (cwV 0 hts gf_c_X0_readClause_c_X9_peek rfl rfl rfl mdV_X9_peek ⟨Nat.le_of_ble_eq_true rfl, Nat.le_of_ble_eq_true rfl⟩) ⟨fun a U g mk q => by obtain ⟨q0, q1, qP, qK, qD⟩ := q; exact ⟨q0, q1, qP, va_K.moved (u := U) (U := U.calling g mk a) (Vm.Alike.refl U.vm) qK, qD⟩, hrv, fun U hU hW => ⟨rfl, by rw [hU], by rw [hU]; exact hPc, va_K.moved hW.alike hKc, hDc.weaken (fun _ _ _ _ => trivial)⟩⟩ rfl rfl hl.1 rfl (lv_room (Nat.le_of_ble_eq_true rfl)) dX0_readClause_69 ⟨Nat.le_of_ble_eq_true rfl, Nat.le_of_ble_eq_true rfl⟩) hS (fun q _ h => hFc q h) hFc (fun r_96 x_97 t H1 locs ht hvm hw hB hz1 hk1 hS => ?_)
          obtain ⟨hP1, hK1, hD1⟩ := hB
          rw [ht] at hP1
          obtain ⟨hP, hD⟩ := cl_put (w1 := (wd_c_X9_peek h1 h1_0 h1_f1 x_97 j49b_h1_f3 h1_0 h1_0k h1_0c)) (nw := (wd_c_X0_readClause h1 h1_0 h1_f1 x_97 j49b_h1_f3 h1_0 h1_0k h1_0c h0 h0_0 j49b_h0_f1 h0_f2 h0_f3 h0_0 h0_0k j49b_h0_0c)) hP hD [0, 1] [4, 5, 2, 3] 4 rfl hqc (by decide +kernel) rfl hk1 hFc hP1 hD1
          generalize H1 = H at hP hS ⊢
          as_aux_lemma =>
          rcases hw with ⟨h_98, h_99, h_100⟩ | ⟨h_101, h_102, h_103, h_104⟩
          · rw [h_98]
            obtain ⟨hPc, hDc, hFc, hqc⟩ := cl_cut (wc := []) hP hD hS hA [] (by decide +kernel) rfl
            have hKc := hK.sub (tys' := []) [] rfl
            refine va_calli (va_runS (As := [.ref ts2, .int (-1)]) (rest := []) ⟨hx, hb, hml, hown, hts⟩ (c_X0_placeIn_4 l dC dI H.size ts2 (-1) (RG_k (-1) (-1) rfl)) (va_cwS 2 hts gf_c_X0_readClause_c_X0_placeIn_4 rfl rfl rfl md_X0_placeIn ⟨Nat.le_of_ble_eq_true rfl, Nat.le_of_ble_eq_true rfl⟩) ⟨fun a U g mk q => by obtain ⟨q0, q1, qP, qK, qD⟩ := q; exact ⟨q0, q1, qP, va_K.moved (u := U) (U := U.calling g mk a) (Vm.Alike.refl U.vm) qK, qD⟩, fun U hU hW => ⟨rfl, by rw [hU], by rw [hU]; exact hPc, va_K.moved hW.alike hKc, hDc.weaken (fun _ _ _ _ => trivial)⟩⟩ rfl rfl hl.1 rfl (lv_room (Nat.le_of_ble_eq_true rfl)) dX0_readClause_72 ⟨Nat.le_of_ble_eq_true rfl, Nat.le_of_ble_eq_true rfl⟩) hS (fun q _ h => hFc q h) hFc (fun r_105 u t H1 locs ht hvm hw hB hz1 hk1 hS => ?_)
            obtain ⟨hP1, hK1, hD1⟩ := hB
            rw [ht] at hP1
            have hP := bv_still hP hk1
            generalize H1 = H at hP hS ⊢
            as_aux_lemma =>
            have h_106 := hw
            rw [h_106]
            refine lv_istore (lv' := [(7, .int (-1)), (6, .int j49b_l6), (5, .int j49b_l5), (4, .ref ts2), (3, .int j49b_l3), (2, .int 1), (0, .ref h0), (1, .ref h1)]) hx hb dX0_readClause_75 hl (Nat.le_of_ble_eq_true rfl) rfl (fun ls hl => ?_)
            refine lv_iload hx hb dX0_readClause_77 (lv_at hl 0 rfl) ?_
            refine lv_if_ge (tgt := 83) hx hb dX0_readClause_79 rfl (fun c_107 => absurd c_107 (by decide +kernel)) (fun c_107 => ?_)
            have hK9 := hK.sub (tys' := []) [] rfl
            exact W.vret hx hb hr (fun t ht hW => ⟨⟨(x_97, j49b_h1_f3, j49b_h0_f1, h0_f2, h0_f3, j49b_h0_0c), rfl, ⟨h_99, (RG_w h_93 (by decide +kernel)), (RG_w g_j49b_h0_f1 (by decide +kernel)), g_h0_f2, g_h0_f3, a_j49b_h0_0c⟩, by rw [ht]; exact hP, va_K.moved hW.alike hK9, hD⟩, hS.F ht⟩) hS.2.2 dX0_readClause_82
          · obtain ⟨hPc, hDc, hFc, hqc⟩ := cl_cut (wc := []) hP hD hS hA [] (by decide +kernel) rfl
            have hKc := hK.sub (tys' := []) [] rfl
            refine va_calli (va_runS (As := [.ref ts2, .int r_96]) (rest := []) ⟨hx, hb, hml, hown, hts⟩ (c_X0_placeIn_5 l dC dI H.size ts2 r_96 tv2 h_101) (va_cwS 2 hts gf_c_X0_readClause_c_X0_placeIn_5 rfl rfl rfl md_X0_placeIn ⟨Nat.le_of_ble_eq_true rfl, Nat.le_of_ble_eq_true rfl⟩) ⟨fun a U g mk q => by obtain ⟨q0, q1, qP, qK, qD, qE0, qE1, qE2, qE3, qE4⟩ := q; exact ⟨q0, q1, qP, va_K.moved (u := U) (U := U.calling g mk a) (Vm.Alike.refl U.vm) qK, qD, va_Z.moved (u := U) (U := U.calling g mk a) (Vm.Alike.refl U.vm) qE0, va_OF.moved (u := U) (U := U.calling g mk a) (Vm.Alike.refl U.vm) qE1, va_O.moved (u := U) (U := U.calling g mk a) (Vm.Alike.refl U.vm) qE2, va_OF.moved (u := U) (U := U.calling g mk a) (Vm.Alike.refl U.vm) qE3, va_T.moved (u := U) (U := U.calling g mk a) (Vm.Alike.refl U.vm) qE4⟩, fun U hU hW => ⟨rfl, by rw [hU], by rw [hU]; exact hPc, va_K.moved hW.alike hKc, hDc.weaken (fun _ _ _ _ => trivial), va_Z.moved hW.alike (by rw [hU]; exact (hE_10.kept hS.2.1).narrow hFc), va_OF.moved hW.alike (by rw [hU]; exact (hE_24.kept hS.2.1).narrow hFc), va_O.moved hW.alike (by rw [hU]; exact (hE_23.kept hS.2.1).narrow hFc), va_OF.moved hW.alike (by rw [hU]; exact (hE_25.kept hS.2.1).narrow hFc), va_T.moved hW.alike (by rw [hU]; exact (hE_26.kept hS.2.1).narrow hFc)⟩⟩ rfl rfl hl.1 rfl (lv_room (Nat.le_of_ble_eq_true rfl)) dX0_readClause_72 ⟨Nat.le_of_ble_eq_true rfl, Nat.le_of_ble_eq_true rfl⟩) hS (fun q _ h => hFc q h) hFc (fun r_108 u t H1 locs ht hvm hw hB hz1 hk1 hS => ?_)
            obtain ⟨hP1, hK1, hD1⟩ := hB
            rw [ht] at hP1
            have hP := bv_still hP hk1
            generalize H1 = H at hP hS ⊢
            as_aux_lemma =>
            rcases hw with h_109 | h_110
            · rw [h_109]
              refine lv_istore (lv' := [(7, .int (-1)), (6, .int j49b_l6), (5, .int j49b_l5), (4, .ref ts2), (3, .int j49b_l3), (2, .int 1), (0, .ref h0), (1, .ref h1)]) hx hb dX0_readClause_75 hl (Nat.le_of_ble_eq_true rfl) rfl (fun ls hl => ?_)
              refine lv_iload hx hb dX0_readClause_77 (lv_at hl 0 rfl) ?_
              refine lv_if_ge (tgt := 83) hx hb dX0_readClause_79 rfl (fun c_111 => absurd c_111 (by decide +kernel)) (fun c_111 => ?_)
              have hK9 := hK.sub (tys' := []) [] rfl
              exact W.vret hx hb hr (fun t ht hW => ⟨⟨(x_97, j49b_h1_f3, j49b_h0_f1, h0_f2, h0_f3, j49b_h0_0c), rfl, ⟨(RG_w h_102 (by decide +kernel)), (RG_w h_93 (by decide +kernel)), (RG_w g_j49b_h0_f1 (by decide +kernel)), g_h0_f2, g_h0_f3, a_j49b_h0_0c⟩, by rw [ht]; exact hP, va_K.moved hW.alike hK9, hD⟩, hS.F ht⟩) hS.2.2 dX0_readClause_82
            · refine lv_istore (lv' := [(7, .int r_108), (6, .int j49b_l6), (5, .int j49b_l5), (4, .ref ts2), (3, .int j49b_l3), (2, .int 1), (0, .ref h0), (1, .ref h1)]) hx hb dX0_readClause_75 hl (Nat.le_of_ble_eq_true rfl) rfl (fun ls hl => ?_)
              refine lv_iload hx hb dX0_readClause_77 (lv_at hl 0 rfl) ?_
              refine lv_if_ge (tgt := 83) hx hb dX0_readClause_79 rfl (fun c_112 => ?_) (fun c_112 => ?_)
              · refine lv_iload hx hb dX0_readClause_83 (lv_at hl 2 rfl) ?_
                refine lv_iload hx hb dX0_readClause_85 (lv_at hl 0 rfl) ?_
                refine lv_ishr hx hb dX0_readClause_87 ?_
                refine lv_topi (fun x_113 ex_113 => ?_)
                as_aux_lemma =>
                refine lv_iconst (v := 1) hx hb dX0_readClause_88 kc_iconst_1 ?_
                refine lv_iand hx hb dX0_readClause_89 ?_
                refine lv_topi (fun x_114 ex_114 => ?_)
                have g_115 : RG x_114 0 1 := RG_andr ex_114 (RG_k 1 1 rfl) (by decide +kernel)
                refine lv_if_eq (tgt := 98) hx hb dX0_readClause_90 rfl (fun c_116 => ?_) (fun c_116 => ?_)
                · have g_117 : RG x_114 0 0 := RG_eq1 g_115 (RG_k 0 0 rfl) c_116 (by decide +kernel)
                  refine lv_iload hx hb dX0_readClause_98 (lv_at hl 2 rfl) ?_
                  refine lv_iconst (v := 1) hx hb dX0_readClause_100 kc_iconst_1 ?_
                  refine lv_iload hx hb dX0_readClause_101 (lv_at hl 0 rfl) ?_
                  refine lv_ishl hx hb dX0_readClause_103 ?_
                  refine lv_topi (fun x_118 ex_118 => ?_)
                  have g_119 : RG x_118 1 128 := RG_shl1 ex_118 h_110 (by decide +kernel)
                  refine lv_ior hx hb dX0_readClause_104 ?_
                  refine lv_topi (fun x_120 ex_120 => ?_)
                  as_aux_lemma =>
                  refine lv_istore (lv' := [(5, .int x_120), (7, .int r_108), (6, .int j49b_l6), (4, .ref ts2), (3, .int j49b_l3), (2, .int 1), (0, .ref h0), (1, .ref h1)]) hx hb dX0_readClause_105 hl (Nat.le_of_ble_eq_true rfl) rfl (fun ls hl => ?_)
                  refine lv_aload_n hx hb dX0_readClause_107 rfl (lv_at hl 7 rfl) ?_
                  obtain ⟨hPc, hDc, hFc, hqc⟩ := cl_cut (wc := (wd_c_X9_skip h1 h1_0 h1_f1 x_97 j49b_h1_f3)) hP hD hS hA [0] (by decide +kernel) rfl
                  have hKc := hK.sub (tys' := []) [] rfl
                  have hrv := va_recv hKc hPc (ci := 9) (q0 := 0) rfl rfl
                  refine va_callv (va_runV (As := []) (rest := []) ⟨hx, hb, hml, hown, hts⟩ (c_X9_skip l dC dI H.size h1 h1_0 h1_f1 x_97 j49b_h1_f3 (RG_w g_h1_f1 (by decide +kernel)) h_102 (RG_w h_93 (by decide +kernel))) (cwV 0 hts gf_c_X0_readClause_c_X9_skip rfl rfl rfl mdV_X9_skip ⟨Nat.le_of_ble_eq_true rfl, Nat.le_of_ble_eq_true rfl⟩) ⟨fun a U g mk q => by obtain ⟨q0, q1, qP, qK, qD⟩ := q; exact ⟨q0, q1, qP, va_K.moved (u := U) (U := U.calling g mk a) (Vm.Alike.refl U.vm) qK, qD⟩, hrv, fun U hU hW => ⟨rfl, by rw [hU], by rw [hU]; exact hPc, va_K.moved hW.alike hKc, hDc.weaken (fun _ _ _ _ => trivial)⟩⟩ rfl rfl hl.1 rfl (lv_room (Nat.le_of_ble_eq_true rfl)) dX0_readClause_108 ⟨Nat.le_of_ble_eq_true rfl, Nat.le_of_ble_eq_true rfl⟩) hS (fun q _ h => hFc q h) hFc (fun x_122 t H1 locs ht hvm hw hB hz1 hk1 hS => ?_)
                  obtain ⟨hP1, hK1, hD1⟩ := hB
                  rw [ht] at hP1
                  obtain ⟨hP, hD⟩ := cl_put (w1 := (wd_c_X9_skip h1 h1_0 h1_f1 x_122 j49b_h1_f3)) (nw := (wd_c_X0_readClause h1 h1_0 h1_f1 x_122 j49b_h1_f3 h1_0 h1_0k h1_0c h0 h0_0 j49b_h0_f1 h0_f2 h0_f3 h0_0 h0_0k j49b_h0_0c)) hP hD [0] [4, 1, 2, 3] 4 rfl hqc (by decide +kernel) rfl hk1 hFc hP1 hD1
                  generalize H1 = H at hP hS ⊢
                  as_aux_lemma =>
                  rcases hw with ⟨h_123, h_124, h_125⟩
                  refine lv_aload_n hx hb dX0_readClause_111 rfl (lv_at hl 6 rfl) ?_
                  refine va_get (D := (dC, dI)) (ci := 0) (v := .ref h0_0) (C := RX0) (T := TX0) (N := 4) hx hb hts iw_c_X0_readClause_X0 hown hK hP 2 rfl rfl 0 (by decide +kernel) (hts (.fieldLink RX0 11 "BuoyVote$Borough" "values" "[I") (List.mem_of_getElem? (i := 75) rfl)) (fun _ h9 => h9) rfl dX0_readClause_112 ?_
                  refine lv_iload_n hx hb dX0_readClause_115 rfl (lv_at hl 4 rfl) ?_
                  refine lv_iload hx hb dX0_readClause_116 (lv_at hl 1 rfl) ?_
                  refine lv_iadd hx hb dX0_readClause_118 ?_
                  refine lv_topi (fun x_126 ex_126 => ?_)
                  have g_127 : RG x_126 4 67 := RG_add ex_126 g_j49b_l3 h_110 (by decide +kernel)
                  refine lv_aload_n hx hb dX0_readClause_119 rfl (lv_at hl 7 rfl) ?_
                  refine va_gets hx hb hE_2 hS hown (hts (.fieldLink RX0 100 "BuoyVote$Borough" "LOW" "[I") (List.mem_of_getElem? (i := 93) rfl)) (fun _ h9 => h9) dX0_readClause_120 ?_
                  refine va_gets hx hb hE_0 hS hown (hts (.fieldLink RX0 103 "BuoyVote$Borough" "FIRST" "[I") (List.mem_of_getElem? (i := 77) rfl)) (fun _ h9 => h9) dX0_readClause_123 ?_
                  refine lv_iload_n hx hb dX0_readClause_126 rfl (lv_at hl 5 rfl) ?_
                  refine va_ti (v := .int 4) hx hb hE_1 hS (by unfold vp_in; decide) rfl dX0_readClause_127 ?_
                  refine lv_iload hx hb dX0_readClause_128 (lv_at hl 1 rfl) ?_
                  as_aux_lemma =>
                  refine lv_iadd hx hb dX0_readClause_130 ?_
                  refine lv_topi (fun x_128 ex_128 => ?_)
                  have g_129 : RG x_128 4 11 := RG_add ex_128 (RG_k 4 4 rfl) h_110 (by decide +kernel)
                  refine va_ti hx hb hE_3 hS (RG_in g_129 (by decide +kernel)) rfl dX0_readClause_131 ?_
                  refine lv_topi (fun x_130 ex_130 => ?_)
                  have g_131 : RG x_130 0 1 := RG_tab ex_130 (by decide +kernel)
                  refine va_gets hx hb hE_4 hS hown (hts (.fieldLink RX0 106 "BuoyVote$Borough" "HIGH" "[I") (List.mem_of_getElem? (i := 94) rfl)) (fun _ h9 => h9) dX0_readClause_132 ?_
                  refine va_gets hx hb hE_0 hS hown (hts (.fieldLink RX0 103 "BuoyVote$Borough" "FIRST" "[I") (List.mem_of_getElem? (i := 77) rfl)) (fun _ h9 => h9) dX0_readClause_135 ?_
                  refine lv_iload_n hx hb dX0_readClause_138 rfl (lv_at hl 5 rfl) ?_
                  refine va_ti (v := .int 4) hx hb hE_1 hS (by unfold vp_in; decide) rfl dX0_readClause_139 ?_
                  refine lv_iload hx hb dX0_readClause_140 (lv_at hl 1 rfl) ?_
                  refine lv_iadd hx hb dX0_readClause_142 ?_
                  refine lv_topi (fun x_132 ex_132 => ?_)
                  obtain rfl : x_128 = x_132 := ex_128.trans ex_132.symm
                  refine va_ti hx hb hE_5 hS (RG_in g_129 (by decide +kernel)) rfl dX0_readClause_143 ?_
                  as_aux_lemma =>
                  refine lv_topi (fun x_133 ex_133 => ?_)
                  have g_134 : RG x_133 0 20 := RG_tab ex_133 (by decide +kernel)
                  obtain ⟨hPc, hDc, hFc, hqc⟩ := cl_cut (wc := (wd_c_X9_numberWithin h1 h1_0 h1_f1 x_122 j49b_h1_f3 h1_0 h1_0k h1_0c)) hP hD hS hA [0, 1] (by decide +kernel) rfl
                  have hKc := hK.sub (tys' := [(h1_0k, .int)]) [0] rfl
                  have hrv := va_recv hKc hPc (ci := 9) (q0 := 0) rfl rfl
                  refine va_calli (va_runV (As := [.int x_130, .int x_133]) (rest := [.int x_126, .ref h0_0]) ⟨hx, hb, hml, hown, hts⟩ (c_X9_numberWithin l dC dI H.size h1 x_130 x_133 h1_0 h1_f1 x_122 j49b_h1_f3 h1_0k h1_0c g_131 g_134 (RG_w g_h1_f1 (by decide +kernel)) (RG_w h_123 (by decide +kernel)) (RG_w h_93 (by decide +kernel)) a_h1_0c) (cwV 2 hts gf_c_X0_readClause_c_X9_numberWithin rfl rfl rfl mdV_X9_numberWithin ⟨Nat.le_of_ble_eq_true rfl, Nat.le_of_ble_eq_true rfl⟩) ⟨fun a U g mk q => by obtain ⟨q0, q1, qP, qK, qD⟩ := q; exact ⟨q0, q1, qP, va_K.moved (u := U) (U := U.calling g mk a) (Vm.Alike.refl U.vm) qK, qD⟩, hrv, fun U hU hW => ⟨rfl, by rw [hU], by rw [hU]; exact hPc, va_K.moved hW.alike hKc, hDc.weaken (fun _ _ _ _ => trivial)⟩⟩ rfl rfl hl.1 rfl (lv_room (Nat.le_of_ble_eq_true rfl)) dX0_readClause_144 ⟨Nat.le_of_ble_eq_true rfl, Nat.le_of_ble_eq_true rfl⟩) hS (fun q _ h => hFc q h) hFc (fun r_135 u t H1 locs ht hvm hw hB hz1 hk1 hS => ?_)
                  obtain ⟨x_136, x_137⟩ := u
                  obtain ⟨hP1, hK1, hD1⟩ := hB
                  rw [ht] at hP1
                  obtain ⟨hP, hD⟩ := cl_put (w1 := (wd_c_X9_numberWithin h1 h1_0 h1_f1 x_136 x_137 h1_0 h1_0k h1_0c)) (nw := (wd_c_X0_readClause h1 h1_0 h1_f1 x_136 x_137 h1_0 h1_0k h1_0c h0 h0_0 j49b_h0_f1 h0_f2 h0_f3 h0_0 h0_0k j49b_h0_0c)) hP hD [0, 1] [4, 5, 2, 3] 4 rfl hqc (by decide +kernel) rfl hk1 hFc hP1 hD1
                  generalize H1 = H at hP hS ⊢
                  as_aux_lemma =>
                  rcases hw with ⟨h_138, h_139, h_140, h_141⟩ | ⟨h_142, h_143, h_144, h_145, h_146⟩
                  · rw [h_138]
                    refine va_iast hx hb hK hP hD hS 3 1 rfl rfl (RG_in g_127 (by decide +kernel)) dX0_readClause_147 (fun H locs hP hD hS => ?_)
                    have hP : va_P (dC, dI) vwCl (wd_c_X0_readClause h1 h1_0 h1_f1 x_136 x_137 h1_0 h1_0k h1_0c h0 h0_0 j49b_h0_f1 h0_f2 h0_f3 h0_0 h0_0k (upd j49b_h0_0c (x_126 : Int32).toNatClampNeg (-1))) H := hP
                    have hD : va_D A (wd_c_X0_readClause h1 h1_0 h1_f1 x_136 x_137 h1_0 h1_0k h1_0c h0 h0_0 j49b_h0_f1 h0_f2 h0_f3 h0_0 h0_0k (upd j49b_h0_0c (x_126 : Int32).toNatClampNeg (-1))) := hD
                    have l_148 : (upd j49b_h0_0c (x_126 : Int32).toNatClampNeg (-1)) (x_126 : Int32).toNatClampNeg = (-1) := pk_us
                    have a_149 : AI (upd j49b_h0_0c (x_126 : Int32).toNatClampNeg (-1)) (-1) 99 := AI_up a_j49b_h0_0c (RG_k (-1) (-1) rfl) (by decide +kernel)
                    generalize (upd j49b_h0_0c (x_126 : Int32).toNatClampNeg (-1)) = w_147 at hP hD a_149 l_148
                    have hP : va_P (dC, dI) vwCl (wd_c_X0_readClause h1 h1_0 h1_f1 x_136 x_137 h1_0 h1_0k h1_0c h0 h0_0 j49b_h0_f1 h0_f2 h0_f3 h0_0 h0_0k w_147) H := hP
                    have hD : va_D A (wd_c_X0_readClause h1 h1_0 h1_f1 x_136 x_137 h1_0 h1_0k h1_0c h0 h0_0 j49b_h0_f1 h0_f2 h0_f3 h0_0 h0_0k w_147) := hD
                    obtain ⟨x_150, ex_150⟩ : ∃ y : Int32, y = j49b_l6 + 1 := ⟨_, rfl⟩
                    have g_151 : RG x_150 1 9 := RG_add ex_150 g_88 (RG_k 1 1 rfl) (by decide +kernel)
                    refine lv_iinc (v := x_150) (lv' := [(6, .int x_150), (5, .int x_120), (7, .int r_108), (4, .ref ts2), (3, .int j49b_l3), (2, .int 1), (0, .ref h0), (1, .ref h1)]) hx hb dX0_readClause_148 hl (k := 2) rfl (by rw [ex_150]; rfl) (Nat.le_of_ble_eq_true rfl) rfl (fun ls hl => ?_)
                    refine lv_goto (tgt := 49) hx hb dX0_readClause_151 rfl ?_
                    as_aux_lemma =>
                    exact hU _ _ _ (ih49b x_150 x_120 j49b_l3 x_136 x_137 j49b_h0_f1 w_147 (mu_s (MU_add ex_150 g_88 (q := 1) rfl (by decide +kernel)) hM49b) g_h0_f1 g_h0_f2 g_h0_f3 g_h1_f1 g_h1_f2 g_h1_f3 g_j49b_h0_f1 h_139 (RG_w h_140 (by decide +kernel)) g_j49b_l3 (RG_w g_151 (by decide +kernel)) a_149 _ _ _ hP hD hS (lv_sub hl [0, 1, 3, 4, 5, 6, 7] rfl))
                  · refine va_iast hx hb hK hP hD hS 3 1 rfl rfl (RG_in g_127 (by decide +kernel)) dX0_readClause_147 (fun H locs hP hD hS => ?_)
                    have hP : va_P (dC, dI) vwCl (wd_c_X0_readClause h1 h1_0 h1_f1 x_136 x_137 h1_0 h1_0k h1_0c h0 h0_0 j49b_h0_f1 h0_f2 h0_f3 h0_0 h0_0k (upd j49b_h0_0c (x_126 : Int32).toNatClampNeg r_135)) H := hP
                    have hD : va_D A (wd_c_X0_readClause h1 h1_0 h1_f1 x_136 x_137 h1_0 h1_0k h1_0c h0 h0_0 j49b_h0_f1 h0_f2 h0_f3 h0_0 h0_0k (upd j49b_h0_0c (x_126 : Int32).toNatClampNeg r_135)) := hD
                    have l_153 : (upd j49b_h0_0c (x_126 : Int32).toNatClampNeg r_135) (x_126 : Int32).toNatClampNeg = r_135 := pk_us
                    have a_154 : AI (upd j49b_h0_0c (x_126 : Int32).toNatClampNeg r_135) (-1) 99 := AI_up a_j49b_h0_0c h_142 (by decide +kernel)
                    generalize (upd j49b_h0_0c (x_126 : Int32).toNatClampNeg r_135) = w_152 at hP hD a_154 l_153
                    have hP : va_P (dC, dI) vwCl (wd_c_X0_readClause h1 h1_0 h1_f1 x_136 x_137 h1_0 h1_0k h1_0c h0 h0_0 j49b_h0_f1 h0_f2 h0_f3 h0_0 h0_0k w_152) H := hP
                    have hD : va_D A (wd_c_X0_readClause h1 h1_0 h1_f1 x_136 x_137 h1_0 h1_0k h1_0c h0 h0_0 j49b_h0_f1 h0_f2 h0_f3 h0_0 h0_0k w_152) := hD
                    obtain ⟨x_155, ex_155⟩ : ∃ y : Int32, y = j49b_l6 + 1 := ⟨_, rfl⟩
                    have g_156 : RG x_155 1 9 := RG_add ex_155 g_88 (RG_k 1 1 rfl) (by decide +kernel)
                    refine lv_iinc (v := x_155) (lv' := [(6, .int x_155), (5, .int x_120), (7, .int r_108), (4, .ref ts2), (3, .int j49b_l3), (2, .int 1), (0, .ref h0), (1, .ref h1)]) hx hb dX0_readClause_148 hl (k := 2) rfl (by rw [ex_155]; rfl) (Nat.le_of_ble_eq_true rfl) rfl (fun ls hl => ?_)
                    refine lv_goto (tgt := 49) hx hb dX0_readClause_151 rfl ?_
                    exact hU _ _ _ (ih49b x_155 x_120 j49b_l3 x_136 x_137 j49b_h0_f1 w_152 (mu_s (MU_add ex_155 g_88 (q := 1) rfl (by decide +kernel)) hM49b) g_h0_f1 g_h0_f2 g_h0_f3 g_h1_f1 g_h1_f2 g_h1_f3 g_j49b_h0_f1 (RG_w h_143 (by decide +kernel)) h_144 g_j49b_l3 (RG_w g_156 (by decide +kernel)) a_154 _ _ _ hP hD hS (lv_sub hl [0, 1, 3, 4, 5, 6, 7] rfl))
                · have g_157 : RG x_114 1 1 := RG_ne1 g_115 (q := 0) rfl c_116 (by decide +kernel)
                  refine lv_aload_n hx hb dX0_readClause_93 rfl (lv_at hl 7 rfl) ?_
                  as_aux_lemma =>
                  obtain ⟨hPc, hDc, hFc, hqc⟩ := cl_cut (wc := (wd_c_X9_refuseHere h1 h1_0 h1_f1 x_97 j49b_h1_f3)) hP hD hS hA [0] (by decide +kernel) rfl
                  have hKc := hK.sub (tys' := []) [] rfl
                  have hrv := va_recv hKc hPc (ci := 9) (q0 := 0) rfl rfl
                  refine va_callv (va_runV (As := []) (rest := []) ⟨hx, hb, hml, hown, hts⟩ (c_X9_refuseHere l dC dI H.size h1 h1_0 h1_f1 x_97 j49b_h1_f3 (RG_w g_h1_f1 (by decide +kernel)) (RG_w h_102 (by decide +kernel)) (RG_w h_93 (by decide +kernel))) (cwV 0 hts gf_c_X0_readClause_c_X9_refuseHere rfl rfl rfl mdV_X9_refuseHere ⟨Nat.le_of_ble_eq_true rfl, Nat.le_of_ble_eq_true rfl⟩) ⟨fun a U g mk q => by obtain ⟨q0, q1, qP, qK, qD⟩ := q; exact ⟨q0, q1, qP, va_K.moved (u := U) (U := U.calling g mk a) (Vm.Alike.refl U.vm) qK, qD⟩, hrv, fun U hU hW => ⟨rfl, by rw [hU], by rw [hU]; exact hPc, va_K.moved hW.alike hKc, hDc.weaken (fun _ _ _ _ => trivial)⟩⟩ rfl rfl hl.1 rfl (lv_room (Nat.le_of_ble_eq_true rfl)) dX0_readClause_94 ⟨Nat.le_of_ble_eq_true rfl, Nat.le_of_ble_eq_true rfl⟩) hS (fun q _ h => hFc q h) hFc (fun x_159 t H1 locs ht hvm hw hB hz1 hk1 hS => ?_)
                  obtain ⟨hP1, hK1, hD1⟩ := hB
                  rw [ht] at hP1
                  obtain ⟨hP, hD⟩ := cl_put (w1 := (wd_c_X9_refuseHere h1 h1_0 h1_f1 x_97 x_159)) (nw := (wd_c_X0_readClause h1 h1_0 h1_f1 x_97 x_159 h1_0 h1_0k h1_0c h0 h0_0 j49b_h0_f1 h0_f2 h0_f3 h0_0 h0_0k j49b_h0_0c)) hP hD [0] [4, 1, 2, 3] 4 rfl hqc (by decide +kernel) rfl hk1 hFc hP1 hD1
                  generalize H1 = H at hP hS ⊢
                  as_aux_lemma =>
                  have h_160 := hw
                  have hK9 := hK.sub (tys' := []) [] rfl
                  exact W.vret hx hb hr (fun t ht hW => ⟨⟨(x_97, x_159, j49b_h0_f1, h0_f2, h0_f3, j49b_h0_0c), rfl, ⟨(RG_w h_102 (by decide +kernel)), (RG_w h_160 (by decide +kernel)), (RG_w g_j49b_h0_f1 (by decide +kernel)), g_h0_f2, g_h0_f3, a_j49b_h0_0c⟩, by rw [ht]; exact hP, va_K.moved hW.alike hK9, hD⟩, hS.F ht⟩) hS.2.2 dX0_readClause_97
              · have d_161 := Int32.not_le.mp c_112
                have g_162 : RG r_108 0 (-1) := RG_lt1 h_110 (RG_k 0 0 rfl) d_161 (by decide +kernel)
                exact RG_dead (RG_lt1 h_110 (RG_k 0 0 rfl) d_161 (b' := (-1)) (by decide +kernel)) (by decide +kernel)
  have J49c : ∀ (n49c : Nat) (j49c_l6 : Int32) (j49c_l5 : Int32) (j49c_l3 : Int32) (j49c_h1_f2 : Int32) (j49c_h1_f3 : Int32) (j49c_h0_f2 : Int32) (j49c_h0_0c : Nat → Int32) (hM49c : MU j49c_l6 < n49c) (g_h0_f1 : RG h0_f1 0 8) (g_h0_f2 : RG h0_f2 0 2) (g_h0_f3 : RG h0_f3 0 1) (g_h1_f1 : RG h1_f1 1 240) (g_h1_f2 : RG h1_f2 0 240) (g_h1_f3 : RG h1_f3 (-1) 240) (g_j49c_h0_f2 : RG j49c_h0_f2 1 3) (g_j49c_h1_f2 : RG j49c_h1_f2 0 240) (g_j49c_h1_f3 : RG j49c_h1_f3 (-1) 240) (g_j49c_l3 : RG j49c_l3 68 76) (g_j49c_l6 : RG j49c_l6 0 5) (a_j49c_h0_0c : AI j49c_h0_0c (-1) 99) (H : Heap) (locs : List Loc) (ls : Array Slot) (hP : va_P (dC, dI) vwCl (wd_c_X0_readClause h1 h1_0 h1_f1 j49c_h1_f2 j49c_h1_f3 h1_0 h1_0k h1_0c h0 h0_0 h0_f1 j49c_h0_f2 h0_f3 h0_0 h0_0k j49c_h0_0c) H) (hD : va_D A (wd_c_X0_readClause h1 h1_0 h1_f1 j49c_h1_f2 j49c_h1_f3 h1_0 h1_0k h1_0c h0 h0_0 h0_f1 j49c_h0_f2 h0_f3 h0_0 h0_0k j49c_h0_0c)) (hS : va_S A s.heap H locs) (hl : lv_has ls 8 [(6, .int j49c_l6), (5, .int j49c_l5), (4, .ref ts3), (3, .int j49c_l3), (2, .int 2), (0, .ref h0), (1, .ref h1)]), G H locs (F0 m 49 ls []) := by
    as_aux_lemma =>
    intro n49c
    induction n49c with
    | zero => intros; exact absurd (by assumption) (Nat.not_lt_zero _)
    | succ n49c ih49c =>
      intro j49c_l6 j49c_l5 j49c_l3 j49c_h1_f2 j49c_h1_f3 j49c_h0_f2 j49c_h0_0c hM49c g_h0_f1 g_h0_f2 g_h0_f3 g_h1_f1 g_h1_f2 g_h1_f3 g_j49c_h0_f2 g_j49c_h1_f2 g_j49c_h1_f3 g_j49c_l3 g_j49c_l6 a_j49c_h0_0c H locs ls hP hD hS hl
      refine hG _ _ _ ?_
      refine lv_iload hx hb dX0_readClause_49 (lv_at hl 0 rfl) ?_
      refine lv_aload hx hb dX0_readClause_51 (lv_at hl 2 rfl) ?_
      obtain ⟨hPc, hDc, hFc, hqc⟩ := cl_cut (wc := []) hP hD hS hA [] (by decide +kernel) rfl
      have hKc := hK.sub (tys' := []) [] rfl
      have hrv := bv_Orecv hE_28 hS
      refine va_calli (va_runV (As := []) (rest := [.int j49c_l6]) ⟨hx, hb, hml, hown, hts⟩ (c_J0_length_8abf5_3 l dC dI H.size ts3 tv3) (cwV 0 hts gf_c_X0_readClause_c_J0_length_8abf5_3 rfl rfl rfl mdV_J0_length_8abf5 ⟨Nat.le_of_ble_eq_true rfl, Nat.le_of_ble_eq_true rfl⟩) ⟨fun a U g mk q => by obtain ⟨q0, q1, qP, qK, qD, qE0, qE1, qE2, qE3, qE4⟩ := q; exact ⟨q0, q1, qP, va_K.moved (u := U) (U := U.calling g mk a) (Vm.Alike.refl U.vm) qK, qD, va_OF.moved (u := U) (U := U.calling g mk a) (Vm.Alike.refl U.vm) qE0, va_T.moved (u := U) (U := U.calling g mk a) (Vm.Alike.refl U.vm) qE1, va_Z.moved (u := U) (U := U.calling g mk a) (Vm.Alike.refl U.vm) qE2, va_OF.moved (u := U) (U := U.calling g mk a) (Vm.Alike.refl U.vm) qE3, va_O.moved (u := U) (U := U.calling g mk a) (Vm.Alike.refl U.vm) qE4⟩, hrv, fun U hU hW => ⟨rfl, by rw [hU], by rw [hU]; exact hPc, va_K.moved hW.alike hKc, hDc.weaken (fun _ _ _ _ => trivial), va_OF.moved hW.alike (by rw [hU]; exact (hE_30.kept hS.2.1).narrow hFc), va_T.moved hW.alike (by rw [hU]; exact (hE_31.kept hS.2.1).narrow hFc), va_Z.moved hW.alike (by rw [hU]; exact (hE_10.kept hS.2.1).narrow hFc), va_OF.moved hW.alike (by rw [hU]; exact (hE_29.kept hS.2.1).narrow hFc), va_O.moved hW.alike (by rw [hU]; exact (hE_28.kept hS.2.1).narrow hFc)⟩⟩ rfl rfl hl.1 rfl (lv_room (Nat.le_of_ble_eq_true rfl)) dX0_readClause_53 ⟨Nat.le_of_ble_eq_true rfl, Nat.le_of_ble_eq_true rfl⟩) hS (fun q _ h => hFc q h) hFc (fun r_163 u t H1 locs ht hvm hw hB hz1 hk1 hS => ?_)
      obtain ⟨hP1, hK1, hD1⟩ := hB
      rw [ht] at hP1
      have hP := bv_still hP hk1
      generalize H1 = H at hP hS ⊢
      as_aux_lemma =>
      have h_164 := hw
      rw [h_164]
      refine lv_icmp_gt (tgt := 154) hx hb dX0_readClause_56 rfl (fun c_165 => ?_) (fun c_165 => ?_)
      · have g_166 : RG j49c_l6 5 5 := RG_lt2 (RG_k 4 4 rfl) g_j49c_l6 c_165 (by decide +kernel)
        have hK9 := hK.sub (tys' := []) [] rfl
        exact W.vret hx hb hr (fun t ht hW => ⟨⟨(j49c_h1_f2, j49c_h1_f3, h0_f1, j49c_h0_f2, h0_f3, j49c_h0_0c), rfl, ⟨g_j49c_h1_f2, g_j49c_h1_f3, g_h0_f1, (RG_w g_j49c_h0_f2 (by decide +kernel)), g_h0_f3, a_j49c_h0_0c⟩, by rw [ht]; exact hP, va_K.moved hW.alike hK9, hD⟩, hS.F ht⟩) hS.2.2 dX0_readClause_154
      · have d_167 := Int32.not_lt.mp c_165
        have g_168 : RG j49c_l6 0 4 := RG_le1 g_j49c_l6 (RG_k 4 4 rfl) d_167 (by decide +kernel)
        refine lv_aload_n hx hb dX0_readClause_59 rfl (lv_at hl 6 rfl) ?_
        obtain ⟨hPc, hDc, hFc, hqc⟩ := cl_cut (wc := (wd_c_X9_isRight h1 h1_0 h1_f1 j49c_h1_f2 j49c_h1_f3)) hP hD hS hA [0] (by decide +kernel) rfl
        have hKc := hK.sub (tys' := []) [] rfl
        have hrv := va_recv hKc hPc (ci := 9) (q0 := 0) rfl rfl
        refine va_calli (va_runV (As := []) (rest := []) ⟨hx, hb, hml, hown, hts⟩ (c_X9_isRight l dC dI H.size h1 h1_0 h1_f1 j49c_h1_f2 j49c_h1_f3 (RG_w g_h1_f1 (by decide +kernel)) g_j49c_h1_f2 g_j49c_h1_f3) (cwV 0 hts gf_c_X0_readClause_c_X9_isRight rfl rfl rfl mdV_X9_isRight ⟨Nat.le_of_ble_eq_true rfl, Nat.le_of_ble_eq_true rfl⟩) ⟨fun a U g mk q => by obtain ⟨q0, q1, qP, qK, qD⟩ := q; exact ⟨q0, q1, qP, va_K.moved (u := U) (U := U.calling g mk a) (Vm.Alike.refl U.vm) qK, qD⟩, hrv, fun U hU hW => ⟨rfl, by rw [hU], by rw [hU]; exact hPc, va_K.moved hW.alike hKc, hDc.weaken (fun _ _ _ _ => trivial)⟩⟩ rfl rfl hl.1 rfl (lv_room (Nat.le_of_ble_eq_true rfl)) dX0_readClause_60 ⟨Nat.le_of_ble_eq_true rfl, Nat.le_of_ble_eq_true rfl⟩) hS (fun q _ h => hFc q h) hFc (fun r_169 u t H1 locs ht hvm hw hB hz1 hk1 hS => ?_)
        obtain ⟨hP1, hK1, hD1⟩ := hB
        rw [ht] at hP1
        obtain ⟨hP, hD⟩ := cl_put (w1 := (wd_c_X9_isRight h1 h1_0 h1_f1 j49c_h1_f2 j49c_h1_f3)) (nw := (wd_c_X0_readClause h1 h1_0 h1_f1 j49c_h1_f2 j49c_h1_f3 h1_0 h1_0k h1_0c h0 h0_0 h0_f1 j49c_h0_f2 h0_f3 h0_0 h0_0k j49c_h0_0c)) hP hD [0] [4, 1, 2, 3] 4 rfl hqc (by decide +kernel) rfl hk1 hFc hP1 hD1
        generalize H1 = H at hP hS ⊢
        as_aux_lemma =>
        rcases hw with ⟨h_170, h_171⟩ | ⟨h_172, h_173⟩
        · rw [h_170]
          refine lv_if_eq (tgt := 154) hx hb dX0_readClause_63 rfl (fun c_174 => ?_) (fun c_174 => absurd c_174 (by decide +kernel))
          have hK9 := hK.sub (tys' := []) [] rfl
          exact W.vret hx hb hr (fun t ht hW => ⟨⟨(j49c_h1_f2, j49c_h1_f3, h0_f1, j49c_h0_f2, h0_f3, j49c_h0_0c), rfl, ⟨g_j49c_h1_f2, (RG_w h_171 (by decide +kernel)), g_h0_f1, (RG_w g_j49c_h0_f2 (by decide +kernel)), g_h0_f3, a_j49c_h0_0c⟩, by rw [ht]; exact hP, va_K.moved hW.alike hK9, hD⟩, hS.F ht⟩) hS.2.2 dX0_readClause_154
        · rw [h_172]
          refine lv_if_eq (tgt := 154) hx hb dX0_readClause_63 rfl (fun c_175 => absurd c_175 (by decide +kernel)) (fun c_175 => ?_)
          refine lv_aload hx hb dX0_readClause_66 (lv_at hl 2 rfl) ?_
          refine lv_aload_n hx hb dX0_readClause_68 rfl (lv_at hl 6 rfl) ?_
          obtain ⟨hPc, hDc, hFc, hqc⟩ := cl_cut (wc := (wd_c_X9_peek h1 h1_0 h1_f1 j49c_h1_f2 j49c_h1_f3 h1_0 h1_0k h1_0c)) hP hD hS hA [0, 1] (by decide +kernel) rfl
          have hKc := hK.sub (tys' := [(h1_0k, .int)]) [0] rfl
          have hrv := va_recv hKc hPc (ci := 9) (q0 := 0) rfl rfl
          refine va_calli (va_runV (As := []) (rest := [.ref ts3]) ⟨hx, hb, hml, hown, hts⟩ (c_X9_peek l dC dI H.size h1 h1_0 h1_f1 j49c_h1_f2 j49c_h1_f3 h1_0k h1_0c (RG_w g_h1_f1 (by decide +kernel)) g_j49c_h1_f2 (RG_w h_173 (by decide +kernel)) a_h1_0c) (cwV 0 hts gf_c_X0_readClause_c_X9_peek rfl rfl rfl mdV_X9_peek ⟨Nat.le_of_ble_eq_true rfl, Nat.le_of_ble_eq_true rfl⟩) ⟨fun a U g mk q => by obtain ⟨q0, q1, qP, qK, qD⟩ := q; exact ⟨q0, q1, qP, va_K.moved (u := U) (U := U.calling g mk a) (Vm.Alike.refl U.vm) qK, qD⟩, hrv, fun U hU hW => ⟨rfl, by rw [hU], by rw [hU]; exact hPc, va_K.moved hW.alike hKc, hDc.weaken (fun _ _ _ _ => trivial)⟩⟩ rfl rfl hl.1 rfl (lv_room (Nat.le_of_ble_eq_true rfl)) dX0_readClause_69 ⟨Nat.le_of_ble_eq_true rfl, Nat.le_of_ble_eq_true rfl⟩) hS (fun q _ h => hFc q h) hFc (fun r_176 x_177 t H1 locs ht hvm hw hB hz1 hk1 hS => ?_)
          obtain ⟨hP1, hK1, hD1⟩ := hB
          rw [ht] at hP1
          obtain ⟨hP, hD⟩ := cl_put (w1 := (wd_c_X9_peek h1 h1_0 h1_f1 x_177 j49c_h1_f3 h1_0 h1_0k h1_0c)) (nw := (wd_c_X0_readClause h1 h1_0 h1_f1 x_177 j49c_h1_f3 h1_0 h1_0k h1_0c h0 h0_0 h0_f1 j49c_h0_f2 h0_f3 h0_0 h0_0k j49c_h0_0c)) hP hD [0, 1] [4, 5, 2, 3] 4 rfl hqc (by decide +kernel) rfl hk1 hFc hP1 hD1
          generalize H1 = H at hP hS ⊢
          as_aux_lemma =>
          rcases hw with ⟨h_178, h_179, h_180⟩ | ⟨h_181, h_182, h_183, h_184⟩
          · rw [h_178]
            obtain ⟨hPc, hDc, hFc, hqc⟩ := cl_cut (wc := []) hP hD hS hA [] (by decide +kernel) rfl
            have hKc := hK.sub (tys' := []) [] rfl
            refine va_calli (va_runS (As := [.ref ts3, .int (-1)]) (rest := []) ⟨hx, hb, hml, hown, hts⟩ (c_X0_placeIn_6 l dC dI H.size ts3 (-1) (RG_k (-1) (-1) rfl)) (va_cwS 2 hts gf_c_X0_readClause_c_X0_placeIn_6 rfl rfl rfl md_X0_placeIn ⟨Nat.le_of_ble_eq_true rfl, Nat.le_of_ble_eq_true rfl⟩) ⟨fun a U g mk q => by obtain ⟨q0, q1, qP, qK, qD⟩ := q; exact ⟨q0, q1, qP, va_K.moved (u := U) (U := U.calling g mk a) (Vm.Alike.refl U.vm) qK, qD⟩, fun U hU hW => ⟨rfl, by rw [hU], by rw [hU]; exact hPc, va_K.moved hW.alike hKc, hDc.weaken (fun _ _ _ _ => trivial)⟩⟩ rfl rfl hl.1 rfl (lv_room (Nat.le_of_ble_eq_true rfl)) dX0_readClause_72 ⟨Nat.le_of_ble_eq_true rfl, Nat.le_of_ble_eq_true rfl⟩) hS (fun q _ h => hFc q h) hFc (fun r_185 u t H1 locs ht hvm hw hB hz1 hk1 hS => ?_)
            obtain ⟨hP1, hK1, hD1⟩ := hB
            rw [ht] at hP1
            have hP := bv_still hP hk1
            generalize H1 = H at hP hS ⊢
            as_aux_lemma =>
            have h_186 := hw
            rw [h_186]
            refine lv_istore (lv' := [(7, .int (-1)), (6, .int j49c_l6), (5, .int j49c_l5), (4, .ref ts3), (3, .int j49c_l3), (2, .int 2), (0, .ref h0), (1, .ref h1)]) hx hb dX0_readClause_75 hl (Nat.le_of_ble_eq_true rfl) rfl (fun ls hl => ?_)
            refine lv_iload hx hb dX0_readClause_77 (lv_at hl 0 rfl) ?_
            refine lv_if_ge (tgt := 83) hx hb dX0_readClause_79 rfl (fun c_187 => absurd c_187 (by decide +kernel)) (fun c_187 => ?_)
            have hK9 := hK.sub (tys' := []) [] rfl
            exact W.vret hx hb hr (fun t ht hW => ⟨⟨(x_177, j49c_h1_f3, h0_f1, j49c_h0_f2, h0_f3, j49c_h0_0c), rfl, ⟨h_179, (RG_w h_173 (by decide +kernel)), g_h0_f1, (RG_w g_j49c_h0_f2 (by decide +kernel)), g_h0_f3, a_j49c_h0_0c⟩, by rw [ht]; exact hP, va_K.moved hW.alike hK9, hD⟩, hS.F ht⟩) hS.2.2 dX0_readClause_82
          · obtain ⟨hPc, hDc, hFc, hqc⟩ := cl_cut (wc := []) hP hD hS hA [] (by decide +kernel) rfl
            have hKc := hK.sub (tys' := []) [] rfl
            refine va_calli (va_runS (As := [.ref ts3, .int r_176]) (rest := []) ⟨hx, hb, hml, hown, hts⟩ (c_X0_placeIn_7 l dC dI H.size ts3 r_176 tv3 h_181) (va_cwS 2 hts gf_c_X0_readClause_c_X0_placeIn_7 rfl rfl rfl md_X0_placeIn ⟨Nat.le_of_ble_eq_true rfl, Nat.le_of_ble_eq_true rfl⟩) ⟨fun a U g mk q => by obtain ⟨q0, q1, qP, qK, qD, qE0, qE1, qE2, qE3, qE4⟩ := q; exact ⟨q0, q1, qP, va_K.moved (u := U) (U := U.calling g mk a) (Vm.Alike.refl U.vm) qK, qD, va_Z.moved (u := U) (U := U.calling g mk a) (Vm.Alike.refl U.vm) qE0, va_OF.moved (u := U) (U := U.calling g mk a) (Vm.Alike.refl U.vm) qE1, va_O.moved (u := U) (U := U.calling g mk a) (Vm.Alike.refl U.vm) qE2, va_OF.moved (u := U) (U := U.calling g mk a) (Vm.Alike.refl U.vm) qE3, va_T.moved (u := U) (U := U.calling g mk a) (Vm.Alike.refl U.vm) qE4⟩, fun U hU hW => ⟨rfl, by rw [hU], by rw [hU]; exact hPc, va_K.moved hW.alike hKc, hDc.weaken (fun _ _ _ _ => trivial), va_Z.moved hW.alike (by rw [hU]; exact (hE_10.kept hS.2.1).narrow hFc), va_OF.moved hW.alike (by rw [hU]; exact (hE_29.kept hS.2.1).narrow hFc), va_O.moved hW.alike (by rw [hU]; exact (hE_28.kept hS.2.1).narrow hFc), va_OF.moved hW.alike (by rw [hU]; exact (hE_30.kept hS.2.1).narrow hFc), va_T.moved hW.alike (by rw [hU]; exact (hE_31.kept hS.2.1).narrow hFc)⟩⟩ rfl rfl hl.1 rfl (lv_room (Nat.le_of_ble_eq_true rfl)) dX0_readClause_72 ⟨Nat.le_of_ble_eq_true rfl, Nat.le_of_ble_eq_true rfl⟩) hS (fun q _ h => hFc q h) hFc (fun r_188 u t H1 locs ht hvm hw hB hz1 hk1 hS => ?_)
            obtain ⟨hP1, hK1, hD1⟩ := hB
            rw [ht] at hP1
            have hP := bv_still hP hk1
            generalize H1 = H at hP hS ⊢
            as_aux_lemma =>
            rcases hw with h_189 | h_190
            · rw [h_189]
              refine lv_istore (lv' := [(7, .int (-1)), (6, .int j49c_l6), (5, .int j49c_l5), (4, .ref ts3), (3, .int j49c_l3), (2, .int 2), (0, .ref h0), (1, .ref h1)]) hx hb dX0_readClause_75 hl (Nat.le_of_ble_eq_true rfl) rfl (fun ls hl => ?_)
              refine lv_iload hx hb dX0_readClause_77 (lv_at hl 0 rfl) ?_
              refine lv_if_ge (tgt := 83) hx hb dX0_readClause_79 rfl (fun c_191 => absurd c_191 (by decide +kernel)) (fun c_191 => ?_)
              have hK9 := hK.sub (tys' := []) [] rfl
              exact W.vret hx hb hr (fun t ht hW => ⟨⟨(x_177, j49c_h1_f3, h0_f1, j49c_h0_f2, h0_f3, j49c_h0_0c), rfl, ⟨(RG_w h_182 (by decide +kernel)), (RG_w h_173 (by decide +kernel)), g_h0_f1, (RG_w g_j49c_h0_f2 (by decide +kernel)), g_h0_f3, a_j49c_h0_0c⟩, by rw [ht]; exact hP, va_K.moved hW.alike hK9, hD⟩, hS.F ht⟩) hS.2.2 dX0_readClause_82
            · refine lv_istore (lv' := [(7, .int r_188), (6, .int j49c_l6), (5, .int j49c_l5), (4, .ref ts3), (3, .int j49c_l3), (2, .int 2), (0, .ref h0), (1, .ref h1)]) hx hb dX0_readClause_75 hl (Nat.le_of_ble_eq_true rfl) rfl (fun ls hl => ?_)
              refine lv_iload hx hb dX0_readClause_77 (lv_at hl 0 rfl) ?_
              refine lv_if_ge (tgt := 83) hx hb dX0_readClause_79 rfl (fun c_192 => ?_) (fun c_192 => ?_)
              · refine lv_iload hx hb dX0_readClause_83 (lv_at hl 2 rfl) ?_
                refine lv_iload hx hb dX0_readClause_85 (lv_at hl 0 rfl) ?_
                refine lv_ishr hx hb dX0_readClause_87 ?_
                refine lv_topi (fun x_193 ex_193 => ?_)
                as_aux_lemma =>
                refine lv_iconst (v := 1) hx hb dX0_readClause_88 kc_iconst_1 ?_
                refine lv_iand hx hb dX0_readClause_89 ?_
                refine lv_topi (fun x_194 ex_194 => ?_)
                have g_195 : RG x_194 0 1 := RG_andr ex_194 (RG_k 1 1 rfl) (by decide +kernel)
                refine lv_if_eq (tgt := 98) hx hb dX0_readClause_90 rfl (fun c_196 => ?_) (fun c_196 => ?_)
                · have g_197 : RG x_194 0 0 := RG_eq1 g_195 (RG_k 0 0 rfl) c_196 (by decide +kernel)
                  refine lv_iload hx hb dX0_readClause_98 (lv_at hl 2 rfl) ?_
                  refine lv_iconst (v := 1) hx hb dX0_readClause_100 kc_iconst_1 ?_
                  refine lv_iload hx hb dX0_readClause_101 (lv_at hl 0 rfl) ?_
                  refine lv_ishl hx hb dX0_readClause_103 ?_
                  refine lv_topi (fun x_198 ex_198 => ?_)
                  have g_199 : RG x_198 1 8 := RG_shl1 ex_198 h_190 (by decide +kernel)
                  refine lv_ior hx hb dX0_readClause_104 ?_
                  refine lv_topi (fun x_200 ex_200 => ?_)
                  as_aux_lemma =>
                  refine lv_istore (lv' := [(5, .int x_200), (7, .int r_188), (6, .int j49c_l6), (4, .ref ts3), (3, .int j49c_l3), (2, .int 2), (0, .ref h0), (1, .ref h1)]) hx hb dX0_readClause_105 hl (Nat.le_of_ble_eq_true rfl) rfl (fun ls hl => ?_)
                  refine lv_aload_n hx hb dX0_readClause_107 rfl (lv_at hl 7 rfl) ?_
                  obtain ⟨hPc, hDc, hFc, hqc⟩ := cl_cut (wc := (wd_c_X9_skip h1 h1_0 h1_f1 x_177 j49c_h1_f3)) hP hD hS hA [0] (by decide +kernel) rfl
                  have hKc := hK.sub (tys' := []) [] rfl
                  have hrv := va_recv hKc hPc (ci := 9) (q0 := 0) rfl rfl
                  refine va_callv (va_runV (As := []) (rest := []) ⟨hx, hb, hml, hown, hts⟩ (c_X9_skip l dC dI H.size h1 h1_0 h1_f1 x_177 j49c_h1_f3 (RG_w g_h1_f1 (by decide +kernel)) h_182 (RG_w h_173 (by decide +kernel))) (cwV 0 hts gf_c_X0_readClause_c_X9_skip rfl rfl rfl mdV_X9_skip ⟨Nat.le_of_ble_eq_true rfl, Nat.le_of_ble_eq_true rfl⟩) ⟨fun a U g mk q => by obtain ⟨q0, q1, qP, qK, qD⟩ := q; exact ⟨q0, q1, qP, va_K.moved (u := U) (U := U.calling g mk a) (Vm.Alike.refl U.vm) qK, qD⟩, hrv, fun U hU hW => ⟨rfl, by rw [hU], by rw [hU]; exact hPc, va_K.moved hW.alike hKc, hDc.weaken (fun _ _ _ _ => trivial)⟩⟩ rfl rfl hl.1 rfl (lv_room (Nat.le_of_ble_eq_true rfl)) dX0_readClause_108 ⟨Nat.le_of_ble_eq_true rfl, Nat.le_of_ble_eq_true rfl⟩) hS (fun q _ h => hFc q h) hFc (fun x_202 t H1 locs ht hvm hw hB hz1 hk1 hS => ?_)
                  obtain ⟨hP1, hK1, hD1⟩ := hB
                  rw [ht] at hP1
                  obtain ⟨hP, hD⟩ := cl_put (w1 := (wd_c_X9_skip h1 h1_0 h1_f1 x_202 j49c_h1_f3)) (nw := (wd_c_X0_readClause h1 h1_0 h1_f1 x_202 j49c_h1_f3 h1_0 h1_0k h1_0c h0 h0_0 h0_f1 j49c_h0_f2 h0_f3 h0_0 h0_0k j49c_h0_0c)) hP hD [0] [4, 1, 2, 3] 4 rfl hqc (by decide +kernel) rfl hk1 hFc hP1 hD1
                  generalize H1 = H at hP hS ⊢
                  as_aux_lemma =>
                  rcases hw with ⟨h_203, h_204, h_205⟩
                  refine lv_aload_n hx hb dX0_readClause_111 rfl (lv_at hl 6 rfl) ?_
                  refine va_get (D := (dC, dI)) (ci := 0) (v := .ref h0_0) (C := RX0) (T := TX0) (N := 4) hx hb hts iw_c_X0_readClause_X0 hown hK hP 2 rfl rfl 0 (by decide +kernel) (hts (.fieldLink RX0 11 "BuoyVote$Borough" "values" "[I") (List.mem_of_getElem? (i := 75) rfl)) (fun _ h9 => h9) rfl dX0_readClause_112 ?_
                  refine lv_iload_n hx hb dX0_readClause_115 rfl (lv_at hl 4 rfl) ?_
                  refine lv_iload hx hb dX0_readClause_116 (lv_at hl 1 rfl) ?_
                  refine lv_iadd hx hb dX0_readClause_118 ?_
                  refine lv_topi (fun x_206 ex_206 => ?_)
                  have g_207 : RG x_206 68 79 := RG_add ex_206 g_j49c_l3 h_190 (by decide +kernel)
                  refine lv_aload_n hx hb dX0_readClause_119 rfl (lv_at hl 7 rfl) ?_
                  refine va_gets hx hb hE_2 hS hown (hts (.fieldLink RX0 100 "BuoyVote$Borough" "LOW" "[I") (List.mem_of_getElem? (i := 93) rfl)) (fun _ h9 => h9) dX0_readClause_120 ?_
                  refine va_gets hx hb hE_0 hS hown (hts (.fieldLink RX0 103 "BuoyVote$Borough" "FIRST" "[I") (List.mem_of_getElem? (i := 77) rfl)) (fun _ h9 => h9) dX0_readClause_123 ?_
                  refine lv_iload_n hx hb dX0_readClause_126 rfl (lv_at hl 5 rfl) ?_
                  refine va_ti (v := .int 12) hx hb hE_1 hS (by unfold vp_in; decide) rfl dX0_readClause_127 ?_
                  refine lv_iload hx hb dX0_readClause_128 (lv_at hl 1 rfl) ?_
                  as_aux_lemma =>
                  refine lv_iadd hx hb dX0_readClause_130 ?_
                  refine lv_topi (fun x_208 ex_208 => ?_)
                  have g_209 : RG x_208 12 15 := RG_add ex_208 (RG_k 12 12 rfl) h_190 (by decide +kernel)
                  refine va_ti hx hb hE_3 hS (RG_in g_209 (by decide +kernel)) rfl dX0_readClause_131 ?_
                  refine lv_topi (fun x_210 ex_210 => ?_)
                  have g_211 : RG x_210 0 1 := RG_tab ex_210 (by decide +kernel)
                  refine va_gets hx hb hE_4 hS hown (hts (.fieldLink RX0 106 "BuoyVote$Borough" "HIGH" "[I") (List.mem_of_getElem? (i := 94) rfl)) (fun _ h9 => h9) dX0_readClause_132 ?_
                  refine va_gets hx hb hE_0 hS hown (hts (.fieldLink RX0 103 "BuoyVote$Borough" "FIRST" "[I") (List.mem_of_getElem? (i := 77) rfl)) (fun _ h9 => h9) dX0_readClause_135 ?_
                  refine lv_iload_n hx hb dX0_readClause_138 rfl (lv_at hl 5 rfl) ?_
                  refine va_ti (v := .int 12) hx hb hE_1 hS (by unfold vp_in; decide) rfl dX0_readClause_139 ?_
                  refine lv_iload hx hb dX0_readClause_140 (lv_at hl 1 rfl) ?_
                  refine lv_iadd hx hb dX0_readClause_142 ?_
                  refine lv_topi (fun x_212 ex_212 => ?_)
                  obtain rfl : x_208 = x_212 := ex_208.trans ex_212.symm
                  refine va_ti hx hb hE_5 hS (RG_in g_209 (by decide +kernel)) rfl dX0_readClause_143 ?_
                  as_aux_lemma =>
                  refine lv_topi (fun x_213 ex_213 => ?_)
                  have g_214 : RG x_213 0 20 := RG_tab ex_213 (by decide +kernel)
                  obtain ⟨hPc, hDc, hFc, hqc⟩ := cl_cut (wc := (wd_c_X9_numberWithin h1 h1_0 h1_f1 x_202 j49c_h1_f3 h1_0 h1_0k h1_0c)) hP hD hS hA [0, 1] (by decide +kernel) rfl
                  have hKc := hK.sub (tys' := [(h1_0k, .int)]) [0] rfl
                  have hrv := va_recv hKc hPc (ci := 9) (q0 := 0) rfl rfl
                  refine va_calli (va_runV (As := [.int x_210, .int x_213]) (rest := [.int x_206, .ref h0_0]) ⟨hx, hb, hml, hown, hts⟩ (c_X9_numberWithin l dC dI H.size h1 x_210 x_213 h1_0 h1_f1 x_202 j49c_h1_f3 h1_0k h1_0c g_211 g_214 (RG_w g_h1_f1 (by decide +kernel)) (RG_w h_203 (by decide +kernel)) (RG_w h_173 (by decide +kernel)) a_h1_0c) (cwV 2 hts gf_c_X0_readClause_c_X9_numberWithin rfl rfl rfl mdV_X9_numberWithin ⟨Nat.le_of_ble_eq_true rfl, Nat.le_of_ble_eq_true rfl⟩) ⟨fun a U g mk q => by obtain ⟨q0, q1, qP, qK, qD⟩ := q; exact ⟨q0, q1, qP, va_K.moved (u := U) (U := U.calling g mk a) (Vm.Alike.refl U.vm) qK, qD⟩, hrv, fun U hU hW => ⟨rfl, by rw [hU], by rw [hU]; exact hPc, va_K.moved hW.alike hKc, hDc.weaken (fun _ _ _ _ => trivial)⟩⟩ rfl rfl hl.1 rfl (lv_room (Nat.le_of_ble_eq_true rfl)) dX0_readClause_144 ⟨Nat.le_of_ble_eq_true rfl, Nat.le_of_ble_eq_true rfl⟩) hS (fun q _ h => hFc q h) hFc (fun r_215 u t H1 locs ht hvm hw hB hz1 hk1 hS => ?_)
                  obtain ⟨x_216, x_217⟩ := u
                  obtain ⟨hP1, hK1, hD1⟩ := hB
                  rw [ht] at hP1
                  obtain ⟨hP, hD⟩ := cl_put (w1 := (wd_c_X9_numberWithin h1 h1_0 h1_f1 x_216 x_217 h1_0 h1_0k h1_0c)) (nw := (wd_c_X0_readClause h1 h1_0 h1_f1 x_216 x_217 h1_0 h1_0k h1_0c h0 h0_0 h0_f1 j49c_h0_f2 h0_f3 h0_0 h0_0k j49c_h0_0c)) hP hD [0, 1] [4, 5, 2, 3] 4 rfl hqc (by decide +kernel) rfl hk1 hFc hP1 hD1
                  generalize H1 = H at hP hS ⊢
                  as_aux_lemma =>
                  rcases hw with ⟨h_218, h_219, h_220, h_221⟩ | ⟨h_222, h_223, h_224, h_225, h_226⟩
                  · rw [h_218]
                    refine va_iast hx hb hK hP hD hS 3 1 rfl rfl (RG_in g_207 (by decide +kernel)) dX0_readClause_147 (fun H locs hP hD hS => ?_)
                    have hP : va_P (dC, dI) vwCl (wd_c_X0_readClause h1 h1_0 h1_f1 x_216 x_217 h1_0 h1_0k h1_0c h0 h0_0 h0_f1 j49c_h0_f2 h0_f3 h0_0 h0_0k (upd j49c_h0_0c (x_206 : Int32).toNatClampNeg (-1))) H := hP
                    have hD : va_D A (wd_c_X0_readClause h1 h1_0 h1_f1 x_216 x_217 h1_0 h1_0k h1_0c h0 h0_0 h0_f1 j49c_h0_f2 h0_f3 h0_0 h0_0k (upd j49c_h0_0c (x_206 : Int32).toNatClampNeg (-1))) := hD
                    have l_228 : (upd j49c_h0_0c (x_206 : Int32).toNatClampNeg (-1)) (x_206 : Int32).toNatClampNeg = (-1) := pk_us
                    have a_229 : AI (upd j49c_h0_0c (x_206 : Int32).toNatClampNeg (-1)) (-1) 99 := AI_up a_j49c_h0_0c (RG_k (-1) (-1) rfl) (by decide +kernel)
                    generalize (upd j49c_h0_0c (x_206 : Int32).toNatClampNeg (-1)) = w_227 at hP hD a_229 l_228
                    have hP : va_P (dC, dI) vwCl (wd_c_X0_readClause h1 h1_0 h1_f1 x_216 x_217 h1_0 h1_0k h1_0c h0 h0_0 h0_f1 j49c_h0_f2 h0_f3 h0_0 h0_0k w_227) H := hP
                    have hD : va_D A (wd_c_X0_readClause h1 h1_0 h1_f1 x_216 x_217 h1_0 h1_0k h1_0c h0 h0_0 h0_f1 j49c_h0_f2 h0_f3 h0_0 h0_0k w_227) := hD
                    obtain ⟨x_230, ex_230⟩ : ∃ y : Int32, y = j49c_l6 + 1 := ⟨_, rfl⟩
                    have g_231 : RG x_230 1 5 := RG_add ex_230 g_168 (RG_k 1 1 rfl) (by decide +kernel)
                    refine lv_iinc (v := x_230) (lv' := [(6, .int x_230), (5, .int x_200), (7, .int r_188), (4, .ref ts3), (3, .int j49c_l3), (2, .int 2), (0, .ref h0), (1, .ref h1)]) hx hb dX0_readClause_148 hl (k := 2) rfl (by rw [ex_230]; rfl) (Nat.le_of_ble_eq_true rfl) rfl (fun ls hl => ?_)
                    refine lv_goto (tgt := 49) hx hb dX0_readClause_151 rfl ?_
                    as_aux_lemma =>
                    exact hU _ _ _ (ih49c x_230 x_200 j49c_l3 x_216 x_217 j49c_h0_f2 w_227 (mu_s (MU_add ex_230 g_168 (q := 1) rfl (by decide +kernel)) hM49c) g_h0_f1 g_h0_f2 g_h0_f3 g_h1_f1 g_h1_f2 g_h1_f3 g_j49c_h0_f2 h_219 (RG_w h_220 (by decide +kernel)) g_j49c_l3 (RG_w g_231 (by decide +kernel)) a_229 _ _ _ hP hD hS (lv_sub hl [0, 1, 3, 4, 5, 6, 7] rfl))
                  · refine va_iast hx hb hK hP hD hS 3 1 rfl rfl (RG_in g_207 (by decide +kernel)) dX0_readClause_147 (fun H locs hP hD hS => ?_)
                    have hP : va_P (dC, dI) vwCl (wd_c_X0_readClause h1 h1_0 h1_f1 x_216 x_217 h1_0 h1_0k h1_0c h0 h0_0 h0_f1 j49c_h0_f2 h0_f3 h0_0 h0_0k (upd j49c_h0_0c (x_206 : Int32).toNatClampNeg r_215)) H := hP
                    have hD : va_D A (wd_c_X0_readClause h1 h1_0 h1_f1 x_216 x_217 h1_0 h1_0k h1_0c h0 h0_0 h0_f1 j49c_h0_f2 h0_f3 h0_0 h0_0k (upd j49c_h0_0c (x_206 : Int32).toNatClampNeg r_215)) := hD
                    have l_233 : (upd j49c_h0_0c (x_206 : Int32).toNatClampNeg r_215) (x_206 : Int32).toNatClampNeg = r_215 := pk_us
                    have a_234 : AI (upd j49c_h0_0c (x_206 : Int32).toNatClampNeg r_215) (-1) 99 := AI_up a_j49c_h0_0c h_222 (by decide +kernel)
                    generalize (upd j49c_h0_0c (x_206 : Int32).toNatClampNeg r_215) = w_232 at hP hD a_234 l_233
                    have hP : va_P (dC, dI) vwCl (wd_c_X0_readClause h1 h1_0 h1_f1 x_216 x_217 h1_0 h1_0k h1_0c h0 h0_0 h0_f1 j49c_h0_f2 h0_f3 h0_0 h0_0k w_232) H := hP
                    have hD : va_D A (wd_c_X0_readClause h1 h1_0 h1_f1 x_216 x_217 h1_0 h1_0k h1_0c h0 h0_0 h0_f1 j49c_h0_f2 h0_f3 h0_0 h0_0k w_232) := hD
                    obtain ⟨x_235, ex_235⟩ : ∃ y : Int32, y = j49c_l6 + 1 := ⟨_, rfl⟩
                    have g_236 : RG x_235 1 5 := RG_add ex_235 g_168 (RG_k 1 1 rfl) (by decide +kernel)
                    refine lv_iinc (v := x_235) (lv' := [(6, .int x_235), (5, .int x_200), (7, .int r_188), (4, .ref ts3), (3, .int j49c_l3), (2, .int 2), (0, .ref h0), (1, .ref h1)]) hx hb dX0_readClause_148 hl (k := 2) rfl (by rw [ex_235]; rfl) (Nat.le_of_ble_eq_true rfl) rfl (fun ls hl => ?_)
                    refine lv_goto (tgt := 49) hx hb dX0_readClause_151 rfl ?_
                    exact hU _ _ _ (ih49c x_235 x_200 j49c_l3 x_216 x_217 j49c_h0_f2 w_232 (mu_s (MU_add ex_235 g_168 (q := 1) rfl (by decide +kernel)) hM49c) g_h0_f1 g_h0_f2 g_h0_f3 g_h1_f1 g_h1_f2 g_h1_f3 g_j49c_h0_f2 (RG_w h_223 (by decide +kernel)) h_224 g_j49c_l3 (RG_w g_236 (by decide +kernel)) a_234 _ _ _ hP hD hS (lv_sub hl [0, 1, 3, 4, 5, 6, 7] rfl))
                · have g_237 : RG x_194 1 1 := RG_ne1 g_195 (q := 0) rfl c_196 (by decide +kernel)
                  refine lv_aload_n hx hb dX0_readClause_93 rfl (lv_at hl 7 rfl) ?_
                  as_aux_lemma =>
                  obtain ⟨hPc, hDc, hFc, hqc⟩ := cl_cut (wc := (wd_c_X9_refuseHere h1 h1_0 h1_f1 x_177 j49c_h1_f3)) hP hD hS hA [0] (by decide +kernel) rfl
                  have hKc := hK.sub (tys' := []) [] rfl
                  have hrv := va_recv hKc hPc (ci := 9) (q0 := 0) rfl rfl
                  refine va_callv (va_runV (As := []) (rest := []) ⟨hx, hb, hml, hown, hts⟩ (c_X9_refuseHere l dC dI H.size h1 h1_0 h1_f1 x_177 j49c_h1_f3 (RG_w g_h1_f1 (by decide +kernel)) (RG_w h_182 (by decide +kernel)) (RG_w h_173 (by decide +kernel))) (cwV 0 hts gf_c_X0_readClause_c_X9_refuseHere rfl rfl rfl mdV_X9_refuseHere ⟨Nat.le_of_ble_eq_true rfl, Nat.le_of_ble_eq_true rfl⟩) ⟨fun a U g mk q => by obtain ⟨q0, q1, qP, qK, qD⟩ := q; exact ⟨q0, q1, qP, va_K.moved (u := U) (U := U.calling g mk a) (Vm.Alike.refl U.vm) qK, qD⟩, hrv, fun U hU hW => ⟨rfl, by rw [hU], by rw [hU]; exact hPc, va_K.moved hW.alike hKc, hDc.weaken (fun _ _ _ _ => trivial)⟩⟩ rfl rfl hl.1 rfl (lv_room (Nat.le_of_ble_eq_true rfl)) dX0_readClause_94 ⟨Nat.le_of_ble_eq_true rfl, Nat.le_of_ble_eq_true rfl⟩) hS (fun q _ h => hFc q h) hFc (fun x_239 t H1 locs ht hvm hw hB hz1 hk1 hS => ?_)
                  obtain ⟨hP1, hK1, hD1⟩ := hB
                  rw [ht] at hP1
                  obtain ⟨hP, hD⟩ := cl_put (w1 := (wd_c_X9_refuseHere h1 h1_0 h1_f1 x_177 x_239)) (nw := (wd_c_X0_readClause h1 h1_0 h1_f1 x_177 x_239 h1_0 h1_0k h1_0c h0 h0_0 h0_f1 j49c_h0_f2 h0_f3 h0_0 h0_0k j49c_h0_0c)) hP hD [0] [4, 1, 2, 3] 4 rfl hqc (by decide +kernel) rfl hk1 hFc hP1 hD1
                  generalize H1 = H at hP hS ⊢
                  as_aux_lemma =>
                  have h_240 := hw
                  have hK9 := hK.sub (tys' := []) [] rfl
                  exact W.vret hx hb hr (fun t ht hW => ⟨⟨(x_177, x_239, h0_f1, j49c_h0_f2, h0_f3, j49c_h0_0c), rfl, ⟨(RG_w h_182 (by decide +kernel)), (RG_w h_240 (by decide +kernel)), g_h0_f1, (RG_w g_j49c_h0_f2 (by decide +kernel)), g_h0_f3, a_j49c_h0_0c⟩, by rw [ht]; exact hP, va_K.moved hW.alike hK9, hD⟩, hS.F ht⟩) hS.2.2 dX0_readClause_97
              · have d_241 := Int32.not_le.mp c_192
                have g_242 : RG r_188 0 (-1) := RG_lt1 h_190 (RG_k 0 0 rfl) d_241 (by decide +kernel)
                exact RG_dead (RG_lt1 h_190 (RG_k 0 0 rfl) d_241 (b' := (-1)) (by decide +kernel)) (by decide +kernel)
  refine hG _ _ _ ?_
  refine va_ldcS hx hb hown hE_12 dX0_readClause_0 ?_
  refine lv_aload_n hx hb dX0_readClause_2 rfl (lv_at hl 1 rfl) ?_
  obtain ⟨hPc, hDc, hFc, hqc⟩ := cl_cut (wc := (wd_c_X9_peek h1 h1_0 h1_f1 h1_f2 h1_f3 h1_0 h1_0k h1_0c)) hP hD hS hA [0, 1] (by decide +kernel) rfl
  have hKc := hK.sub (tys' := [(h1_0k, .int)]) [0] rfl
  have hrv := va_recv hKc hPc (ci := 9) (q0 := 0) rfl rfl
  refine va_calli (va_runV (As := []) (rest := [.ref ts0]) ⟨hx, hb, hml, hown, hts⟩ (c_X9_peek l dC dI H.size h1 h1_0 h1_f1 h1_f2 h1_f3 h1_0k h1_0c g_h1_f1 g_h1_f2 g_h1_f3 a_h1_0c) (cwV 0 hts gf_c_X0_readClause_c_X9_peek rfl rfl rfl mdV_X9_peek ⟨Nat.le_of_ble_eq_true rfl, Nat.le_of_ble_eq_true rfl⟩) ⟨fun a U g mk q => by obtain ⟨q0, q1, qP, qK, qD⟩ := q; exact ⟨q0, q1, qP, va_K.moved (u := U) (U := U.calling g mk a) (Vm.Alike.refl U.vm) qK, qD⟩, hrv, fun U hU hW => ⟨rfl, by rw [hU], by rw [hU]; exact hPc, va_K.moved hW.alike hKc, hDc.weaken (fun _ _ _ _ => trivial)⟩⟩ rfl rfl hl.1 rfl (lv_room (Nat.le_of_ble_eq_true rfl)) dX0_readClause_3 ⟨Nat.le_of_ble_eq_true rfl, Nat.le_of_ble_eq_true rfl⟩) hS (fun q _ h => hFc q h) hFc (fun r_243 x_244 t H1 locs ht hvm hw hB hz1 hk1 hS => ?_)
  obtain ⟨hP1, hK1, hD1⟩ := hB
  rw [ht] at hP1
  obtain ⟨hP, hD⟩ := cl_put (w1 := (wd_c_X9_peek h1 h1_0 h1_f1 x_244 h1_f3 h1_0 h1_0k h1_0c)) (nw := (wd_c_X0_readClause h1 h1_0 h1_f1 x_244 h1_f3 h1_0 h1_0k h1_0c h0 h0_0 h0_f1 h0_f2 h0_f3 h0_0 h0_0k h0_0c)) hP hD [0, 1] [4, 5, 2, 3] 4 rfl hqc (by decide +kernel) rfl hk1 hFc hP1 hD1
  generalize H1 = H at hP hS ⊢
  as_aux_lemma =>
  rcases hw with ⟨h_245, h_246, h_247⟩ | ⟨h_248, h_249, h_250, h_251⟩
  · rw [h_245]
    obtain ⟨hPc, hDc, hFc, hqc⟩ := cl_cut (wc := []) hP hD hS hA [] (by decide +kernel) rfl
    have hKc := hK.sub (tys' := []) [] rfl
    refine va_calli (va_runS (As := [.ref ts0, .int (-1)]) (rest := []) ⟨hx, hb, hml, hown, hts⟩ (c_X0_placeIn l dC dI H.size ts0 (-1) (RG_k (-1) (-1) rfl)) (va_cwS 2 hts gf_c_X0_readClause_c_X0_placeIn rfl rfl rfl md_X0_placeIn ⟨Nat.le_of_ble_eq_true rfl, Nat.le_of_ble_eq_true rfl⟩) ⟨fun a U g mk q => by obtain ⟨q0, q1, qP, qK, qD⟩ := q; exact ⟨q0, q1, qP, va_K.moved (u := U) (U := U.calling g mk a) (Vm.Alike.refl U.vm) qK, qD⟩, fun U hU hW => ⟨rfl, by rw [hU], by rw [hU]; exact hPc, va_K.moved hW.alike hKc, hDc.weaken (fun _ _ _ _ => trivial)⟩⟩ rfl rfl hl.1 rfl (lv_room (Nat.le_of_ble_eq_true rfl)) dX0_readClause_6 ⟨Nat.le_of_ble_eq_true rfl, Nat.le_of_ble_eq_true rfl⟩) hS (fun q _ h => hFc q h) hFc (fun r_252 u t H1 locs ht hvm hw hB hz1 hk1 hS => ?_)
    obtain ⟨hP1, hK1, hD1⟩ := hB
    rw [ht] at hP1
    have hP := bv_still hP hk1
    generalize H1 = H at hP hS ⊢
    as_aux_lemma =>
    have h_253 := hw
    rw [h_253]
    refine lv_istore_n (lv' := [(2, .int (-1)), (0, .ref h0), (1, .ref h1)]) hx hb dX0_readClause_9 rfl hl (Nat.le_of_ble_eq_true rfl) rfl (fun ls hl => ?_)
    refine lv_iload_n hx hb dX0_readClause_10 rfl (lv_at hl 0 rfl) ?_
    refine lv_if_lt (tgt := 22) hx hb dX0_readClause_11 rfl (fun c_254 => ?_) (fun c_254 => absurd c_254 (by decide +kernel))
    exact hU _ _ _ (J22 x_244 g_h0_f1 g_h0_f2 g_h0_f3 g_h1_f1 g_h1_f2 g_h1_f3 h_246 _ _ _ hP hD hS (lv_sub hl [2] rfl))
  · obtain ⟨hPc, hDc, hFc, hqc⟩ := cl_cut (wc := []) hP hD hS hA [] (by decide +kernel) rfl
    have hKc := hK.sub (tys' := []) [] rfl
    refine va_calli (va_runS (As := [.ref ts0, .int r_243]) (rest := []) ⟨hx, hb, hml, hown, hts⟩ (c_X0_placeIn_1 l dC dI H.size ts0 r_243 tv0 h_248) (va_cwS 2 hts gf_c_X0_readClause_c_X0_placeIn_1 rfl rfl rfl md_X0_placeIn ⟨Nat.le_of_ble_eq_true rfl, Nat.le_of_ble_eq_true rfl⟩) ⟨fun a U g mk q => by obtain ⟨q0, q1, qP, qK, qD, qE0, qE1, qE2, qE3, qE4⟩ := q; exact ⟨q0, q1, qP, va_K.moved (u := U) (U := U.calling g mk a) (Vm.Alike.refl U.vm) qK, qD, va_Z.moved (u := U) (U := U.calling g mk a) (Vm.Alike.refl U.vm) qE0, va_OF.moved (u := U) (U := U.calling g mk a) (Vm.Alike.refl U.vm) qE1, va_O.moved (u := U) (U := U.calling g mk a) (Vm.Alike.refl U.vm) qE2, va_OF.moved (u := U) (U := U.calling g mk a) (Vm.Alike.refl U.vm) qE3, va_T.moved (u := U) (U := U.calling g mk a) (Vm.Alike.refl U.vm) qE4⟩, fun U hU hW => ⟨rfl, by rw [hU], by rw [hU]; exact hPc, va_K.moved hW.alike hKc, hDc.weaken (fun _ _ _ _ => trivial), va_Z.moved hW.alike (by rw [hU]; exact (hE_10.kept hS.2.1).narrow hFc), va_OF.moved hW.alike (by rw [hU]; exact (hE_14.kept hS.2.1).narrow hFc), va_O.moved hW.alike (by rw [hU]; exact (hE_13.kept hS.2.1).narrow hFc), va_OF.moved hW.alike (by rw [hU]; exact (hE_15.kept hS.2.1).narrow hFc), va_T.moved hW.alike (by rw [hU]; exact (hE_16.kept hS.2.1).narrow hFc)⟩⟩ rfl rfl hl.1 rfl (lv_room (Nat.le_of_ble_eq_true rfl)) dX0_readClause_6 ⟨Nat.le_of_ble_eq_true rfl, Nat.le_of_ble_eq_true rfl⟩) hS (fun q _ h => hFc q h) hFc (fun r_255 u t H1 locs ht hvm hw hB hz1 hk1 hS => ?_)
    obtain ⟨hP1, hK1, hD1⟩ := hB
    rw [ht] at hP1
    have hP := bv_still hP hk1
    generalize H1 = H at hP hS ⊢
    as_aux_lemma =>
    rcases hw with h_256 | h_257
    · rw [h_256]
      refine lv_istore_n (lv' := [(2, .int (-1)), (0, .ref h0), (1, .ref h1)]) hx hb dX0_readClause_9 rfl hl (Nat.le_of_ble_eq_true rfl) rfl (fun ls hl => ?_)
      refine lv_iload_n hx hb dX0_readClause_10 rfl (lv_at hl 0 rfl) ?_
      refine lv_if_lt (tgt := 22) hx hb dX0_readClause_11 rfl (fun c_258 => ?_) (fun c_258 => absurd c_258 (by decide +kernel))
      exact hU _ _ _ (J22 x_244 g_h0_f1 g_h0_f2 g_h0_f3 (RG_w h_250 (by decide +kernel)) g_h1_f2 g_h1_f3 (RG_w h_249 (by decide +kernel)) _ _ _ hP hD hS (lv_sub hl [2] rfl))
    · refine lv_istore_n (lv' := [(2, .int r_255), (0, .ref h0), (1, .ref h1)]) hx hb dX0_readClause_9 rfl hl (Nat.le_of_ble_eq_true rfl) rfl (fun ls hl => ?_)
      refine lv_iload_n hx hb dX0_readClause_10 rfl (lv_at hl 0 rfl) ?_
      refine lv_if_lt (tgt := 22) hx hb dX0_readClause_11 rfl (fun c_259 => ?_) (fun c_259 => ?_)
      · have g_260 : RG r_255 0 (-1) := RG_lt1 h_257 (RG_k 0 0 rfl) c_259 (by decide +kernel)
        exact RG_dead (RG_lt1 h_257 (RG_k 0 0 rfl) c_259 (b' := (-1)) (by decide +kernel)) (by decide +kernel)
      · have d_261 := Int32.not_lt.mp c_259
        by_cases c_262 : r_255 = 0
        · subst c_262
          refine lv_aload_n hx hb dX0_readClause_14 rfl (lv_at hl 1 rfl) ?_
          as_aux_lemma =>
          refine lv_iload_n hx hb dX0_readClause_15 rfl (lv_at hl 0 rfl) ?_
          obtain ⟨hPc, hDc, hFc, hqc⟩ := cl_cut (wc := (wd_c_X0_hasRoomFor h0 h0_0 h0_f1 h0_f2 h0_f3)) hP hD hS hA [2] (by decide +kernel) rfl
          have hKc := hK.sub (tys' := []) [] rfl
          have hrv := va_recv hKc hPc (ci := 0) (q0 := 0) rfl rfl
          refine va_calli (va_runV (As := [.int 0]) (rest := []) ⟨hx, hb, hml, hown, hts⟩ (c_X0_hasRoomFor l dC dI H.size h0 h0_0 h0_f1 h0_f2 h0_f3 g_h0_f1 g_h0_f2 g_h0_f3) (cwV 1 hts gf_c_X0_readClause_c_X0_hasRoomFor rfl rfl rfl mdV_X0_hasRoomFor ⟨Nat.le_of_ble_eq_true rfl, Nat.le_of_ble_eq_true rfl⟩) ⟨fun a U g mk q => by obtain ⟨q0, q1, qP, qK, qD⟩ := q; exact ⟨q0, q1, qP, va_K.moved (u := U) (U := U.calling g mk a) (Vm.Alike.refl U.vm) qK, qD⟩, hrv, fun U hU hW => ⟨rfl, by rw [hU], by rw [hU]; exact hPc, va_K.moved hW.alike hKc, hDc.weaken (fun _ _ _ _ => trivial)⟩⟩ rfl rfl hl.1 rfl (lv_room (Nat.le_of_ble_eq_true rfl)) dX0_readClause_16 ⟨Nat.le_of_ble_eq_true rfl, Nat.le_of_ble_eq_true rfl⟩) hS (fun q _ h => hFc q h) hFc (fun r_263 u t H1 locs ht hvm hw hB hz1 hk1 hS => ?_)
          obtain ⟨hP1, hK1, hD1⟩ := hB
          rw [ht] at hP1
          obtain ⟨hP, hD⟩ := cl_put (w1 := (wd_c_X0_hasRoomFor h0 h0_0 h0_f1 h0_f2 h0_f3)) (nw := (wd_c_X0_readClause h1 h1_0 h1_f1 x_244 h1_f3 h1_0 h1_0k h1_0c h0 h0_0 h0_f1 h0_f2 h0_f3 h0_0 h0_0k h0_0c)) hP hD [2] [0, 1, 4, 3] 4 rfl hqc (by decide +kernel) rfl hk1 hFc hP1 hD1
          generalize H1 = H at hP hS ⊢
          as_aux_lemma =>
          rcases hw with ⟨h_264, h_265⟩ | ⟨h_266, h_267⟩
          · rw [h_264]
            refine lv_if_ne (tgt := 27) hx hb dX0_readClause_19 rfl (fun c_268 => absurd c_268 (by decide +kernel)) (fun c_268 => ?_)
            exact hU _ _ _ (J22 x_244 g_h0_f1 g_h0_f2 (RG_w h_265 (by decide +kernel)) (RG_w h_250 (by decide +kernel)) g_h1_f2 g_h1_f3 (RG_w h_249 (by decide +kernel)) _ _ _ hP hD hS (lv_sub hl [2] rfl))
          · rw [h_266]
            refine lv_if_ne (tgt := 27) hx hb dX0_readClause_19 rfl (fun c_269 => ?_) (fun c_269 => absurd c_269 (by decide +kernel))
            refine lv_aload_n hx hb dX0_readClause_27 rfl (lv_at hl 2 rfl) ?_
            obtain ⟨hPc, hDc, hFc, hqc⟩ := cl_cut (wc := (wd_c_X9_skip h1 h1_0 h1_f1 x_244 h1_f3)) hP hD hS hA [0] (by decide +kernel) rfl
            have hKc := hK.sub (tys' := []) [] rfl
            have hrv := va_recv hKc hPc (ci := 9) (q0 := 0) rfl rfl
            refine va_callv (va_runV (As := []) (rest := []) ⟨hx, hb, hml, hown, hts⟩ (c_X9_skip l dC dI H.size h1 h1_0 h1_f1 x_244 h1_f3 (RG_w h_250 (by decide +kernel)) h_249 g_h1_f3) (cwV 0 hts gf_c_X0_readClause_c_X9_skip rfl rfl rfl mdV_X9_skip ⟨Nat.le_of_ble_eq_true rfl, Nat.le_of_ble_eq_true rfl⟩) ⟨fun a U g mk q => by obtain ⟨q0, q1, qP, qK, qD⟩ := q; exact ⟨q0, q1, qP, va_K.moved (u := U) (U := U.calling g mk a) (Vm.Alike.refl U.vm) qK, qD⟩, hrv, fun U hU hW => ⟨rfl, by rw [hU], by rw [hU]; exact hPc, va_K.moved hW.alike hKc, hDc.weaken (fun _ _ _ _ => trivial)⟩⟩ rfl rfl hl.1 rfl (lv_room (Nat.le_of_ble_eq_true rfl)) dX0_readClause_28 ⟨Nat.le_of_ble_eq_true rfl, Nat.le_of_ble_eq_true rfl⟩) hS (fun q _ h => hFc q h) hFc (fun x_271 t H1 locs ht hvm hw hB hz1 hk1 hS => ?_)
            obtain ⟨hP1, hK1, hD1⟩ := hB
            rw [ht] at hP1
            obtain ⟨hP, hD⟩ := cl_put (w1 := (wd_c_X9_skip h1 h1_0 h1_f1 x_271 h1_f3)) (nw := (wd_c_X0_readClause h1 h1_0 h1_f1 x_271 h1_f3 h1_0 h1_0k h1_0c h0 h0_0 h0_f1 h0_f2 h0_f3 h0_0 h0_0k h0_0c)) hP hD [0] [4, 1, 2, 3] 4 rfl hqc (by decide +kernel) rfl hk1 hFc hP1 hD1
            generalize H1 = H at hP hS ⊢
            as_aux_lemma =>
            rcases hw with ⟨h_272, h_273, h_274⟩
            refine lv_aload_n hx hb dX0_readClause_31 rfl (lv_at hl 1 rfl) ?_
            refine lv_iload_n hx hb dX0_readClause_32 rfl (lv_at hl 0 rfl) ?_
            obtain ⟨hPc, hDc, hFc, hqc⟩ := cl_cut (wc := (wd_c_X0_beginClause h0 h0_0 h0_f1 h0_f2 h0_f3 h0_0 h0_0k h0_0c)) hP hD hS hA [2, 3] (by decide +kernel) rfl
            have hKc := hK.sub (tys' := [(h0_0k, .int)]) [1] rfl
            have hrv := va_recv hKc hPc (ci := 0) (q0 := 0) rfl rfl
            refine va_calli (va_runV (As := [.int 0]) (rest := []) ⟨hx, hb, hml, hown, hts⟩ (c_X0_beginClause l dC dI H.size h0 h0_0 h0_f1 h0_f2 h0_f3 h0_0k h0_0c ts1 tv1 ta3 ta0 g_h0_f1 g_h0_f2 (RG_w h_267 (by decide +kernel)) a_h0_0c) (cwV 1 hts gf_c_X0_readClause_c_X0_beginClause rfl rfl rfl mdV_X0_beginClause ⟨Nat.le_of_ble_eq_true rfl, Nat.le_of_ble_eq_true rfl⟩) ⟨fun a U g mk q => by obtain ⟨q0, q1, qP, qK, qD, qE0, qE1, qE2, qE3, qE4, qE5, qE6, qE7, qE8, qE9⟩ := q; exact ⟨q0, q1, qP, va_K.moved (u := U) (U := U.calling g mk a) (Vm.Alike.refl U.vm) qK, qD, vk_R.same rfl qE0, va_OF.moved (u := U) (U := U.calling g mk a) (Vm.Alike.refl U.vm) qE1, va_T.moved (u := U) (U := U.calling g mk a) (Vm.Alike.refl U.vm) qE2, va_Z.moved (u := U) (U := U.calling g mk a) (Vm.Alike.refl U.vm) qE3, va_OF.moved (u := U) (U := U.calling g mk a) (Vm.Alike.refl U.vm) qE4, va_O.moved (u := U) (U := U.calling g mk a) (Vm.Alike.refl U.vm) qE5, va_Z.moved (u := U) (U := U.calling g mk a) (Vm.Alike.refl U.vm) qE6, va_Z.moved (u := U) (U := U.calling g mk a) (Vm.Alike.refl U.vm) qE7, va_T.moved (u := U) (U := U.calling g mk a) (Vm.Alike.refl U.vm) qE8, va_T.moved (u := U) (U := U.calling g mk a) (Vm.Alike.refl U.vm) qE9⟩, hrv, fun U hU hW => ⟨rfl, by rw [hU], by rw [hU]; exact hPc, va_K.moved hW.alike hKc, hDc.weaken (fun _ _ _ _ => trivial), vk_R.warm hW hE_17, va_OF.moved hW.alike (by rw [hU]; exact (hE_20.kept hS.2.1).narrow hFc), va_T.moved hW.alike (by rw [hU]; exact (hE_21.kept hS.2.1).narrow hFc), va_Z.moved hW.alike (by rw [hU]; exact (hE_10.kept hS.2.1).narrow hFc), va_OF.moved hW.alike (by rw [hU]; exact (hE_19.kept hS.2.1).narrow hFc), va_O.moved hW.alike (by rw [hU]; exact (hE_18.kept hS.2.1).narrow hFc), va_Z.moved hW.alike (by rw [hU]; exact (hE_6.kept hS.2.1).narrow hFc), va_Z.moved hW.alike (by rw [hU]; exact (hE_0.kept hS.2.1).narrow hFc), va_T.moved hW.alike (by rw [hU]; exact (hE_1.kept hS.2.1).narrow hFc), va_T.moved hW.alike (by rw [hU]; exact (hE_7.kept hS.2.1).narrow hFc)⟩⟩ rfl rfl hl.1 rfl (lv_room (Nat.le_of_ble_eq_true rfl)) dX0_readClause_33 ⟨Nat.le_of_ble_eq_true rfl, Nat.le_of_ble_eq_true rfl⟩) hS (fun q _ h => hFc q h) hFc (fun r_275 w_276 t H1 locs ht hvm hw hB hz1 hk1 hS => ?_)
            obtain ⟨hP1, hK1, hD1⟩ := hB
            rw [ht] at hP1
            obtain ⟨hP, hD⟩ := cl_put (w1 := (wd_c_X0_beginClause h0 h0_0 h0_f1 h0_f2 1 h0_0 h0_0k w_276)) (nw := (wd_c_X0_readClause h1 h1_0 h1_f1 x_271 h1_f3 h1_0 h1_0k h1_0c h0 h0_0 h0_f1 h0_f2 1 h0_0 h0_0k w_276)) hP hD [2, 3] [0, 1, 4, 5] 4 rfl hqc (by decide +kernel) rfl hk1 hFc hP1 hD1
            generalize H1 = H at hP hS ⊢
            as_aux_lemma =>
            rcases hw with ⟨h_277, h_278⟩
            rw [h_277]
            refine lv_istore_n (lv' := [(3, .int 0), (2, .int 0), (0, .ref h0), (1, .ref h1)]) hx hb dX0_readClause_36 rfl hl (Nat.le_of_ble_eq_true rfl) rfl (fun ls hl => ?_)
            refine lv_iload_n hx hb dX0_readClause_37 rfl (lv_at hl 1 rfl) ?_
            obtain ⟨hPc, hDc, hFc, hqc⟩ := cl_cut (wc := []) hP hD hS hA [] (by decide +kernel) rfl
            have hKc := hK.sub (tys' := []) [] rfl
            refine va_callr (va_runS (As := [.int 0]) (rest := []) ⟨hx, hb, hml, hown, hts⟩ (c_X0_lettersOf l dC dI H.size ts1) (va_cwS 1 hts gf_c_X0_readClause_c_X0_lettersOf rfl rfl rfl md_X0_lettersOf ⟨Nat.le_of_ble_eq_true rfl, Nat.le_of_ble_eq_true rfl⟩) ⟨fun a U g mk q => by obtain ⟨q0, q1, qP, qK, qD, qE0⟩ := q; exact ⟨q0, q1, qP, va_K.moved (u := U) (U := U.calling g mk a) (Vm.Alike.refl U.vm) qK, qD, vk_R.same rfl qE0⟩, fun U hU hW => ⟨rfl, by rw [hU], by rw [hU]; exact hPc, va_K.moved hW.alike hKc, hDc.weaken (fun _ _ _ _ => trivial), vk_R.warm hW hE_17⟩⟩ rfl rfl hl.1 rfl (lv_room (Nat.le_of_ble_eq_true rfl)) dX0_readClause_38 ⟨Nat.le_of_ble_eq_true rfl, Nat.le_of_ble_eq_true rfl⟩) hS (fun q _ h => hFc q h) hFc (fun x_280 r_279 t H1 locs ht hvm hw hB hz1 hk1 hS => ?_)
            obtain ⟨hra, hP1, hK1, hD1⟩ := hB
            rw [ht] at hP1
            have hP := bv_still hP hk1
            generalize H1 = H at hP hS ⊢
            as_aux_lemma =>
            have h_281 := hw
            rw [hra, show x_280 = ts1 from h_281]
            refine lv_astore (lv' := [(4, .ref ts1), (3, .int 0), (2, .int 0), (0, .ref h0), (1, .ref h1)]) hx hb dX0_readClause_41 hl (Nat.le_of_ble_eq_true rfl) rfl (fun ls hl => ?_)
            refine lv_iconst (v := 0) hx hb dX0_readClause_43 kc_iconst_0 ?_
            refine lv_istore (lv' := [(5, .int 0), (4, .ref ts1), (3, .int 0), (2, .int 0), (0, .ref h0), (1, .ref h1)]) hx hb dX0_readClause_44 hl (Nat.le_of_ble_eq_true rfl) rfl (fun ls hl => ?_)
            refine lv_iconst (v := 0) hx hb dX0_readClause_46 kc_iconst_0 ?_
            refine lv_istore (lv' := [(6, .int 0), (5, .int 0), (4, .ref ts1), (3, .int 0), (2, .int 0), (0, .ref h0), (1, .ref h1)]) hx hb dX0_readClause_47 hl (Nat.le_of_ble_eq_true rfl) rfl (fun ls hl => ?_)
            exact hU _ _ _ (J49 _ 0 0 x_271 h1_f3 w_276 (Nat.lt_succ_self _) g_h0_f1 g_h0_f2 h_267 h_250 g_h1_f2 g_h1_f3 (RG_w h_272 (by decide +kernel)) g_h1_f3 (RG_w (RG_k 0 0 rfl) (by decide +kernel)) h_278 _ _ _ hP hD hS (lv_sub hl [0, 1, 2, 3, 4, 5, 6] rfl))
        by_cases c_282 : r_255 = 1
        · subst c_282
          refine lv_aload_n hx hb dX0_readClause_14 rfl (lv_at hl 1 rfl) ?_
          refine lv_iload_n hx hb dX0_readClause_15 rfl (lv_at hl 0 rfl) ?_
          obtain ⟨hPc, hDc, hFc, hqc⟩ := cl_cut (wc := (wd_c_X0_hasRoomFor_1 h0 h0_0 h0_f1 h0_f2 h0_f3)) hP hD hS hA [2] (by decide +kernel) rfl
          have hKc := hK.sub (tys' := []) [] rfl
          have hrv := va_recv hKc hPc (ci := 0) (q0 := 0) rfl rfl
          refine va_calli (va_runV (As := [.int 1]) (rest := []) ⟨hx, hb, hml, hown, hts⟩ (c_X0_hasRoomFor_1 l dC dI H.size h0 h0_0 h0_f1 h0_f2 h0_f3 g_h0_f1 g_h0_f2 g_h0_f3) (cwV 1 hts gf_c_X0_readClause_c_X0_hasRoomFor_1 rfl rfl rfl mdV_X0_hasRoomFor ⟨Nat.le_of_ble_eq_true rfl, Nat.le_of_ble_eq_true rfl⟩) ⟨fun a U g mk q => by obtain ⟨q0, q1, qP, qK, qD⟩ := q; exact ⟨q0, q1, qP, va_K.moved (u := U) (U := U.calling g mk a) (Vm.Alike.refl U.vm) qK, qD⟩, hrv, fun U hU hW => ⟨rfl, by rw [hU], by rw [hU]; exact hPc, va_K.moved hW.alike hKc, hDc.weaken (fun _ _ _ _ => trivial)⟩⟩ rfl rfl hl.1 rfl (lv_room (Nat.le_of_ble_eq_true rfl)) dX0_readClause_16 ⟨Nat.le_of_ble_eq_true rfl, Nat.le_of_ble_eq_true rfl⟩) hS (fun q _ h => hFc q h) hFc (fun r_283 u t H1 locs ht hvm hw hB hz1 hk1 hS => ?_)
          as_aux_lemma =>
          obtain ⟨hP1, hK1, hD1⟩ := hB
          rw [ht] at hP1
          obtain ⟨hP, hD⟩ := cl_put (w1 := (wd_c_X0_hasRoomFor_1 h0 h0_0 h0_f1 h0_f2 h0_f3)) (nw := (wd_c_X0_readClause h1 h1_0 h1_f1 x_244 h1_f3 h1_0 h1_0k h1_0c h0 h0_0 h0_f1 h0_f2 h0_f3 h0_0 h0_0k h0_0c)) hP hD [2] [0, 1, 4, 3] 4 rfl hqc (by decide +kernel) rfl hk1 hFc hP1 hD1
          generalize H1 = H at hP hS ⊢
          as_aux_lemma =>
          rcases hw with ⟨h_284, h_285⟩ | ⟨h_286, h_287⟩
          · rw [h_284]
            refine lv_if_ne (tgt := 27) hx hb dX0_readClause_19 rfl (fun c_288 => absurd c_288 (by decide +kernel)) (fun c_288 => ?_)
            exact hU _ _ _ (J22 x_244 (RG_w h_285 (by decide +kernel)) g_h0_f2 g_h0_f3 (RG_w h_250 (by decide +kernel)) g_h1_f2 g_h1_f3 (RG_w h_249 (by decide +kernel)) _ _ _ hP hD hS (lv_sub hl [2] rfl))
          · rw [h_286]
            refine lv_if_ne (tgt := 27) hx hb dX0_readClause_19 rfl (fun c_289 => ?_) (fun c_289 => absurd c_289 (by decide +kernel))
            refine lv_aload_n hx hb dX0_readClause_27 rfl (lv_at hl 2 rfl) ?_
            obtain ⟨hPc, hDc, hFc, hqc⟩ := cl_cut (wc := (wd_c_X9_skip h1 h1_0 h1_f1 x_244 h1_f3)) hP hD hS hA [0] (by decide +kernel) rfl
            have hKc := hK.sub (tys' := []) [] rfl
            have hrv := va_recv hKc hPc (ci := 9) (q0 := 0) rfl rfl
            refine va_callv (va_runV (As := []) (rest := []) ⟨hx, hb, hml, hown, hts⟩ (c_X9_skip l dC dI H.size h1 h1_0 h1_f1 x_244 h1_f3 (RG_w h_250 (by decide +kernel)) h_249 g_h1_f3) (cwV 0 hts gf_c_X0_readClause_c_X9_skip rfl rfl rfl mdV_X9_skip ⟨Nat.le_of_ble_eq_true rfl, Nat.le_of_ble_eq_true rfl⟩) ⟨fun a U g mk q => by obtain ⟨q0, q1, qP, qK, qD⟩ := q; exact ⟨q0, q1, qP, va_K.moved (u := U) (U := U.calling g mk a) (Vm.Alike.refl U.vm) qK, qD⟩, hrv, fun U hU hW => ⟨rfl, by rw [hU], by rw [hU]; exact hPc, va_K.moved hW.alike hKc, hDc.weaken (fun _ _ _ _ => trivial)⟩⟩ rfl rfl hl.1 rfl (lv_room (Nat.le_of_ble_eq_true rfl)) dX0_readClause_28 ⟨Nat.le_of_ble_eq_true rfl, Nat.le_of_ble_eq_true rfl⟩) hS (fun q _ h => hFc q h) hFc (fun x_291 t H1 locs ht hvm hw hB hz1 hk1 hS => ?_)
            obtain ⟨hP1, hK1, hD1⟩ := hB
            rw [ht] at hP1
            obtain ⟨hP, hD⟩ := cl_put (w1 := (wd_c_X9_skip h1 h1_0 h1_f1 x_291 h1_f3)) (nw := (wd_c_X0_readClause h1 h1_0 h1_f1 x_291 h1_f3 h1_0 h1_0k h1_0c h0 h0_0 h0_f1 h0_f2 h0_f3 h0_0 h0_0k h0_0c)) hP hD [0] [4, 1, 2, 3] 4 rfl hqc (by decide +kernel) rfl hk1 hFc hP1 hD1
            generalize H1 = H at hP hS ⊢
            as_aux_lemma =>
            rcases hw with ⟨h_292, h_293, h_294⟩
            refine lv_aload_n hx hb dX0_readClause_31 rfl (lv_at hl 1 rfl) ?_
            refine lv_iload_n hx hb dX0_readClause_32 rfl (lv_at hl 0 rfl) ?_
            obtain ⟨hPc, hDc, hFc, hqc⟩ := cl_cut (wc := (wd_c_X0_beginClause_1 h0 h0_0 h0_f1 h0_f2 h0_f3 h0_0 h0_0k h0_0c)) hP hD hS hA [2, 3] (by decide +kernel) rfl
            have hKc := hK.sub (tys' := [(h0_0k, .int)]) [1] rfl
            have hrv := va_recv hKc hPc (ci := 0) (q0 := 0) rfl rfl
            refine va_calli (va_runV (As := [.int 1]) (rest := []) ⟨hx, hb, hml, hown, hts⟩ (c_X0_beginClause_1 l dC dI H.size h0 h0_0 h0_f1 h0_f2 h0_f3 h0_0k h0_0c ts2 tv2 ta3 ta0 h_287 g_h0_f2 g_h0_f3 a_h0_0c) (cwV 1 hts gf_c_X0_readClause_c_X0_beginClause_1 rfl rfl rfl mdV_X0_beginClause ⟨Nat.le_of_ble_eq_true rfl, Nat.le_of_ble_eq_true rfl⟩) ⟨fun a U g mk q => by obtain ⟨q0, q1, qP, qK, qD, qE0, qE1, qE2, qE3, qE4, qE5, qE6, qE7, qE8, qE9⟩ := q; exact ⟨q0, q1, qP, va_K.moved (u := U) (U := U.calling g mk a) (Vm.Alike.refl U.vm) qK, qD, vk_R.same rfl qE0, va_OF.moved (u := U) (U := U.calling g mk a) (Vm.Alike.refl U.vm) qE1, va_T.moved (u := U) (U := U.calling g mk a) (Vm.Alike.refl U.vm) qE2, va_Z.moved (u := U) (U := U.calling g mk a) (Vm.Alike.refl U.vm) qE3, va_OF.moved (u := U) (U := U.calling g mk a) (Vm.Alike.refl U.vm) qE4, va_O.moved (u := U) (U := U.calling g mk a) (Vm.Alike.refl U.vm) qE5, va_Z.moved (u := U) (U := U.calling g mk a) (Vm.Alike.refl U.vm) qE6, va_Z.moved (u := U) (U := U.calling g mk a) (Vm.Alike.refl U.vm) qE7, va_T.moved (u := U) (U := U.calling g mk a) (Vm.Alike.refl U.vm) qE8, va_T.moved (u := U) (U := U.calling g mk a) (Vm.Alike.refl U.vm) qE9⟩, hrv, fun U hU hW => ⟨rfl, by rw [hU], by rw [hU]; exact hPc, va_K.moved hW.alike hKc, hDc.weaken (fun _ _ _ _ => trivial), vk_R.warm hW hE_22, va_OF.moved hW.alike (by rw [hU]; exact (hE_25.kept hS.2.1).narrow hFc), va_T.moved hW.alike (by rw [hU]; exact (hE_26.kept hS.2.1).narrow hFc), va_Z.moved hW.alike (by rw [hU]; exact (hE_10.kept hS.2.1).narrow hFc), va_OF.moved hW.alike (by rw [hU]; exact (hE_24.kept hS.2.1).narrow hFc), va_O.moved hW.alike (by rw [hU]; exact (hE_23.kept hS.2.1).narrow hFc), va_Z.moved hW.alike (by rw [hU]; exact (hE_6.kept hS.2.1).narrow hFc), va_Z.moved hW.alike (by rw [hU]; exact (hE_0.kept hS.2.1).narrow hFc), va_T.moved hW.alike (by rw [hU]; exact (hE_1.kept hS.2.1).narrow hFc), va_T.moved hW.alike (by rw [hU]; exact (hE_7.kept hS.2.1).narrow hFc)⟩⟩ rfl rfl hl.1 rfl (lv_room (Nat.le_of_ble_eq_true rfl)) dX0_readClause_33 ⟨Nat.le_of_ble_eq_true rfl, Nat.le_of_ble_eq_true rfl⟩) hS (fun q _ h => hFc q h) hFc (fun r_295 u t H1 locs ht hvm hw hB hz1 hk1 hS => ?_)
            obtain ⟨x_296, w_297⟩ := u
            obtain ⟨hP1, hK1, hD1⟩ := hB
            rw [ht] at hP1
            obtain ⟨hP, hD⟩ := cl_put (w1 := (wd_c_X0_beginClause_1 h0 h0_0 x_296 h0_f2 h0_f3 h0_0 h0_0k w_297)) (nw := (wd_c_X0_readClause h1 h1_0 h1_f1 x_291 h1_f3 h1_0 h1_0k h1_0c h0 h0_0 x_296 h0_f2 h0_f3 h0_0 h0_0k w_297)) hP hD [2, 3] [0, 1, 4, 5] 4 rfl hqc (by decide +kernel) rfl hk1 hFc hP1 hD1
            generalize H1 = H at hP hS ⊢
            as_aux_lemma =>
            rcases hw with ⟨h_298, h_299, h_300⟩
            refine lv_istore_n (lv' := [(3, .int r_295), (2, .int 1), (0, .ref h0), (1, .ref h1)]) hx hb dX0_readClause_36 rfl hl (Nat.le_of_ble_eq_true rfl) rfl (fun ls hl => ?_)
            refine lv_iload_n hx hb dX0_readClause_37 rfl (lv_at hl 1 rfl) ?_
            obtain ⟨hPc, hDc, hFc, hqc⟩ := cl_cut (wc := []) hP hD hS hA [] (by decide +kernel) rfl
            have hKc := hK.sub (tys' := []) [] rfl
            refine va_callr (va_runS (As := [.int 1]) (rest := []) ⟨hx, hb, hml, hown, hts⟩ (c_X0_lettersOf_1 l dC dI H.size ts2) (va_cwS 1 hts gf_c_X0_readClause_c_X0_lettersOf_1 rfl rfl rfl md_X0_lettersOf ⟨Nat.le_of_ble_eq_true rfl, Nat.le_of_ble_eq_true rfl⟩) ⟨fun a U g mk q => by obtain ⟨q0, q1, qP, qK, qD, qE0⟩ := q; exact ⟨q0, q1, qP, va_K.moved (u := U) (U := U.calling g mk a) (Vm.Alike.refl U.vm) qK, qD, vk_R.same rfl qE0⟩, fun U hU hW => ⟨rfl, by rw [hU], by rw [hU]; exact hPc, va_K.moved hW.alike hKc, hDc.weaken (fun _ _ _ _ => trivial), vk_R.warm hW hE_22⟩⟩ rfl rfl hl.1 rfl (lv_room (Nat.le_of_ble_eq_true rfl)) dX0_readClause_38 ⟨Nat.le_of_ble_eq_true rfl, Nat.le_of_ble_eq_true rfl⟩) hS (fun q _ h => hFc q h) hFc (fun x_302 r_301 t H1 locs ht hvm hw hB hz1 hk1 hS => ?_)
            obtain ⟨hra, hP1, hK1, hD1⟩ := hB
            rw [ht] at hP1
            have hP := bv_still hP hk1
            generalize H1 = H at hP hS ⊢
            as_aux_lemma =>
            have h_303 := hw
            rw [hra, show x_302 = ts2 from h_303]
            refine lv_astore (lv' := [(4, .ref ts2), (3, .int r_295), (2, .int 1), (0, .ref h0), (1, .ref h1)]) hx hb dX0_readClause_41 hl (Nat.le_of_ble_eq_true rfl) rfl (fun ls hl => ?_)
            refine lv_iconst (v := 0) hx hb dX0_readClause_43 kc_iconst_0 ?_
            refine lv_istore (lv' := [(5, .int 0), (4, .ref ts2), (3, .int r_295), (2, .int 1), (0, .ref h0), (1, .ref h1)]) hx hb dX0_readClause_44 hl (Nat.le_of_ble_eq_true rfl) rfl (fun ls hl => ?_)
            refine lv_iconst (v := 0) hx hb dX0_readClause_46 kc_iconst_0 ?_
            refine lv_istore (lv' := [(6, .int 0), (5, .int 0), (4, .ref ts2), (3, .int r_295), (2, .int 1), (0, .ref h0), (1, .ref h1)]) hx hb dX0_readClause_47 hl (Nat.le_of_ble_eq_true rfl) rfl (fun ls hl => ?_)
            exact hU _ _ _ (J49b _ 0 0 r_295 x_291 h1_f3 x_296 w_297 (Nat.lt_succ_self _) h_287 g_h0_f2 g_h0_f3 h_250 g_h1_f2 g_h1_f3 h_299 (RG_w h_292 (by decide +kernel)) g_h1_f3 h_298 (RG_w (RG_k 0 0 rfl) (by decide +kernel)) h_300 _ _ _ hP hD hS (lv_sub hl [0, 1, 2, 3, 4, 5, 6] rfl))
        by_cases c_304 : r_255 = 2
        · subst c_304
          refine lv_aload_n hx hb dX0_readClause_14 rfl (lv_at hl 1 rfl) ?_
          refine lv_iload_n hx hb dX0_readClause_15 rfl (lv_at hl 0 rfl) ?_
          obtain ⟨hPc, hDc, hFc, hqc⟩ := cl_cut (wc := (wd_c_X0_hasRoomFor_2 h0 h0_0 h0_f1 h0_f2 h0_f3)) hP hD hS hA [2] (by decide +kernel) rfl
          have hKc := hK.sub (tys' := []) [] rfl
          have hrv := va_recv hKc hPc (ci := 0) (q0 := 0) rfl rfl
          refine va_calli (va_runV (As := [.int 2]) (rest := []) ⟨hx, hb, hml, hown, hts⟩ (c_X0_hasRoomFor_2 l dC dI H.size h0 h0_0 h0_f1 h0_f2 h0_f3 g_h0_f1 g_h0_f2 g_h0_f3) (cwV 1 hts gf_c_X0_readClause_c_X0_hasRoomFor_2 rfl rfl rfl mdV_X0_hasRoomFor ⟨Nat.le_of_ble_eq_true rfl, Nat.le_of_ble_eq_true rfl⟩) ⟨fun a U g mk q => by obtain ⟨q0, q1, qP, qK, qD⟩ := q; exact ⟨q0, q1, qP, va_K.moved (u := U) (U := U.calling g mk a) (Vm.Alike.refl U.vm) qK, qD⟩, hrv, fun U hU hW => ⟨rfl, by rw [hU], by rw [hU]; exact hPc, va_K.moved hW.alike hKc, hDc.weaken (fun _ _ _ _ => trivial)⟩⟩ rfl rfl hl.1 rfl (lv_room (Nat.le_of_ble_eq_true rfl)) dX0_readClause_16 ⟨Nat.le_of_ble_eq_true rfl, Nat.le_of_ble_eq_true rfl⟩) hS (fun q _ h => hFc q h) hFc (fun r_305 u t H1 locs ht hvm hw hB hz1 hk1 hS => ?_)
          as_aux_lemma =>
          obtain ⟨hP1, hK1, hD1⟩ := hB
          rw [ht] at hP1
          obtain ⟨hP, hD⟩ := cl_put (w1 := (wd_c_X0_hasRoomFor_2 h0 h0_0 h0_f1 h0_f2 h0_f3)) (nw := (wd_c_X0_readClause h1 h1_0 h1_f1 x_244 h1_f3 h1_0 h1_0k h1_0c h0 h0_0 h0_f1 h0_f2 h0_f3 h0_0 h0_0k h0_0c)) hP hD [2] [0, 1, 4, 3] 4 rfl hqc (by decide +kernel) rfl hk1 hFc hP1 hD1
          generalize H1 = H at hP hS ⊢
          as_aux_lemma =>
          rcases hw with ⟨h_306, h_307⟩ | ⟨h_308, h_309⟩
          · rw [h_306]
            refine lv_if_ne (tgt := 27) hx hb dX0_readClause_19 rfl (fun c_310 => absurd c_310 (by decide +kernel)) (fun c_310 => ?_)
            exact hU _ _ _ (J22 x_244 g_h0_f1 (RG_w h_307 (by decide +kernel)) g_h0_f3 (RG_w h_250 (by decide +kernel)) g_h1_f2 g_h1_f3 (RG_w h_249 (by decide +kernel)) _ _ _ hP hD hS (lv_sub hl [2] rfl))
          · rw [h_308]
            refine lv_if_ne (tgt := 27) hx hb dX0_readClause_19 rfl (fun c_311 => ?_) (fun c_311 => absurd c_311 (by decide +kernel))
            refine lv_aload_n hx hb dX0_readClause_27 rfl (lv_at hl 2 rfl) ?_
            obtain ⟨hPc, hDc, hFc, hqc⟩ := cl_cut (wc := (wd_c_X9_skip h1 h1_0 h1_f1 x_244 h1_f3)) hP hD hS hA [0] (by decide +kernel) rfl
            have hKc := hK.sub (tys' := []) [] rfl
            have hrv := va_recv hKc hPc (ci := 9) (q0 := 0) rfl rfl
            refine va_callv (va_runV (As := []) (rest := []) ⟨hx, hb, hml, hown, hts⟩ (c_X9_skip l dC dI H.size h1 h1_0 h1_f1 x_244 h1_f3 (RG_w h_250 (by decide +kernel)) h_249 g_h1_f3) (cwV 0 hts gf_c_X0_readClause_c_X9_skip rfl rfl rfl mdV_X9_skip ⟨Nat.le_of_ble_eq_true rfl, Nat.le_of_ble_eq_true rfl⟩) ⟨fun a U g mk q => by obtain ⟨q0, q1, qP, qK, qD⟩ := q; exact ⟨q0, q1, qP, va_K.moved (u := U) (U := U.calling g mk a) (Vm.Alike.refl U.vm) qK, qD⟩, hrv, fun U hU hW => ⟨rfl, by rw [hU], by rw [hU]; exact hPc, va_K.moved hW.alike hKc, hDc.weaken (fun _ _ _ _ => trivial)⟩⟩ rfl rfl hl.1 rfl (lv_room (Nat.le_of_ble_eq_true rfl)) dX0_readClause_28 ⟨Nat.le_of_ble_eq_true rfl, Nat.le_of_ble_eq_true rfl⟩) hS (fun q _ h => hFc q h) hFc (fun x_313 t H1 locs ht hvm hw hB hz1 hk1 hS => ?_)
            obtain ⟨hP1, hK1, hD1⟩ := hB
            rw [ht] at hP1
            obtain ⟨hP, hD⟩ := cl_put (w1 := (wd_c_X9_skip h1 h1_0 h1_f1 x_313 h1_f3)) (nw := (wd_c_X0_readClause h1 h1_0 h1_f1 x_313 h1_f3 h1_0 h1_0k h1_0c h0 h0_0 h0_f1 h0_f2 h0_f3 h0_0 h0_0k h0_0c)) hP hD [0] [4, 1, 2, 3] 4 rfl hqc (by decide +kernel) rfl hk1 hFc hP1 hD1
            generalize H1 = H at hP hS ⊢
            as_aux_lemma =>
            rcases hw with ⟨h_314, h_315, h_316⟩
            refine lv_aload_n hx hb dX0_readClause_31 rfl (lv_at hl 1 rfl) ?_
            refine lv_iload_n hx hb dX0_readClause_32 rfl (lv_at hl 0 rfl) ?_
            obtain ⟨hPc, hDc, hFc, hqc⟩ := cl_cut (wc := (wd_c_X0_beginClause_2 h0 h0_0 h0_f1 h0_f2 h0_f3 h0_0 h0_0k h0_0c)) hP hD hS hA [2, 3] (by decide +kernel) rfl
            have hKc := hK.sub (tys' := [(h0_0k, .int)]) [1] rfl
            have hrv := va_recv hKc hPc (ci := 0) (q0 := 0) rfl rfl
            refine va_calli (va_runV (As := [.int 2]) (rest := []) ⟨hx, hb, hml, hown, hts⟩ (c_X0_beginClause_2 l dC dI H.size h0 h0_0 h0_f1 h0_f2 h0_f3 h0_0k h0_0c ts3 tv3 ta3 ta0 g_h0_f1 h_309 g_h0_f3 a_h0_0c) (cwV 1 hts gf_c_X0_readClause_c_X0_beginClause_2 rfl rfl rfl mdV_X0_beginClause ⟨Nat.le_of_ble_eq_true rfl, Nat.le_of_ble_eq_true rfl⟩) ⟨fun a U g mk q => by obtain ⟨q0, q1, qP, qK, qD, qE0, qE1, qE2, qE3, qE4, qE5, qE6, qE7, qE8, qE9⟩ := q; exact ⟨q0, q1, qP, va_K.moved (u := U) (U := U.calling g mk a) (Vm.Alike.refl U.vm) qK, qD, vk_R.same rfl qE0, va_OF.moved (u := U) (U := U.calling g mk a) (Vm.Alike.refl U.vm) qE1, va_T.moved (u := U) (U := U.calling g mk a) (Vm.Alike.refl U.vm) qE2, va_Z.moved (u := U) (U := U.calling g mk a) (Vm.Alike.refl U.vm) qE3, va_OF.moved (u := U) (U := U.calling g mk a) (Vm.Alike.refl U.vm) qE4, va_O.moved (u := U) (U := U.calling g mk a) (Vm.Alike.refl U.vm) qE5, va_Z.moved (u := U) (U := U.calling g mk a) (Vm.Alike.refl U.vm) qE6, va_Z.moved (u := U) (U := U.calling g mk a) (Vm.Alike.refl U.vm) qE7, va_T.moved (u := U) (U := U.calling g mk a) (Vm.Alike.refl U.vm) qE8, va_T.moved (u := U) (U := U.calling g mk a) (Vm.Alike.refl U.vm) qE9⟩, hrv, fun U hU hW => ⟨rfl, by rw [hU], by rw [hU]; exact hPc, va_K.moved hW.alike hKc, hDc.weaken (fun _ _ _ _ => trivial), vk_R.warm hW hE_27, va_OF.moved hW.alike (by rw [hU]; exact (hE_30.kept hS.2.1).narrow hFc), va_T.moved hW.alike (by rw [hU]; exact (hE_31.kept hS.2.1).narrow hFc), va_Z.moved hW.alike (by rw [hU]; exact (hE_10.kept hS.2.1).narrow hFc), va_OF.moved hW.alike (by rw [hU]; exact (hE_29.kept hS.2.1).narrow hFc), va_O.moved hW.alike (by rw [hU]; exact (hE_28.kept hS.2.1).narrow hFc), va_Z.moved hW.alike (by rw [hU]; exact (hE_6.kept hS.2.1).narrow hFc), va_Z.moved hW.alike (by rw [hU]; exact (hE_0.kept hS.2.1).narrow hFc), va_T.moved hW.alike (by rw [hU]; exact (hE_1.kept hS.2.1).narrow hFc), va_T.moved hW.alike (by rw [hU]; exact (hE_7.kept hS.2.1).narrow hFc)⟩⟩ rfl rfl hl.1 rfl (lv_room (Nat.le_of_ble_eq_true rfl)) dX0_readClause_33 ⟨Nat.le_of_ble_eq_true rfl, Nat.le_of_ble_eq_true rfl⟩) hS (fun q _ h => hFc q h) hFc (fun r_317 u t H1 locs ht hvm hw hB hz1 hk1 hS => ?_)
            obtain ⟨x_318, w_319⟩ := u
            obtain ⟨hP1, hK1, hD1⟩ := hB
            rw [ht] at hP1
            obtain ⟨hP, hD⟩ := cl_put (w1 := (wd_c_X0_beginClause_2 h0 h0_0 h0_f1 x_318 h0_f3 h0_0 h0_0k w_319)) (nw := (wd_c_X0_readClause h1 h1_0 h1_f1 x_313 h1_f3 h1_0 h1_0k h1_0c h0 h0_0 h0_f1 x_318 h0_f3 h0_0 h0_0k w_319)) hP hD [2, 3] [0, 1, 4, 5] 4 rfl hqc (by decide +kernel) rfl hk1 hFc hP1 hD1
            generalize H1 = H at hP hS ⊢
            as_aux_lemma =>
            rcases hw with ⟨h_320, h_321, h_322⟩
            refine lv_istore_n (lv' := [(3, .int r_317), (2, .int 2), (0, .ref h0), (1, .ref h1)]) hx hb dX0_readClause_36 rfl hl (Nat.le_of_ble_eq_true rfl) rfl (fun ls hl => ?_)
            refine lv_iload_n hx hb dX0_readClause_37 rfl (lv_at hl 1 rfl) ?_
            obtain ⟨hPc, hDc, hFc, hqc⟩ := cl_cut (wc := []) hP hD hS hA [] (by decide +kernel) rfl
            have hKc := hK.sub (tys' := []) [] rfl
            refine va_callr (va_runS (As := [.int 2]) (rest := []) ⟨hx, hb, hml, hown, hts⟩ (c_X0_lettersOf_2 l dC dI H.size ts3) (va_cwS 1 hts gf_c_X0_readClause_c_X0_lettersOf_2 rfl rfl rfl md_X0_lettersOf ⟨Nat.le_of_ble_eq_true rfl, Nat.le_of_ble_eq_true rfl⟩) ⟨fun a U g mk q => by obtain ⟨q0, q1, qP, qK, qD, qE0⟩ := q; exact ⟨q0, q1, qP, va_K.moved (u := U) (U := U.calling g mk a) (Vm.Alike.refl U.vm) qK, qD, vk_R.same rfl qE0⟩, fun U hU hW => ⟨rfl, by rw [hU], by rw [hU]; exact hPc, va_K.moved hW.alike hKc, hDc.weaken (fun _ _ _ _ => trivial), vk_R.warm hW hE_27⟩⟩ rfl rfl hl.1 rfl (lv_room (Nat.le_of_ble_eq_true rfl)) dX0_readClause_38 ⟨Nat.le_of_ble_eq_true rfl, Nat.le_of_ble_eq_true rfl⟩) hS (fun q _ h => hFc q h) hFc (fun x_324 r_323 t H1 locs ht hvm hw hB hz1 hk1 hS => ?_)
            obtain ⟨hra, hP1, hK1, hD1⟩ := hB
            rw [ht] at hP1
            have hP := bv_still hP hk1
            generalize H1 = H at hP hS ⊢
            as_aux_lemma =>
            have h_325 := hw
            rw [hra, show x_324 = ts3 from h_325]
            refine lv_astore (lv' := [(4, .ref ts3), (3, .int r_317), (2, .int 2), (0, .ref h0), (1, .ref h1)]) hx hb dX0_readClause_41 hl (Nat.le_of_ble_eq_true rfl) rfl (fun ls hl => ?_)
            refine lv_iconst (v := 0) hx hb dX0_readClause_43 kc_iconst_0 ?_
            refine lv_istore (lv' := [(5, .int 0), (4, .ref ts3), (3, .int r_317), (2, .int 2), (0, .ref h0), (1, .ref h1)]) hx hb dX0_readClause_44 hl (Nat.le_of_ble_eq_true rfl) rfl (fun ls hl => ?_)
            refine lv_iconst (v := 0) hx hb dX0_readClause_46 kc_iconst_0 ?_
            refine lv_istore (lv' := [(6, .int 0), (5, .int 0), (4, .ref ts3), (3, .int r_317), (2, .int 2), (0, .ref h0), (1, .ref h1)]) hx hb dX0_readClause_47 hl (Nat.le_of_ble_eq_true rfl) rfl (fun ls hl => ?_)
            exact hU _ _ _ (J49c _ 0 0 r_317 x_313 h1_f3 x_318 w_319 (Nat.lt_succ_self _) g_h0_f1 h_309 g_h0_f3 h_250 g_h1_f2 g_h1_f3 h_321 (RG_w h_314 (by decide +kernel)) g_h1_f3 h_320 (RG_w (RG_k 0 0 rfl) (by decide +kernel)) h_322 _ _ _ hP hD hS (lv_sub hl [0, 1, 2, 3, 4, 5, 6] rfl))
        exfalso
        have zc_262 := lv_neT c_262 (a := 0) (by decide +kernel)
        have zc_282 := lv_neT c_282 (a := 1) (by decide +kernel)
        have zc_304 := lv_neT c_304 (a := 2) (by decide +kernel)
        have zg1 := (h_257).1
        have zg2 := (h_257).2
        omega
noncomputable def wd_c_X9_take (a0 : Nat) (a1 : Nat) (a2 : Int32) (a3 : Int32) (a4 : Int32) (a5 : Nat) (a6 : ClassId) (a7 : Nat → Int32) : va_W := [(a0, .inr (9, [.ref a1, .int a2, .int a3, .int a4])), (a5, .inl (a6, 240, .inl a7))]
noncomputable def wf_c_X9_take : List Cond := List.cons (.code yX9_take cX9_take 2 (some .boolean)) (@HAppend.hAppend (List Cond) (List Cond) (List Cond) _ [.fieldLink RX9 15 "BuoyVote$Tape" "wrong" "I", .methodLink RX9 29 yX9_peek, .instanceMethod yX9_peek, .selects RX9 yX9_peek yX9_peek, .initialized RX9, .code yX9_peek cX9_peek 1 (some .int), .fieldLink RX9 22 "BuoyVote$Tape" "at" "I", .fieldLink RX9 19 "BuoyVote$Tape" "length" "I", .fieldLink RX9 11 "BuoyVote$Tape" "bytes" "[I"] wsX90)
theorem iw_c_X9_take_X9 : ∀ w ∈ wsX90, w ∈ wf_c_X9_take := fun w h => List.mem_cons_of_mem _ (List.mem_append_right _ h)
set_option maxRecDepth 20000 in
theorem gf_c_X9_take_c_X9_peek : GoodIn wf_c_X9_take (wsV RX9 29 RX9 yX9_peek wf_c_X9_peek) := goodIn_app (gi_l [2, 3, 4, 5] rfl rfl) (gi_cons (j := 6) rfl rfl (goodIn_app (gi_l [7, 8, 9] rfl rfl) (goodIn_sub iw_c_X9_take_X9 gw_X9)))
set_option maxHeartbeats 4000000 in
set_option maxRecDepth 100000 in
theorem c_X9_take (l : Launch) (dC : Nat → ClassId) (dI : Nat → Nat → Nat) (sz : Nat) (h0 : Nat) (p1 : Int32) (h0_0 : Nat) (h0_f1 : Int32) (h0_f2 : Int32) (h0_f3 : Int32) (h0_0k : ClassId) (h0_0c : Nat → Int32) (g_p1 : RG p1 0 60) (g_h0_f1 : RG h0_f1 0 240) (g_h0_f2 : RG h0_f2 0 240) (g_h0_f3 : RG h0_f3 (-1) 240) (a_h0_0c : AI h0_0c 0 255) : Met l yX9_take wf_c_X9_take ({ frames := 1, cells := 0, slots := 0, locals := 20 }) (va_Pc [.ref h0, .int p1] (fun U => U.heap.size = sz ∧ va_P (dC, dI) vwCl (wd_c_X9_take h0 h0_0 h0_f1 h0_f2 h0_f3 h0_0 h0_0k h0_0c) U.heap ∧ va_K (dC, dI) vwCl [(h0_0k, .int)] U ∧ va_D (fun _ => True) (wd_c_X9_take h0 h0_0 h0_f1 h0_f2 h0_f3 h0_0 h0_0k h0_0c))) (va_Qi (fun (r : Int32) (u : (Int32)) => (r = 0 ∧ RG u 0 240 ∧ h0_f2.toInt + 0 ≤ (u).toInt) ∨ (r = 1 ∧ RG u 1 240 ∧ RG h0_f1 1 240 ∧ RG h0_f3 (-1) (-1) ∧ h0_f2.toInt + 1 ≤ (u).toInt)) (fun (u : (Int32)) t => va_P (dC, dI) vwCl (wd_c_X9_take h0 h0_0 h0_f1 u h0_f3 h0_0 h0_0k h0_0c) t.heap ∧ va_K (dC, dI) vwCl [] t ∧ va_D (va_A (wd_c_X9_take h0 h0_0 h0_f1 h0_f2 h0_f3 h0_0 h0_0k h0_0c) sz) (wd_c_X9_take h0 h0_0 h0_f1 u h0_f3 h0_0 h0_0k h0_0c)) (va_A (wd_c_X9_take h0 h0_0 h0_f1 h0_f2 h0_f3 h0_0 h0_0k h0_0c) sz)) 0 0 (va_A (wd_c_X9_take h0 h0_0 h0_f1 h0_f2 h0_f3 h0_0 h0_0k h0_0c) sz) := by
  refine Met.ofW (cc := cX9_take) (maxL := 2) (ret := (some .boolean)) (by decide +kernel) rfl ?_
  intro p e s m args below meth c s₁ B hml hv
  obtain ⟨rfl, hsz, hP, hK, hD0⟩ := hv
  have hx := B.exec
  have hb := B.bytes
  have hr := B.returns
  have hts := atoms_spec (ws := wf_c_X9_take) B.pre
  have hown : s.vm.findClass RX9 = some m.cls := findClass_of_methodNamed B.named
  have hlocks := B.notSynchronized
  subst hsz
  have hD := hD0.self (sz := s.heap.size)
  generalize hAe : va_A (wd_c_X9_take h0 h0_0 h0_f1 h0_f2 h0_f3 h0_0 h0_0k h0_0c) s.heap.size = A at hD ⊢
  have hA : ∀ q : Nat, s.heap.size ≤ q → A q := fun q h => by rw [← hAe]; exact Or.inr h
  have hP : va_P (dC, dI) vwCl (wd_c_X9_take h0 h0_0 h0_f1 h0_f2 h0_f3 h0_0 h0_0k h0_0c) s.heap := hP
  have hl := lv_entry ([.ref h0, .int p1]) (n := 2) (Nat.le_of_ble_eq_true rfl)
  rw [lg_entry_eq]
  generalize (lg_sl ([.ref h0, .int p1]) ++ List.replicate (2 - (lg_sl ([.ref h0, .int p1])).length) Slot.unset).toArray = ls at hl ⊢
  have hl : lv_has ls 2 [(0, .ref h0), (1, .int p1)] := hl
  obtain ⟨H, hHe⟩ : ∃ H : Heap, s.heap = H := ⟨_, rfl⟩
  have hS : va_S A s.heap H [] := by rw [hHe]; exact va_S.rf
  have hP : va_P (dC, dI) vwCl (wd_c_X9_take h0 h0_0 h0_f1 h0_f2 h0_f3 h0_0 h0_0k h0_0c) H := by rw [← hHe]; exact hP
  rw [hHe]
  refine lv_aload_n hx hb dX9_take_0 rfl (lv_at hl 0 rfl) ?_
  as_aux_lemma =>
  refine va_get (D := (dC, dI)) (ci := 9) (v := .int h0_f3) (C := RX9) (T := TX9) (N := 4) hx hb hts iw_c_X9_take_X9 hown hK hP 0 rfl rfl 3 (by decide +kernel) (hts (.fieldLink RX9 15 "BuoyVote$Tape" "wrong" "I") (List.mem_of_getElem? (i := 1) rfl)) (fun _ h9 => h9) rfl dX9_take_1 ?_
  refine lv_iconst (v := (-1)) hx hb dX9_take_4 kc_iconst_m1 ?_
  refine lv_icmp_ne (tgt := 16) hx hb dX9_take_5 rfl (fun c_1 => ?_) (fun c_1 => ?_)
  · have g_2 : RG h0_f3 0 240 := RG_ne1 g_h0_f3 (q := (-1)) rfl c_1 (by decide +kernel)
    refine lv_iconst (v := 0) hx hb dX9_take_16 kc_iconst_0 ?_
    have hK9 := hK.sub (tys' := []) [] rfl
    exact W.zret (v := 0) hx hb hr rfl (fun t ht hW => ⟨⟨0, h0_f2, rfl, (Or.inl ⟨rfl, g_h0_f2, (by show h0_f2.toInt + 0 ≤ h0_f2.toInt; omega)⟩), by rw [ht]; exact hP, va_K.moved hW.alike hK9, hD⟩, hS.F ht⟩) hS.2.2 dX9_take_17
  · have g_3 : RG h0_f3 (-1) (-1) := RG_eq1 g_h0_f3 (RG_k (-1) (-1) rfl) c_1 (by decide +kernel)
    refine lv_aload_n hx hb dX9_take_8 rfl (lv_at hl 0 rfl) ?_
    obtain ⟨hPc, hDc, hFc, hqc⟩ := cl_cut (wc := (wd_c_X9_peek h0 h0_0 h0_f1 h0_f2 h0_f3 h0_0 h0_0k h0_0c)) hP hD hS hA [0, 1] (by decide +kernel) rfl
    have hKc := hK.sub (tys' := [(h0_0k, .int)]) [0] rfl
    have hrv := va_recv hKc hPc (ci := 9) (q0 := 0) rfl rfl
    refine va_calli (va_runV (As := []) (rest := []) ⟨hx, hb, hml, hown, hts⟩ (c_X9_peek l dC dI H.size h0 h0_0 h0_f1 h0_f2 h0_f3 h0_0k h0_0c g_h0_f1 g_h0_f2 (RG_w g_3 (by decide +kernel)) a_h0_0c) (cwV 0 hts gf_c_X9_take_c_X9_peek rfl rfl rfl mdV_X9_peek ⟨Nat.le_of_ble_eq_true rfl, Nat.le_of_ble_eq_true rfl⟩) ⟨fun a U g mk q => by obtain ⟨q0, q1, qP, qK, qD⟩ := q; exact ⟨q0, q1, qP, va_K.moved (u := U) (U := U.calling g mk a) (Vm.Alike.refl U.vm) qK, qD⟩, hrv, fun U hU hW => ⟨rfl, by rw [hU], by rw [hU]; exact hPc, va_K.moved hW.alike hKc, hDc.weaken (fun _ _ _ _ => trivial)⟩⟩ rfl rfl hl.1 rfl (lv_room (Nat.le_of_ble_eq_true rfl)) dX9_take_9 ⟨Nat.le_of_ble_eq_true rfl, Nat.le_of_ble_eq_true rfl⟩) hS (fun q _ h => hFc q h) hFc (fun r_4 x_5 t H1 locs ht hvm hw hB hz1 hk1 hS => ?_)
    obtain ⟨hP1, hK1, hD1⟩ := hB
    rw [ht] at hP1
    obtain ⟨hP, hD⟩ := cl_put (w1 := (wd_c_X9_peek h0 h0_0 h0_f1 x_5 h0_f3 h0_0 h0_0k h0_0c)) (nw := (wd_c_X9_take h0 h0_0 h0_f1 x_5 h0_f3 h0_0 h0_0k h0_0c)) hP hD [0, 1] [2, 3] 2 rfl hqc (by decide +kernel) rfl hk1 hFc hP1 hD1
    generalize H1 = H at hP hS ⊢
    as_aux_lemma =>
    rcases hw with ⟨h_6, h_7, h_8⟩ | ⟨h_9, h_10, h_11, h_12⟩
    · rw [h_6]
      refine lv_iload_n hx hb dX9_take_12 rfl (lv_at hl 1 rfl) ?_
      refine lv_icmp_eq (tgt := 18) hx hb dX9_take_13 rfl (fun c_13 => ?_) (fun c_13 => ?_)
      · exact RG_dead (RG_eq1 (RG_k (-1) (-1) rfl) g_p1 c_13 (a' := 0) (b' := (-1)) (by decide +kernel)) (by decide +kernel)
      · refine lv_iconst (v := 0) hx hb dX9_take_16 kc_iconst_0 ?_
        have hK9 := hK.sub (tys' := []) [] rfl
        exact W.zret (v := 0) hx hb hr rfl (fun t ht hW => ⟨⟨0, x_5, rfl, (Or.inl ⟨rfl, h_7, (by have := h_8; show h0_f2.toInt + 0 ≤ x_5.toInt; omega)⟩), by rw [ht]; exact hP, va_K.moved hW.alike hK9, hD⟩, hS.F ht⟩) hS.2.2 dX9_take_17
    · refine lv_iload_n hx hb dX9_take_12 rfl (lv_at hl 1 rfl) ?_
      refine lv_icmp_eq (tgt := 18) hx hb dX9_take_13 rfl (fun c_14 => ?_) (fun c_14 => ?_)
      · have g_15 : RG r_4 0 60 := RG_eq1 h_9 g_p1 c_14 (by decide +kernel)
        refine lv_aload_n hx hb dX9_take_18 rfl (lv_at hl 0 rfl) ?_
        refine lv_dup hx hb dX9_take_19 rfl ?_
        refine va_get (D := (dC, dI)) (ci := 9) (v := .int x_5) (C := RX9) (T := TX9) (N := 4) hx hb hts iw_c_X9_take_X9 hown hK hP 0 rfl rfl 2 (by decide +kernel) (hts (.fieldLink RX9 22 "BuoyVote$Tape" "at" "I") (List.mem_of_getElem? (i := 7) rfl)) (fun _ h9 => h9) rfl dX9_take_20 ?_
        as_aux_lemma =>
        refine lv_iconst (v := 1) hx hb dX9_take_23 kc_iconst_1 ?_
        refine lv_iadd hx hb dX9_take_24 ?_
        refine lv_topi (fun x_16 ex_16 => ?_)
        have g_17 : RG x_16 1 240 := RG_add ex_16 h_10 (RG_k 1 1 rfl) (by decide +kernel)
        have q_18 : x_16.toInt = x_5.toInt + 1 := eq_add ex_16 h_10 (q := 1) rfl (by decide +kernel)
        refine va_put (D := (dC, dI)) (ci := 9) (v := .int x_16) (ty := .int) (C := RX9) (T := TX9) (N := 4) hx hb hts iw_c_X9_take_X9 tyX9 tyX9_ok nmX9 hown hK hP hD hS 0 rfl rfl 2 (by decide +kernel) (hts (.fieldLink RX9 22 "BuoyVote$Tape" "at" "I") (List.mem_of_getElem? (i := 7) rfl)) (fun _ h9 => h9) rfl (by decide +kernel) rfl rfl (Nat.le_of_ble_eq_true rfl) dX9_take_25 (fun H locs hP hD hS => ?_)
        have hP : va_P (dC, dI) vwCl (wd_c_X9_take h0 h0_0 h0_f1 x_16 h0_f3 h0_0 h0_0k h0_0c) H := hP
        have hD : va_D A (wd_c_X9_take h0 h0_0 h0_f1 x_16 h0_f3 h0_0 h0_0k h0_0c) := hD
        refine lv_iconst (v := 1) hx hb dX9_take_28 kc_iconst_1 ?_
        have hK9 := hK.sub (tys' := []) [] rfl
        exact W.zret (v := 1) hx hb hr rfl (fun t ht hW => ⟨⟨1, x_16, rfl, (Or.inr ⟨rfl, g_17, h_11, g_3, (by have := h_12; have := q_18; show h0_f2.toInt + 1 ≤ x_16.toInt; omega)⟩), by rw [ht]; exact hP, va_K.moved hW.alike hK9, hD⟩, hS.F ht⟩) hS.2.2 dX9_take_29
      · refine lv_iconst (v := 0) hx hb dX9_take_16 kc_iconst_0 ?_
        have hK9 := hK.sub (tys' := []) [] rfl
        exact W.zret (v := 0) hx hb hr rfl (fun t ht hW => ⟨⟨0, x_5, rfl, (Or.inl ⟨rfl, (RG_w h_10 (by decide +kernel)), (by have := h_12; show h0_f2.toInt + 0 ≤ x_5.toInt; omega)⟩), by rw [ht]; exact hP, va_K.moved hW.alike hK9, hD⟩, hS.F ht⟩) hS.2.2 dX9_take_17
noncomputable def wd_c_X9_expectEnd (a0 : Nat) (a1 : Nat) (a2 : Int32) (a3 : Int32) (a4 : Int32) (a5 : Nat) (a6 : ClassId) (a7 : Nat → Int32) : va_W := [(a0, .inr (9, [.ref a1, .int a2, .int a3, .int a4])), (a5, .inl (a6, 240, .inl a7))]
noncomputable def wf_c_X9_expectEnd : List Cond := List.cons (.code yX9_expectEnd cX9_expectEnd 1 none) (@HAppend.hAppend (List Cond) (List Cond) (List Cond) _ [.methodLink RX9 29 yX9_peek, .instanceMethod yX9_peek, .selects RX9 yX9_peek yX9_peek, .initialized RX9, .code yX9_peek cX9_peek 1 (some .int), .fieldLink RX9 22 "BuoyVote$Tape" "at" "I", .fieldLink RX9 19 "BuoyVote$Tape" "length" "I", .fieldLink RX9 11 "BuoyVote$Tape" "bytes" "[I", .methodLink RX9 25 yX9_refuse, .instanceMethod yX9_refuse, .selects RX9 yX9_refuse yX9_refuse, .code yX9_refuse cX9_refuse 2 none, .fieldLink RX9 15 "BuoyVote$Tape" "wrong" "I"] wsX90)
theorem iw_c_X9_expectEnd_X9 : ∀ w ∈ wsX90, w ∈ wf_c_X9_expectEnd := fun w h => List.mem_cons_of_mem _ (List.mem_append_right _ h)
set_option maxRecDepth 20000 in
theorem gf_c_X9_expectEnd_c_X9_peek : GoodIn wf_c_X9_expectEnd (wsV RX9 29 RX9 yX9_peek wf_c_X9_peek) := goodIn_app (gi_l [1, 2, 3, 4] rfl rfl) (gi_cons (j := 5) rfl rfl (goodIn_app (gi_l [6, 7, 8] rfl rfl) (goodIn_sub iw_c_X9_expectEnd_X9 gw_X9)))
set_option maxRecDepth 20000 in
theorem gf_c_X9_expectEnd_c_X9_refuse_1 : GoodIn wf_c_X9_expectEnd (wsV RX9 25 RX9 yX9_refuse wf_c_X9_refuse_1) := goodIn_app (gi_l [9, 10, 11, 4] rfl rfl) (gi_cons (j := 12) rfl rfl (goodIn_app (gi_l [13] rfl rfl) (goodIn_sub iw_c_X9_expectEnd_X9 gw_X9)))
set_option maxHeartbeats 4000000 in
set_option maxRecDepth 100000 in
theorem c_X9_expectEnd (l : Launch) (dC : Nat → ClassId) (dI : Nat → Nat → Nat) (sz : Nat) (h0 : Nat) (h0_0 : Nat) (h0_f1 : Int32) (h0_f2 : Int32) (h0_f3 : Int32) (h0_0k : ClassId) (h0_0c : Nat → Int32) (g_h0_f1 : RG h0_f1 0 240) (g_h0_f2 : RG h0_f2 0 240) (g_h0_f3 : RG h0_f3 (-1) 240) (a_h0_0c : AI h0_0c 0 255) : Met l yX9_expectEnd wf_c_X9_expectEnd ({ frames := 1, cells := 0, slots := 0, locals := 21 }) (va_Pc [.ref h0] (fun U => U.heap.size = sz ∧ va_P (dC, dI) vwCl (wd_c_X9_expectEnd h0 h0_0 h0_f1 h0_f2 h0_f3 h0_0 h0_0k h0_0c) U.heap ∧ va_K (dC, dI) vwCl [(h0_0k, .int)] U ∧ va_D (fun _ => True) (wd_c_X9_expectEnd h0 h0_0 h0_f1 h0_f2 h0_f3 h0_0 h0_0k h0_0c))) (va_Qv (fun (u : (Int32) × (Int32)) => (RG u.1 0 240 ∧ RG u.2 (-1) 240 ∧ h0_f2.toInt + 0 ≤ (u.1).toInt)) (fun (u : (Int32) × (Int32)) t => va_P (dC, dI) vwCl (wd_c_X9_expectEnd h0 h0_0 h0_f1 (u.1) (u.2) h0_0 h0_0k h0_0c) t.heap ∧ va_K (dC, dI) vwCl [] t ∧ va_D (va_A (wd_c_X9_expectEnd h0 h0_0 h0_f1 h0_f2 h0_f3 h0_0 h0_0k h0_0c) sz) (wd_c_X9_expectEnd h0 h0_0 h0_f1 (u.1) (u.2) h0_0 h0_0k h0_0c)) (va_A (wd_c_X9_expectEnd h0 h0_0 h0_f1 h0_f2 h0_f3 h0_0 h0_0k h0_0c) sz)) 0 0 (va_A (wd_c_X9_expectEnd h0 h0_0 h0_f1 h0_f2 h0_f3 h0_0 h0_0k h0_0c) sz) := by
  refine Met.ofW (cc := cX9_expectEnd) (maxL := 1) (ret := none) (by decide +kernel) rfl ?_
  intro p e s m args below meth c s₁ B hml hv
  obtain ⟨rfl, hsz, hP, hK, hD0⟩ := hv
  have hx := B.exec
  have hb := B.bytes
  have hr := B.returns
  have hts := atoms_spec (ws := wf_c_X9_expectEnd) B.pre
  have hown : s.vm.findClass RX9 = some m.cls := findClass_of_methodNamed B.named
  have hlocks := B.notSynchronized
  subst hsz
  have hD := hD0.self (sz := s.heap.size)
  generalize hAe : va_A (wd_c_X9_expectEnd h0 h0_0 h0_f1 h0_f2 h0_f3 h0_0 h0_0k h0_0c) s.heap.size = A at hD ⊢
  have hA : ∀ q : Nat, s.heap.size ≤ q → A q := fun q h => by rw [← hAe]; exact Or.inr h
  have hP : va_P (dC, dI) vwCl (wd_c_X9_expectEnd h0 h0_0 h0_f1 h0_f2 h0_f3 h0_0 h0_0k h0_0c) s.heap := hP
  have hl := lv_entry ([.ref h0]) (n := 1) (Nat.le_of_ble_eq_true rfl)
  rw [lg_entry_eq]
  generalize (lg_sl ([.ref h0]) ++ List.replicate (1 - (lg_sl ([.ref h0])).length) Slot.unset).toArray = ls at hl ⊢
  have hl : lv_has ls 1 [(0, .ref h0)] := hl
  obtain ⟨H, hHe⟩ : ∃ H : Heap, s.heap = H := ⟨_, rfl⟩
  have hS : va_S A s.heap H [] := by rw [hHe]; exact va_S.rf
  have hP : va_P (dC, dI) vwCl (wd_c_X9_expectEnd h0 h0_0 h0_f1 h0_f2 h0_f3 h0_0 h0_0k h0_0c) H := by rw [← hHe]; exact hP
  rw [hHe]
  refine lv_aload_n hx hb dX9_expectEnd_0 rfl (lv_at hl 0 rfl) ?_
  as_aux_lemma =>
  obtain ⟨hPc, hDc, hFc, hqc⟩ := cl_cut (wc := (wd_c_X9_peek h0 h0_0 h0_f1 h0_f2 h0_f3 h0_0 h0_0k h0_0c)) hP hD hS hA [0, 1] (by decide +kernel) rfl
  have hKc := hK.sub (tys' := [(h0_0k, .int)]) [0] rfl
  have hrv := va_recv hKc hPc (ci := 9) (q0 := 0) rfl rfl
  refine va_calli (va_runV (As := []) (rest := []) ⟨hx, hb, hml, hown, hts⟩ (c_X9_peek l dC dI H.size h0 h0_0 h0_f1 h0_f2 h0_f3 h0_0k h0_0c g_h0_f1 g_h0_f2 g_h0_f3 a_h0_0c) (cwV 0 hts gf_c_X9_expectEnd_c_X9_peek rfl rfl rfl mdV_X9_peek ⟨Nat.le_of_ble_eq_true rfl, Nat.le_of_ble_eq_true rfl⟩) ⟨fun a U g mk q => by obtain ⟨q0, q1, qP, qK, qD⟩ := q; exact ⟨q0, q1, qP, va_K.moved (u := U) (U := U.calling g mk a) (Vm.Alike.refl U.vm) qK, qD⟩, hrv, fun U hU hW => ⟨rfl, by rw [hU], by rw [hU]; exact hPc, va_K.moved hW.alike hKc, hDc.weaken (fun _ _ _ _ => trivial)⟩⟩ rfl rfl hl.1 rfl (lv_room (Nat.le_of_ble_eq_true rfl)) dX9_expectEnd_1 ⟨Nat.le_of_ble_eq_true rfl, Nat.le_of_ble_eq_true rfl⟩) hS (fun q _ h => hFc q h) hFc (fun r_1 x_2 t H1 locs ht hvm hw hB hz1 hk1 hS => ?_)
  obtain ⟨hP1, hK1, hD1⟩ := hB
  rw [ht] at hP1
  obtain ⟨hP, hD⟩ := cl_put (w1 := (wd_c_X9_peek h0 h0_0 h0_f1 x_2 h0_f3 h0_0 h0_0k h0_0c)) (nw := (wd_c_X9_expectEnd h0 h0_0 h0_f1 x_2 h0_f3 h0_0 h0_0k h0_0c)) hP hD [0, 1] [2, 3] 2 rfl hqc (by decide +kernel) rfl hk1 hFc hP1 hD1
  generalize H1 = H at hP hS ⊢
  as_aux_lemma =>
  rcases hw with ⟨h_3, h_4, h_5⟩ | ⟨h_6, h_7, h_8, h_9⟩
  · rw [h_3]
    refine lv_iconst (v := (-1)) hx hb dX9_expectEnd_4 kc_iconst_m1 ?_
    refine lv_icmp_eq (tgt := 16) hx hb dX9_expectEnd_5 rfl (fun c_10 => ?_) (fun c_10 => absurd c_10 (by decide +kernel))
    have hK9 := hK.sub (tys' := []) [] rfl
    exact W.vret hx hb hr (fun t ht hW => ⟨⟨(x_2, h0_f3), rfl, ⟨h_4, g_h0_f3, (by have := h_5; show h0_f2.toInt + 0 ≤ x_2.toInt; omega)⟩, by rw [ht]; exact hP, va_K.moved hW.alike hK9, hD⟩, hS.F ht⟩) hS.2.2 dX9_expectEnd_16
  · refine lv_iconst (v := (-1)) hx hb dX9_expectEnd_4 kc_iconst_m1 ?_
    refine lv_icmp_eq (tgt := 16) hx hb dX9_expectEnd_5 rfl (fun c_11 => ?_) (fun c_11 => ?_)
    · exact RG_dead (RG_eq1 h_6 (RG_k (-1) (-1) rfl) c_11 (a' := 0) (b' := (-1)) (by decide +kernel)) (by decide +kernel)
    · refine lv_aload_n hx hb dX9_expectEnd_8 rfl (lv_at hl 0 rfl) ?_
      refine lv_aload_n hx hb dX9_expectEnd_9 rfl (lv_at hl 0 rfl) ?_
      refine va_get (D := (dC, dI)) (ci := 9) (v := .int x_2) (C := RX9) (T := TX9) (N := 4) hx hb hts iw_c_X9_expectEnd_X9 hown hK hP 0 rfl rfl 2 (by decide +kernel) (hts (.fieldLink RX9 22 "BuoyVote$Tape" "at" "I") (List.mem_of_getElem? (i := 6) rfl)) (fun _ h9 => h9) rfl dX9_expectEnd_10 ?_
      obtain ⟨hPc, hDc, hFc, hqc⟩ := cl_cut (wc := (wd_c_X9_refuse_1 h0 h0_0 h0_f1 x_2 h0_f3)) hP hD hS hA [0] (by decide +kernel) rfl
      have hKc := hK.sub (tys' := []) [] rfl
      have hrv := va_recv hKc hPc (ci := 9) (q0 := 0) rfl rfl
      refine va_callv (va_runV (As := [.int x_2]) (rest := []) ⟨hx, hb, hml, hown, hts⟩ (c_X9_refuse_1 l dC dI H.size h0 x_2 h0_0 h0_f1 x_2 h0_f3 h_7 (RG_w h_8 (by decide +kernel)) (RG_w h_7 (by decide +kernel)) g_h0_f3) (cwV 1 hts gf_c_X9_expectEnd_c_X9_refuse_1 rfl rfl rfl mdV_X9_refuse ⟨Nat.le_of_ble_eq_true rfl, Nat.le_of_ble_eq_true rfl⟩) ⟨fun a U g mk q => by obtain ⟨q0, q1, qP, qK, qD⟩ := q; exact ⟨q0, q1, qP, va_K.moved (u := U) (U := U.calling g mk a) (Vm.Alike.refl U.vm) qK, qD⟩, hrv, fun U hU hW => ⟨rfl, by rw [hU], by rw [hU]; exact hPc, va_K.moved hW.alike hKc, hDc.weaken (fun _ _ _ _ => trivial)⟩⟩ rfl rfl hl.1 rfl (lv_room (Nat.le_of_ble_eq_true rfl)) dX9_expectEnd_13 ⟨Nat.le_of_ble_eq_true rfl, Nat.le_of_ble_eq_true rfl⟩) hS (fun q _ h => hFc q h) hFc (fun x_13 t H1 locs ht hvm hw hB hz1 hk1 hS => ?_)
      as_aux_lemma =>
      obtain ⟨hP1, hK1, hD1⟩ := hB
      rw [ht] at hP1
      obtain ⟨hP, hD⟩ := cl_put (w1 := (wd_c_X9_refuse_1 h0 h0_0 h0_f1 x_2 x_13)) (nw := (wd_c_X9_expectEnd h0 h0_0 h0_f1 x_2 x_13 h0_0 h0_0k h0_0c)) hP hD [0] [2, 1] 2 rfl hqc (by decide +kernel) rfl hk1 hFc hP1 hD1
      generalize H1 = H at hP hS ⊢
      as_aux_lemma =>
      have h_14 := hw
      have hK9 := hK.sub (tys' := []) [] rfl
      exact W.vret hx hb hr (fun t ht hW => ⟨⟨(x_2, x_13), rfl, ⟨(RG_w h_7 (by decide +kernel)), (RG_w h_14 (by decide +kernel)), (by have := h_9; show h0_f2.toInt + 0 ≤ x_2.toInt; omega)⟩, by rw [ht]; exact hP, va_K.moved hW.alike hK9, hD⟩, hS.F ht⟩) hS.2.2 dX9_expectEnd_16
noncomputable def wd_c_X0_buoyX (a0 : Nat) (a1 : Nat) (a2 : Int32) (a3 : Int32) (a4 : Int32) (a5 : Nat) (a6 : ClassId) (a7 : Nat → Int32) : va_W := [(a0, .inr (0, [.ref a1, .int a2, .int a3, .int a4])), (a5, .inl (a6, 80, .inl a7))]
noncomputable def wf_c_X0_buoyX : List Cond := List.cons (.code yX0_buoyX cX0_buoyX 2 (some .int)) (@HAppend.hAppend (List Cond) (List Cond) (List Cond) _ [.fieldLink RX0 11 "BuoyVote$Borough" "values" "[I"] wsX00)
theorem iw_c_X0_buoyX_X0 : ∀ w ∈ wsX00, w ∈ wf_c_X0_buoyX := fun w h => List.mem_cons_of_mem _ (List.mem_append_right _ h)
set_option maxHeartbeats 4000000 in
set_option maxRecDepth 100000 in
theorem c_X0_buoyX (l : Launch) (dC : Nat → ClassId) (dI : Nat → Nat → Nat) (sz : Nat) (h0 : Nat) (p1 : Int32) (h0_0 : Nat) (h0_f1 : Int32) (h0_f2 : Int32) (h0_f3 : Int32) (h0_0k : ClassId) (h0_0c : Nat → Int32) (g_p1 : RG p1 0 7) (g_h0_f1 : RG h0_f1 0 8) (g_h0_f2 : RG h0_f2 0 3) (g_h0_f3 : RG h0_f3 0 1) (a_h0_0c : AI h0_0c (-1) 99) : Met l yX0_buoyX wf_c_X0_buoyX ({ frames := 0, cells := 0, slots := 0, locals := 0 }) (va_Pc [.ref h0, .int p1] (fun U => U.heap.size = sz ∧ va_P (dC, dI) vwCl (wd_c_X0_buoyX h0 h0_0 h0_f1 h0_f2 h0_f3 h0_0 h0_0k h0_0c) U.heap ∧ va_K (dC, dI) vwCl [(h0_0k, .int)] U ∧ va_D (fun _ => True) (wd_c_X0_buoyX h0 h0_0 h0_f1 h0_f2 h0_f3 h0_0 h0_0k h0_0c))) (va_Qi (fun (r : Int32) (u : Unit) => (RG r (-1) 99)) (fun (u : Unit) t => va_P (dC, dI) vwCl (wd_c_X0_buoyX h0 h0_0 h0_f1 h0_f2 h0_f3 h0_0 h0_0k h0_0c) t.heap ∧ va_K (dC, dI) vwCl [] t ∧ va_D (va_A (wd_c_X0_buoyX h0 h0_0 h0_f1 h0_f2 h0_f3 h0_0 h0_0k h0_0c) sz) (wd_c_X0_buoyX h0 h0_0 h0_f1 h0_f2 h0_f3 h0_0 h0_0k h0_0c)) (va_A (wd_c_X0_buoyX h0 h0_0 h0_f1 h0_f2 h0_f3 h0_0 h0_0k h0_0c) sz)) 0 0 (va_A (wd_c_X0_buoyX h0 h0_0 h0_f1 h0_f2 h0_f3 h0_0 h0_0k h0_0c) sz) := by
  refine Met.ofW (cc := cX0_buoyX) (maxL := 2) (ret := (some .int)) (by decide +kernel) rfl ?_
  intro p e s m args below meth c s₁ B hml hv
  obtain ⟨rfl, hsz, hP, hK, hD0⟩ := hv
  have hx := B.exec
  have hb := B.bytes
  have hr := B.returns
  have hts := atoms_spec (ws := wf_c_X0_buoyX) B.pre
  have hown : s.vm.findClass RX0 = some m.cls := findClass_of_methodNamed B.named
  have hlocks := B.notSynchronized
  subst hsz
  have hD := hD0.self (sz := s.heap.size)
  generalize hAe : va_A (wd_c_X0_buoyX h0 h0_0 h0_f1 h0_f2 h0_f3 h0_0 h0_0k h0_0c) s.heap.size = A at hD ⊢
  have hA : ∀ q : Nat, s.heap.size ≤ q → A q := fun q h => by rw [← hAe]; exact Or.inr h
  have hP : va_P (dC, dI) vwCl (wd_c_X0_buoyX h0 h0_0 h0_f1 h0_f2 h0_f3 h0_0 h0_0k h0_0c) s.heap := hP
  have hl := lv_entry ([.ref h0, .int p1]) (n := 2) (Nat.le_of_ble_eq_true rfl)
  rw [lg_entry_eq]
  generalize (lg_sl ([.ref h0, .int p1]) ++ List.replicate (2 - (lg_sl ([.ref h0, .int p1])).length) Slot.unset).toArray = ls at hl ⊢
  have hl : lv_has ls 2 [(0, .ref h0), (1, .int p1)] := hl
  obtain ⟨H, hHe⟩ : ∃ H : Heap, s.heap = H := ⟨_, rfl⟩
  have hS : va_S A s.heap H [] := by rw [hHe]; exact va_S.rf
  have hP : va_P (dC, dI) vwCl (wd_c_X0_buoyX h0 h0_0 h0_f1 h0_f2 h0_f3 h0_0 h0_0k h0_0c) H := by rw [← hHe]; exact hP
  rw [hHe]
  refine lv_aload_n hx hb dX0_buoyX_0 rfl (lv_at hl 0 rfl) ?_
  as_aux_lemma =>
  refine va_get (D := (dC, dI)) (ci := 0) (v := .ref h0_0) (C := RX0) (T := TX0) (N := 4) hx hb hts iw_c_X0_buoyX_X0 hown hK hP 0 rfl rfl 0 (by decide +kernel) (hts (.fieldLink RX0 11 "BuoyVote$Borough" "values" "[I") (List.mem_of_getElem? (i := 1) rfl)) (fun _ h9 => h9) rfl dX0_buoyX_1 ?_
  refine lv_iconst (v := 4) hx hb dX0_buoyX_4 kc_iconst_4 ?_
  refine lv_iload_n hx hb dX0_buoyX_5 rfl (lv_at hl 1 rfl) ?_
  refine lv_bipush (v := 8) hx hb dX0_buoyX_6 kc_bipush_8 ?_
  refine lv_imul hx hb dX0_buoyX_8 ?_
  refine lv_topi (fun x_1 ex_1 => ?_)
  have g_2 : RG x_1 0 56 := RG_mulc ex_1 (q := 8) rfl g_p1 (by decide +kernel)
  refine lv_iadd hx hb dX0_buoyX_9 ?_
  refine lv_topi (fun x_3 ex_3 => ?_)
  have g_4 : RG x_3 4 60 := RG_add ex_3 (RG_k 4 4 rfl) g_2 (by decide +kernel)
  refine va_iald hx hb hK hP 1 0 rfl rfl (RG_in g_4 (by decide +kernel)) dX0_buoyX_10 ?_
  refine lv_topi (fun x_5 ex_5 => ?_)
  have g_6 : RG x_5 (-1) 99 := AI_rd a_h0_0c ex_5
  have hK9 := hK.sub (tys' := []) [] rfl
  exact W.iret (v := x_5) hx hb hr (fun t ht hW => ⟨⟨x_5, (), rfl, g_6, by rw [ht]; exact hP, va_K.moved hW.alike hK9, hD⟩, hS.F ht⟩) hS.2.2 dX0_buoyX_11
noncomputable def wd_c_X0_buoyY (a0 : Nat) (a1 : Nat) (a2 : Int32) (a3 : Int32) (a4 : Int32) (a5 : Nat) (a6 : ClassId) (a7 : Nat → Int32) : va_W := [(a0, .inr (0, [.ref a1, .int a2, .int a3, .int a4])), (a5, .inl (a6, 80, .inl a7))]
noncomputable def wf_c_X0_buoyY : List Cond := List.cons (.code yX0_buoyY cX0_buoyY 2 (some .int)) (@HAppend.hAppend (List Cond) (List Cond) (List Cond) _ [.fieldLink RX0 11 "BuoyVote$Borough" "values" "[I"] wsX00)
theorem iw_c_X0_buoyY_X0 : ∀ w ∈ wsX00, w ∈ wf_c_X0_buoyY := fun w h => List.mem_cons_of_mem _ (List.mem_append_right _ h)
set_option maxHeartbeats 4000000 in
set_option maxRecDepth 100000 in
theorem c_X0_buoyY (l : Launch) (dC : Nat → ClassId) (dI : Nat → Nat → Nat) (sz : Nat) (h0 : Nat) (p1 : Int32) (h0_0 : Nat) (h0_f1 : Int32) (h0_f2 : Int32) (h0_f3 : Int32) (h0_0k : ClassId) (h0_0c : Nat → Int32) (g_p1 : RG p1 0 7) (g_h0_f1 : RG h0_f1 0 8) (g_h0_f2 : RG h0_f2 0 3) (g_h0_f3 : RG h0_f3 0 1) (a_h0_0c : AI h0_0c (-1) 99) : Met l yX0_buoyY wf_c_X0_buoyY ({ frames := 0, cells := 0, slots := 0, locals := 0 }) (va_Pc [.ref h0, .int p1] (fun U => U.heap.size = sz ∧ va_P (dC, dI) vwCl (wd_c_X0_buoyY h0 h0_0 h0_f1 h0_f2 h0_f3 h0_0 h0_0k h0_0c) U.heap ∧ va_K (dC, dI) vwCl [(h0_0k, .int)] U ∧ va_D (fun _ => True) (wd_c_X0_buoyY h0 h0_0 h0_f1 h0_f2 h0_f3 h0_0 h0_0k h0_0c))) (va_Qi (fun (r : Int32) (u : Unit) => (RG r (-1) 99)) (fun (u : Unit) t => va_P (dC, dI) vwCl (wd_c_X0_buoyY h0 h0_0 h0_f1 h0_f2 h0_f3 h0_0 h0_0k h0_0c) t.heap ∧ va_K (dC, dI) vwCl [] t ∧ va_D (va_A (wd_c_X0_buoyY h0 h0_0 h0_f1 h0_f2 h0_f3 h0_0 h0_0k h0_0c) sz) (wd_c_X0_buoyY h0 h0_0 h0_f1 h0_f2 h0_f3 h0_0 h0_0k h0_0c)) (va_A (wd_c_X0_buoyY h0 h0_0 h0_f1 h0_f2 h0_f3 h0_0 h0_0k h0_0c) sz)) 0 0 (va_A (wd_c_X0_buoyY h0 h0_0 h0_f1 h0_f2 h0_f3 h0_0 h0_0k h0_0c) sz) := by
  refine Met.ofW (cc := cX0_buoyY) (maxL := 2) (ret := (some .int)) (by decide +kernel) rfl ?_
  intro p e s m args below meth c s₁ B hml hv
  obtain ⟨rfl, hsz, hP, hK, hD0⟩ := hv
  have hx := B.exec
  have hb := B.bytes
  have hr := B.returns
  have hts := atoms_spec (ws := wf_c_X0_buoyY) B.pre
  have hown : s.vm.findClass RX0 = some m.cls := findClass_of_methodNamed B.named
  have hlocks := B.notSynchronized
  subst hsz
  have hD := hD0.self (sz := s.heap.size)
  generalize hAe : va_A (wd_c_X0_buoyY h0 h0_0 h0_f1 h0_f2 h0_f3 h0_0 h0_0k h0_0c) s.heap.size = A at hD ⊢
  have hA : ∀ q : Nat, s.heap.size ≤ q → A q := fun q h => by rw [← hAe]; exact Or.inr h
  have hP : va_P (dC, dI) vwCl (wd_c_X0_buoyY h0 h0_0 h0_f1 h0_f2 h0_f3 h0_0 h0_0k h0_0c) s.heap := hP
  have hl := lv_entry ([.ref h0, .int p1]) (n := 2) (Nat.le_of_ble_eq_true rfl)
  rw [lg_entry_eq]
  generalize (lg_sl ([.ref h0, .int p1]) ++ List.replicate (2 - (lg_sl ([.ref h0, .int p1])).length) Slot.unset).toArray = ls at hl ⊢
  have hl : lv_has ls 2 [(0, .ref h0), (1, .int p1)] := hl
  obtain ⟨H, hHe⟩ : ∃ H : Heap, s.heap = H := ⟨_, rfl⟩
  have hS : va_S A s.heap H [] := by rw [hHe]; exact va_S.rf
  have hP : va_P (dC, dI) vwCl (wd_c_X0_buoyY h0 h0_0 h0_f1 h0_f2 h0_f3 h0_0 h0_0k h0_0c) H := by rw [← hHe]; exact hP
  rw [hHe]
  refine lv_aload_n hx hb dX0_buoyY_0 rfl (lv_at hl 0 rfl) ?_
  as_aux_lemma =>
  refine va_get (D := (dC, dI)) (ci := 0) (v := .ref h0_0) (C := RX0) (T := TX0) (N := 4) hx hb hts iw_c_X0_buoyY_X0 hown hK hP 0 rfl rfl 0 (by decide +kernel) (hts (.fieldLink RX0 11 "BuoyVote$Borough" "values" "[I") (List.mem_of_getElem? (i := 1) rfl)) (fun _ h9 => h9) rfl dX0_buoyY_1 ?_
  refine lv_iconst (v := 4) hx hb dX0_buoyY_4 kc_iconst_4 ?_
  refine lv_iload_n hx hb dX0_buoyY_5 rfl (lv_at hl 1 rfl) ?_
  refine lv_bipush (v := 8) hx hb dX0_buoyY_6 kc_bipush_8 ?_
  refine lv_imul hx hb dX0_buoyY_8 ?_
  refine lv_topi (fun x_1 ex_1 => ?_)
  have g_2 : RG x_1 0 56 := RG_mulc ex_1 (q := 8) rfl g_p1 (by decide +kernel)
  refine lv_iadd hx hb dX0_buoyY_9 ?_
  refine lv_topi (fun x_3 ex_3 => ?_)
  have g_4 : RG x_3 4 60 := RG_add ex_3 (RG_k 4 4 rfl) g_2 (by decide +kernel)
  refine lv_iconst (v := 1) hx hb dX0_buoyY_10 kc_iconst_1 ?_
  refine lv_iadd hx hb dX0_buoyY_11 ?_
  refine lv_topi (fun x_5 ex_5 => ?_)
  have g_6 : RG x_5 5 61 := RG_add ex_5 g_4 (RG_k 1 1 rfl) (by decide +kernel)
  refine va_iald hx hb hK hP 1 0 rfl rfl (RG_in g_6 (by decide +kernel)) dX0_buoyY_12 ?_
  as_aux_lemma =>
  refine lv_topi (fun x_7 ex_7 => ?_)
  have g_8 : RG x_7 (-1) 99 := AI_rd a_h0_0c ex_7
  have hK9 := hK.sub (tys' := []) [] rfl
  exact W.iret (v := x_7) hx hb hr (fun t ht hW => ⟨⟨x_7, (), rfl, g_8, by rw [ht]; exact hP, va_K.moved hW.alike hK9, hD⟩, hS.F ht⟩) hS.2.2 dX0_buoyY_13
noncomputable def wd_c_X0_isWhole (a0 : Nat) (a1 : Nat) (a2 : Int32) (a3 : Int32) (a4 : Int32) (a5 : Nat) (a6 : ClassId) (a7 : Nat → Int32) : va_W := [(a0, .inr (0, [.ref a1, .int a2, .int a3, .int a4])), (a5, .inl (a6, 80, .inl a7))]
noncomputable def wf_c_X0_isWhole : List Cond := List.cons (.code yX0_isWhole cX0_isWhole 3 (some .boolean)) (@HAppend.hAppend (List Cond) (List Cond) (List Cond) _ [.fieldLink RX0 21 "BuoyVote$Borough" "buoys" "I", .fieldLink RX0 25 "BuoyVote$Borough" "boats" "I", .methodLink RX0 116 yX0_buoyX, .instanceMethod yX0_buoyX, .selects RX0 yX0_buoyX yX0_buoyX, .initialized RX0, .code yX0_buoyX cX0_buoyX 2 (some .int), .fieldLink RX0 11 "BuoyVote$Borough" "values" "[I", .methodLink RX0 119 yX0_buoyY, .instanceMethod yX0_buoyY, .selects RX0 yX0_buoyY yX0_buoyY, .code yX0_buoyY cX0_buoyY 2 (some .int)] wsX00)
theorem iw_c_X0_isWhole_X0 : ∀ w ∈ wsX00, w ∈ wf_c_X0_isWhole := fun w h => List.mem_cons_of_mem _ (List.mem_append_right _ h)
set_option maxRecDepth 20000 in
theorem gf_c_X0_isWhole_c_X0_buoyX : GoodIn wf_c_X0_isWhole (wsV RX0 116 RX0 yX0_buoyX wf_c_X0_buoyX) := goodIn_app (gi_l [3, 4, 5, 6] rfl rfl) (gi_cons (j := 7) rfl rfl (goodIn_app (gi_l [8] rfl rfl) (goodIn_sub iw_c_X0_isWhole_X0 gw_X0)))
set_option maxRecDepth 20000 in
theorem gf_c_X0_isWhole_c_X0_buoyY : GoodIn wf_c_X0_isWhole (wsV RX0 119 RX0 yX0_buoyY wf_c_X0_buoyY) := goodIn_app (gi_l [9, 10, 11, 6] rfl rfl) (gi_cons (j := 12) rfl rfl (goodIn_app (gi_l [8] rfl rfl) (goodIn_sub iw_c_X0_isWhole_X0 gw_X0)))
set_option maxHeartbeats 4000000 in
set_option maxRecDepth 100000 in
theorem c_X0_isWhole (l : Launch) (dC : Nat → ClassId) (dI : Nat → Nat → Nat) (sz : Nat) (h0 : Nat) (h0_0 : Nat) (h0_f1 : Int32) (h0_f2 : Int32) (h0_f3 : Int32) (h0_0k : ClassId) (h0_0c : Nat → Int32) (g_h0_f1 : RG h0_f1 0 8) (g_h0_f2 : RG h0_f2 0 3) (g_h0_f3 : RG h0_f3 0 1) (a_h0_0c : AI h0_0c (-1) 99) : Met l yX0_isWhole wf_c_X0_isWhole ({ frames := 1, cells := 0, slots := 0, locals := 21 }) (va_Pc [.ref h0] (fun U => U.heap.size = sz ∧ va_P (dC, dI) vwCl (wd_c_X0_isWhole h0 h0_0 h0_f1 h0_f2 h0_f3 h0_0 h0_0k h0_0c) U.heap ∧ va_K (dC, dI) vwCl [(h0_0k, .int)] U ∧ va_D (fun _ => True) (wd_c_X0_isWhole h0 h0_0 h0_f1 h0_f2 h0_f3 h0_0 h0_0k h0_0c))) (va_Qi (fun (r : Int32) (u : Unit) => (r = 0) ∨ (r = 1 ∧ RG h0_f1 1 8 ∧ RG h0_f2 2 3)) (fun (u : Unit) t => va_P (dC, dI) vwCl (wd_c_X0_isWhole h0 h0_0 h0_f1 h0_f2 h0_f3 h0_0 h0_0k h0_0c) t.heap ∧ va_K (dC, dI) vwCl [] t ∧ va_D (va_A (wd_c_X0_isWhole h0 h0_0 h0_f1 h0_f2 h0_f3 h0_0 h0_0k h0_0c) sz) (wd_c_X0_isWhole h0 h0_0 h0_f1 h0_f2 h0_f3 h0_0 h0_0k h0_0c)) (va_A (wd_c_X0_isWhole h0 h0_0 h0_f1 h0_f2 h0_f3 h0_0 h0_0k h0_0c) sz)) 0 0 (va_A (wd_c_X0_isWhole h0 h0_0 h0_f1 h0_f2 h0_f3 h0_0 h0_0k h0_0c) sz) := by
  refine Met.ofW (cc := cX0_isWhole) (maxL := 3) (ret := (some .boolean)) (by decide +kernel) rfl ?_
  intro p e s m args below meth c s₁ B hml hv
  obtain ⟨rfl, hsz, hP, hK, hD0⟩ := hv
  have hx := B.exec
  have hb := B.bytes
  have hr := B.returns
  have hts := atoms_spec (ws := wf_c_X0_isWhole) B.pre
  have hown : s.vm.findClass RX0 = some m.cls := findClass_of_methodNamed B.named
  have hlocks := B.notSynchronized
  subst hsz
  have hD := hD0.self (sz := s.heap.size)
  generalize hAe : va_A (wd_c_X0_isWhole h0 h0_0 h0_f1 h0_f2 h0_f3 h0_0 h0_0k h0_0c) s.heap.size = A at hD ⊢
  have hA : ∀ q : Nat, s.heap.size ≤ q → A q := fun q h => by rw [← hAe]; exact Or.inr h
  have hP : va_P (dC, dI) vwCl (wd_c_X0_isWhole h0 h0_0 h0_f1 h0_f2 h0_f3 h0_0 h0_0k h0_0c) s.heap := hP
  have hl := lv_entry ([.ref h0]) (n := 3) (Nat.le_of_ble_eq_true rfl)
  rw [lg_entry_eq]
  generalize (lg_sl ([.ref h0]) ++ List.replicate (3 - (lg_sl ([.ref h0])).length) Slot.unset).toArray = ls at hl ⊢
  have hl : lv_has ls 3 [(0, .ref h0)] := hl
  obtain ⟨H, hHe⟩ : ∃ H : Heap, s.heap = H := ⟨_, rfl⟩
  have hS : va_S A s.heap H [] := by rw [hHe]; exact va_S.rf
  have hP : va_P (dC, dI) vwCl (wd_c_X0_isWhole h0 h0_0 h0_f1 h0_f2 h0_f3 h0_0 h0_0k h0_0c) H := by rw [← hHe]; exact hP
  rw [hHe]
  refine wj (fun G hG hU => ?_)
  as_aux_lemma =>
  have J20 : ∀ (n20 : Nat) (j20_l1 : Int32) (hM20 : MU j20_l1 < n20) (g_h0_f1 : RG h0_f1 1 8) (g_h0_f2 : RG h0_f2 2 3) (g_h0_f3 : RG h0_f3 0 1) (g_j20_l1 : RG j20_l1 0 8) (H : Heap) (locs : List Loc) (ls : Array Slot) (hP : va_P (dC, dI) vwCl (wd_c_X0_isWhole h0 h0_0 h0_f1 h0_f2 h0_f3 h0_0 h0_0k h0_0c) H) (hD : va_D A (wd_c_X0_isWhole h0 h0_0 h0_f1 h0_f2 h0_f3 h0_0 h0_0k h0_0c)) (hS : va_S A s.heap H locs) (hl : lv_has ls 3 [(1, .int j20_l1), (0, .ref h0)]), G H locs (F0 m 20 ls []) := by
    as_aux_lemma =>
    intro n20
    induction n20 with
    | zero => intros; exact absurd (by assumption) (Nat.not_lt_zero _)
    | succ n20 ih20 =>
      intro j20_l1 hM20 g_h0_f1 g_h0_f2 g_h0_f3 g_j20_l1 H locs ls hP hD hS hl
      have J30 : ∀ (n30 : Nat) (j30_l2 : Int32) (hM30 : MU j30_l2 < n30) (g_h0_f1 : RG h0_f1 1 8) (g_h0_f2 : RG h0_f2 2 3) (g_h0_f3 : RG h0_f3 0 1) (g_j20_l1 : RG j20_l1 0 7) (g_j30_l2 : RG j30_l2 0 7) (H : Heap) (locs : List Loc) (ls : Array Slot) (hP : va_P (dC, dI) vwCl (wd_c_X0_isWhole h0 h0_0 h0_f1 h0_f2 h0_f3 h0_0 h0_0k h0_0c) H) (hD : va_D A (wd_c_X0_isWhole h0 h0_0 h0_f1 h0_f2 h0_f3 h0_0 h0_0k h0_0c)) (hS : va_S A s.heap H locs) (hl : lv_has ls 3 [(2, .int j30_l2), (1, .int j20_l1), (0, .ref h0)]), G H locs (F0 m 30 ls []) := by
        as_aux_lemma =>
        intro n30
        induction n30 with
        | zero => intros; exact absurd (by assumption) (Nat.not_lt_zero _)
        | succ n30 ih30 =>
          intro j30_l2 hM30 g_h0_f1 g_h0_f2 g_h0_f3 g_j20_l1 g_j30_l2 H locs ls hP hD hS hl
          have J63 : ∀ (g_h0_f1 : RG h0_f1 1 8) (g_h0_f2 : RG h0_f2 2 3) (g_h0_f3 : RG h0_f3 0 1) (g_j20_l1 : RG j20_l1 1 7) (g_j30_l2 : RG j30_l2 0 6) (H : Heap) (locs : List Loc) (ls : Array Slot) (hP : va_P (dC, dI) vwCl (wd_c_X0_isWhole h0 h0_0 h0_f1 h0_f2 h0_f3 h0_0 h0_0k h0_0c) H) (hD : va_D A (wd_c_X0_isWhole h0 h0_0 h0_f1 h0_f2 h0_f3 h0_0 h0_0k h0_0c)) (hS : va_S A s.heap H locs) (hl : lv_has ls 3 [(2, .int j30_l2), (1, .int j20_l1), (0, .ref h0)]), G H locs (F0 m 63 ls []) := by
            as_aux_lemma =>
            intro g_h0_f1 g_h0_f2 g_h0_f3 g_j20_l1 g_j30_l2 H locs ls hP hD hS hl
            refine hG _ _ _ ?_
            obtain ⟨x_1, ex_1⟩ : ∃ y : Int32, y = j30_l2 + 1 := ⟨_, rfl⟩
            have g_2 : RG x_1 1 7 := RG_add ex_1 g_j30_l2 (RG_k 1 1 rfl) (by decide +kernel)
            refine lv_iinc (v := x_1) (lv' := [(2, .int x_1), (1, .int j20_l1), (0, .ref h0)]) hx hb dX0_isWhole_63 hl (k := 0) rfl (by rw [ex_1]; rfl) (Nat.le_of_ble_eq_true rfl) rfl (fun ls hl => ?_)
            refine lv_goto (tgt := 30) hx hb dX0_isWhole_66 rfl ?_
            exact hU _ _ _ (ih30 x_1 (mu_s (MU_add ex_1 g_j30_l2 (q := 1) rfl (by decide +kernel)) hM30) g_h0_f1 g_h0_f2 g_h0_f3 (RG_w g_j20_l1 (by decide +kernel)) (RG_w g_2 (by decide +kernel)) _ _ _ hP hD hS (lv_sub hl [0, 1, 2] rfl))
          refine hG _ _ _ ?_
          refine lv_iload_n hx hb dX0_isWhole_30 rfl (lv_at hl 0 rfl) ?_
          refine lv_iload_n hx hb dX0_isWhole_31 rfl (lv_at hl 1 rfl) ?_
          refine lv_icmp_ge (tgt := 69) hx hb dX0_isWhole_32 rfl (fun c_3 => ?_) (fun c_3 => ?_)
          · obtain ⟨x_4, ex_4⟩ : ∃ y : Int32, y = j20_l1 + 1 := ⟨_, rfl⟩
            have g_5 : RG x_4 1 8 := RG_add ex_4 g_j20_l1 (RG_k 1 1 rfl) (by decide +kernel)
            refine lv_iinc (v := x_4) (lv' := [(1, .int x_4), (2, .int j30_l2), (0, .ref h0)]) hx hb dX0_isWhole_69 hl (k := 1) rfl (by rw [ex_4]; rfl) (Nat.le_of_ble_eq_true rfl) rfl (fun ls hl => ?_)
            as_aux_lemma =>
            refine lv_goto (tgt := 20) hx hb dX0_isWhole_72 rfl ?_
            exact hU _ _ _ (ih20 x_4 (mu_s (MU_add ex_4 g_j20_l1 (q := 1) rfl (by decide +kernel)) hM20) g_h0_f1 g_h0_f2 g_h0_f3 (RG_w g_5 (by decide +kernel)) _ _ _ hP hD hS (lv_sub hl [0, 2] rfl))
          · have d_6 := Int32.not_le.mp c_3
            have g_7 : RG j30_l2 0 6 := RG_lt1 g_j30_l2 g_j20_l1 d_6 (by decide +kernel)
            have g_8 : RG j20_l1 1 7 := RG_lt2 g_j30_l2 g_j20_l1 d_6 (by decide +kernel)
            refine lv_aload_n hx hb dX0_isWhole_35 rfl (lv_at hl 2 rfl) ?_
            refine lv_iload_n hx hb dX0_isWhole_36 rfl (lv_at hl 1 rfl) ?_
            obtain ⟨hPc, hDc, hFc, hqc⟩ := cl_cut (wc := (wd_c_X0_buoyX h0 h0_0 h0_f1 h0_f2 h0_f3 h0_0 h0_0k h0_0c)) hP hD hS hA [0, 1] (by decide +kernel) rfl
            have hKc := hK.sub (tys' := [(h0_0k, .int)]) [0] rfl
            have hrv := va_recv hKc hPc (ci := 0) (q0 := 0) rfl rfl
            refine va_calli (va_runV (As := [.int j20_l1]) (rest := []) ⟨hx, hb, hml, hown, hts⟩ (c_X0_buoyX l dC dI H.size h0 j20_l1 h0_0 h0_f1 h0_f2 h0_f3 h0_0k h0_0c (RG_w g_8 (by decide +kernel)) (RG_w g_h0_f1 (by decide +kernel)) (RG_w g_h0_f2 (by decide +kernel)) g_h0_f3 a_h0_0c) (cwV 1 hts gf_c_X0_isWhole_c_X0_buoyX rfl rfl rfl mdV_X0_buoyX ⟨Nat.le_of_ble_eq_true rfl, Nat.le_of_ble_eq_true rfl⟩) ⟨fun a U g mk q => by obtain ⟨q0, q1, qP, qK, qD⟩ := q; exact ⟨q0, q1, qP, va_K.moved (u := U) (U := U.calling g mk a) (Vm.Alike.refl U.vm) qK, qD⟩, hrv, fun U hU hW => ⟨rfl, by rw [hU], by rw [hU]; exact hPc, va_K.moved hW.alike hKc, hDc.weaken (fun _ _ _ _ => trivial)⟩⟩ rfl rfl hl.1 rfl (lv_room (Nat.le_of_ble_eq_true rfl)) dX0_isWhole_37 ⟨Nat.le_of_ble_eq_true rfl, Nat.le_of_ble_eq_true rfl⟩) hS (fun q _ h => hFc q h) hFc (fun r_9 u t H1 locs ht hvm hw hB hz1 hk1 hS => ?_)
            obtain ⟨hP1, hK1, hD1⟩ := hB
            rw [ht] at hP1
            obtain ⟨hP, hD⟩ := cl_put (w1 := (wd_c_X0_buoyX h0 h0_0 h0_f1 h0_f2 h0_f3 h0_0 h0_0k h0_0c)) (nw := (wd_c_X0_isWhole h0 h0_0 h0_f1 h0_f2 h0_f3 h0_0 h0_0k h0_0c)) hP hD [0, 1] [2, 3] 2 rfl hqc (by decide +kernel) rfl hk1 hFc hP1 hD1
            generalize H1 = H at hP hS ⊢
            as_aux_lemma =>
            have h_10 := hw
            refine lv_aload_n hx hb dX0_isWhole_40 rfl (lv_at hl 2 rfl) ?_
            refine lv_iload_n hx hb dX0_isWhole_41 rfl (lv_at hl 0 rfl) ?_
            obtain ⟨hPc, hDc, hFc, hqc⟩ := cl_cut (wc := (wd_c_X0_buoyX h0 h0_0 h0_f1 h0_f2 h0_f3 h0_0 h0_0k h0_0c)) hP hD hS hA [0, 1] (by decide +kernel) rfl
            have hKc := hK.sub (tys' := [(h0_0k, .int)]) [0] rfl
            have hrv := va_recv hKc hPc (ci := 0) (q0 := 0) rfl rfl
            refine va_calli (va_runV (As := [.int j30_l2]) (rest := [.int r_9]) ⟨hx, hb, hml, hown, hts⟩ (c_X0_buoyX l dC dI H.size h0 j30_l2 h0_0 h0_f1 h0_f2 h0_f3 h0_0k h0_0c (RG_w g_7 (by decide +kernel)) (RG_w g_h0_f1 (by decide +kernel)) (RG_w g_h0_f2 (by decide +kernel)) g_h0_f3 a_h0_0c) (cwV 1 hts gf_c_X0_isWhole_c_X0_buoyX rfl rfl rfl mdV_X0_buoyX ⟨Nat.le_of_ble_eq_true rfl, Nat.le_of_ble_eq_true rfl⟩) ⟨fun a U g mk q => by obtain ⟨q0, q1, qP, qK, qD⟩ := q; exact ⟨q0, q1, qP, va_K.moved (u := U) (U := U.calling g mk a) (Vm.Alike.refl U.vm) qK, qD⟩, hrv, fun U hU hW => ⟨rfl, by rw [hU], by rw [hU]; exact hPc, va_K.moved hW.alike hKc, hDc.weaken (fun _ _ _ _ => trivial)⟩⟩ rfl rfl hl.1 rfl (lv_room (Nat.le_of_ble_eq_true rfl)) dX0_isWhole_42 ⟨Nat.le_of_ble_eq_true rfl, Nat.le_of_ble_eq_true rfl⟩) hS (fun q _ h => hFc q h) hFc (fun r_11 u t H1 locs ht hvm hw hB hz1 hk1 hS => ?_)
            obtain ⟨hP1, hK1, hD1⟩ := hB
            rw [ht] at hP1
            obtain ⟨hP, hD⟩ := cl_put (w1 := (wd_c_X0_buoyX h0 h0_0 h0_f1 h0_f2 h0_f3 h0_0 h0_0k h0_0c)) (nw := (wd_c_X0_isWhole h0 h0_0 h0_f1 h0_f2 h0_f3 h0_0 h0_0k h0_0c)) hP hD [0, 1] [2, 3] 2 rfl hqc (by decide +kernel) rfl hk1 hFc hP1 hD1
            generalize H1 = H at hP hS ⊢
            as_aux_lemma =>
            have h_12 := hw
            refine lv_icmp_ne (tgt := 63) hx hb dX0_isWhole_45 rfl (fun c_13 => ?_) (fun c_13 => ?_)
            · exact hU _ _ _ (J63 g_h0_f1 g_h0_f2 g_h0_f3 g_8 g_7 _ _ _ hP hD hS (lv_sub hl [0, 1, 2] rfl))
            · refine lv_aload_n hx hb dX0_isWhole_48 rfl (lv_at hl 2 rfl) ?_
              refine lv_iload_n hx hb dX0_isWhole_49 rfl (lv_at hl 1 rfl) ?_
              obtain ⟨hPc, hDc, hFc, hqc⟩ := cl_cut (wc := (wd_c_X0_buoyY h0 h0_0 h0_f1 h0_f2 h0_f3 h0_0 h0_0k h0_0c)) hP hD hS hA [0, 1] (by decide +kernel) rfl
              have hKc := hK.sub (tys' := [(h0_0k, .int)]) [0] rfl
              have hrv := va_recv hKc hPc (ci := 0) (q0 := 0) rfl rfl
              refine va_calli (va_runV (As := [.int j20_l1]) (rest := []) ⟨hx, hb, hml, hown, hts⟩ (c_X0_buoyY l dC dI H.size h0 j20_l1 h0_0 h0_f1 h0_f2 h0_f3 h0_0k h0_0c (RG_w g_8 (by decide +kernel)) (RG_w g_h0_f1 (by decide +kernel)) (RG_w g_h0_f2 (by decide +kernel)) g_h0_f3 a_h0_0c) (cwV 1 hts gf_c_X0_isWhole_c_X0_buoyY rfl rfl rfl mdV_X0_buoyY ⟨Nat.le_of_ble_eq_true rfl, Nat.le_of_ble_eq_true rfl⟩) ⟨fun a U g mk q => by obtain ⟨q0, q1, qP, qK, qD⟩ := q; exact ⟨q0, q1, qP, va_K.moved (u := U) (U := U.calling g mk a) (Vm.Alike.refl U.vm) qK, qD⟩, hrv, fun U hU hW => ⟨rfl, by rw [hU], by rw [hU]; exact hPc, va_K.moved hW.alike hKc, hDc.weaken (fun _ _ _ _ => trivial)⟩⟩ rfl rfl hl.1 rfl (lv_room (Nat.le_of_ble_eq_true rfl)) dX0_isWhole_50 ⟨Nat.le_of_ble_eq_true rfl, Nat.le_of_ble_eq_true rfl⟩) hS (fun q _ h => hFc q h) hFc (fun r_14 u t H1 locs ht hvm hw hB hz1 hk1 hS => ?_)
              obtain ⟨hP1, hK1, hD1⟩ := hB
              rw [ht] at hP1
              obtain ⟨hP, hD⟩ := cl_put (w1 := (wd_c_X0_buoyY h0 h0_0 h0_f1 h0_f2 h0_f3 h0_0 h0_0k h0_0c)) (nw := (wd_c_X0_isWhole h0 h0_0 h0_f1 h0_f2 h0_f3 h0_0 h0_0k h0_0c)) hP hD [0, 1] [2, 3] 2 rfl hqc (by decide +kernel) rfl hk1 hFc hP1 hD1
              generalize H1 = H at hP hS ⊢
              as_aux_lemma =>
              have h_15 := hw
              refine lv_aload_n hx hb dX0_isWhole_53 rfl (lv_at hl 2 rfl) ?_
              refine lv_iload_n hx hb dX0_isWhole_54 rfl (lv_at hl 0 rfl) ?_
              obtain ⟨hPc, hDc, hFc, hqc⟩ := cl_cut (wc := (wd_c_X0_buoyY h0 h0_0 h0_f1 h0_f2 h0_f3 h0_0 h0_0k h0_0c)) hP hD hS hA [0, 1] (by decide +kernel) rfl
              have hKc := hK.sub (tys' := [(h0_0k, .int)]) [0] rfl
              have hrv := va_recv hKc hPc (ci := 0) (q0 := 0) rfl rfl
              refine va_calli (va_runV (As := [.int j30_l2]) (rest := [.int r_14]) ⟨hx, hb, hml, hown, hts⟩ (c_X0_buoyY l dC dI H.size h0 j30_l2 h0_0 h0_f1 h0_f2 h0_f3 h0_0k h0_0c (RG_w g_7 (by decide +kernel)) (RG_w g_h0_f1 (by decide +kernel)) (RG_w g_h0_f2 (by decide +kernel)) g_h0_f3 a_h0_0c) (cwV 1 hts gf_c_X0_isWhole_c_X0_buoyY rfl rfl rfl mdV_X0_buoyY ⟨Nat.le_of_ble_eq_true rfl, Nat.le_of_ble_eq_true rfl⟩) ⟨fun a U g mk q => by obtain ⟨q0, q1, qP, qK, qD⟩ := q; exact ⟨q0, q1, qP, va_K.moved (u := U) (U := U.calling g mk a) (Vm.Alike.refl U.vm) qK, qD⟩, hrv, fun U hU hW => ⟨rfl, by rw [hU], by rw [hU]; exact hPc, va_K.moved hW.alike hKc, hDc.weaken (fun _ _ _ _ => trivial)⟩⟩ rfl rfl hl.1 rfl (lv_room (Nat.le_of_ble_eq_true rfl)) dX0_isWhole_55 ⟨Nat.le_of_ble_eq_true rfl, Nat.le_of_ble_eq_true rfl⟩) hS (fun q _ h => hFc q h) hFc (fun r_16 u t H1 locs ht hvm hw hB hz1 hk1 hS => ?_)
              obtain ⟨hP1, hK1, hD1⟩ := hB
              rw [ht] at hP1
              obtain ⟨hP, hD⟩ := cl_put (w1 := (wd_c_X0_buoyY h0 h0_0 h0_f1 h0_f2 h0_f3 h0_0 h0_0k h0_0c)) (nw := (wd_c_X0_isWhole h0 h0_0 h0_f1 h0_f2 h0_f3 h0_0 h0_0k h0_0c)) hP hD [0, 1] [2, 3] 2 rfl hqc (by decide +kernel) rfl hk1 hFc hP1 hD1
              generalize H1 = H at hP hS ⊢
              as_aux_lemma =>
              have h_17 := hw
              refine lv_icmp_ne (tgt := 63) hx hb dX0_isWhole_58 rfl (fun c_18 => ?_) (fun c_18 => ?_)
              · exact hU _ _ _ (J63 g_h0_f1 g_h0_f2 g_h0_f3 g_8 g_7 _ _ _ hP hD hS (lv_sub hl [0, 1, 2] rfl))
              · refine lv_iconst (v := 0) hx hb dX0_isWhole_61 kc_iconst_0 ?_
                have hK9 := hK.sub (tys' := []) [] rfl
                exact W.zret (v := 0) hx hb hr rfl (fun t ht hW => ⟨⟨0, (), rfl, (Or.inl rfl), by rw [ht]; exact hP, va_K.moved hW.alike hK9, hD⟩, hS.F ht⟩) hS.2.2 dX0_isWhole_62
      refine hG _ _ _ ?_
      refine lv_iload_n hx hb dX0_isWhole_20 rfl (lv_at hl 0 rfl) ?_
      refine lv_aload_n hx hb dX0_isWhole_21 rfl (lv_at hl 1 rfl) ?_
      refine va_get (D := (dC, dI)) (ci := 0) (v := .int h0_f1) (C := RX0) (T := TX0) (N := 4) hx hb hts iw_c_X0_isWhole_X0 hown hK hP 0 rfl rfl 1 (by decide +kernel) (hts (.fieldLink RX0 21 "BuoyVote$Borough" "buoys" "I") (List.mem_of_getElem? (i := 1) rfl)) (fun _ h9 => h9) rfl dX0_isWhole_22 ?_
      refine lv_icmp_ge (tgt := 75) hx hb dX0_isWhole_25 rfl (fun c_19 => ?_) (fun c_19 => ?_)
      · have g_20 : RG j20_l1 1 8 := RG_le2 g_h0_f1 g_j20_l1 c_19 (by decide +kernel)
        refine lv_iconst (v := 1) hx hb dX0_isWhole_75 kc_iconst_1 ?_
        have hK9 := hK.sub (tys' := []) [] rfl
        exact W.zret (v := 1) hx hb hr rfl (fun t ht hW => ⟨⟨1, (), rfl, (Or.inr ⟨rfl, g_h0_f1, g_h0_f2⟩), by rw [ht]; exact hP, va_K.moved hW.alike hK9, hD⟩, hS.F ht⟩) hS.2.2 dX0_isWhole_76
      · have d_21 := Int32.not_le.mp c_19
        have g_22 : RG j20_l1 0 7 := RG_lt1 g_j20_l1 g_h0_f1 d_21 (by decide +kernel)
        refine lv_iconst (v := 0) hx hb dX0_isWhole_28 kc_iconst_0 ?_
        as_aux_lemma =>
        refine lv_istore_n (lv' := [(2, .int 0), (1, .int j20_l1), (0, .ref h0)]) hx hb dX0_isWhole_29 rfl hl (Nat.le_of_ble_eq_true rfl) rfl (fun ls hl => ?_)
        exact hU _ _ _ (J30 _ 0 (Nat.lt_succ_self _) g_h0_f1 g_h0_f2 g_h0_f3 g_22 (RG_w (RG_k 0 0 rfl) (by decide +kernel)) _ _ _ hP hD hS (lv_sub hl [0, 1, 2] rfl))
  refine hG _ _ _ ?_
  refine lv_aload_n hx hb dX0_isWhole_0 rfl (lv_at hl 0 rfl) ?_
  refine va_get (D := (dC, dI)) (ci := 0) (v := .int h0_f1) (C := RX0) (T := TX0) (N := 4) hx hb hts iw_c_X0_isWhole_X0 hown hK hP 0 rfl rfl 1 (by decide +kernel) (hts (.fieldLink RX0 21 "BuoyVote$Borough" "buoys" "I") (List.mem_of_getElem? (i := 1) rfl)) (fun _ h9 => h9) rfl dX0_isWhole_1 ?_
  refine lv_iconst (v := 1) hx hb dX0_isWhole_4 kc_iconst_1 ?_
  refine lv_icmp_lt (tgt := 16) hx hb dX0_isWhole_5 rfl (fun c_23 => ?_) (fun c_23 => ?_)
  · have g_24 : RG h0_f1 0 0 := RG_lt1 g_h0_f1 (RG_k 1 1 rfl) c_23 (by decide +kernel)
    refine lv_iconst (v := 0) hx hb dX0_isWhole_16 kc_iconst_0 ?_
    have hK9 := hK.sub (tys' := []) [] rfl
    exact W.zret (v := 0) hx hb hr rfl (fun t ht hW => ⟨⟨0, (), rfl, (Or.inl rfl), by rw [ht]; exact hP, va_K.moved hW.alike hK9, hD⟩, hS.F ht⟩) hS.2.2 dX0_isWhole_17
  · have d_25 := Int32.not_lt.mp c_23
    have g_26 : RG h0_f1 1 8 := RG_le2 (RG_k 1 1 rfl) g_h0_f1 d_25 (by decide +kernel)
    refine lv_aload_n hx hb dX0_isWhole_8 rfl (lv_at hl 0 rfl) ?_
    as_aux_lemma =>
    refine va_get (D := (dC, dI)) (ci := 0) (v := .int h0_f2) (C := RX0) (T := TX0) (N := 4) hx hb hts iw_c_X0_isWhole_X0 hown hK hP 0 rfl rfl 2 (by decide +kernel) (hts (.fieldLink RX0 25 "BuoyVote$Borough" "boats" "I") (List.mem_of_getElem? (i := 2) rfl)) (fun _ h9 => h9) rfl dX0_isWhole_9 ?_
    refine lv_iconst (v := 2) hx hb dX0_isWhole_12 kc_iconst_2 ?_
    refine lv_icmp_ge (tgt := 18) hx hb dX0_isWhole_13 rfl (fun c_27 => ?_) (fun c_27 => ?_)
    · have g_28 : RG h0_f2 2 3 := RG_le2 (RG_k 2 2 rfl) g_h0_f2 c_27 (by decide +kernel)
      refine lv_iconst (v := 0) hx hb dX0_isWhole_18 kc_iconst_0 ?_
      refine lv_istore_n (lv' := [(1, .int 0), (0, .ref h0)]) hx hb dX0_isWhole_19 rfl hl (Nat.le_of_ble_eq_true rfl) rfl (fun ls hl => ?_)
      exact hU _ _ _ (J20 _ 0 (Nat.lt_succ_self _) g_26 g_28 g_h0_f3 (RG_w (RG_k 0 0 rfl) (by decide +kernel)) _ _ _ hP hD hS (lv_sub hl [0, 1] rfl))
    · have d_29 := Int32.not_le.mp c_27
      have g_30 : RG h0_f2 0 1 := RG_lt1 g_h0_f2 (RG_k 2 2 rfl) d_29 (by decide +kernel)
      refine lv_iconst (v := 0) hx hb dX0_isWhole_16 kc_iconst_0 ?_
      have hK9 := hK.sub (tys' := []) [] rfl
      exact W.zret (v := 0) hx hb hr rfl (fun t ht hW => ⟨⟨0, (), rfl, (Or.inl rfl), by rw [ht]; exact hP, va_K.moved hW.alike hK9, hD⟩, hS.F ht⟩) hS.2.2 dX0_isWhole_17
noncomputable def wd_c_X9_wrongAt (a0 : Nat) (a1 : Nat) (a2 : Int32) (a3 : Int32) (a4 : Int32) : va_W := [(a0, .inr (9, [.ref a1, .int a2, .int a3, .int a4]))]
noncomputable def wf_c_X9_wrongAt : List Cond := List.cons (.code yX9_wrongAt cX9_wrongAt 1 (some .int)) (@HAppend.hAppend (List Cond) (List Cond) (List Cond) _ [.fieldLink RX9 15 "BuoyVote$Tape" "wrong" "I"] wsX90)
theorem iw_c_X9_wrongAt_X9 : ∀ w ∈ wsX90, w ∈ wf_c_X9_wrongAt := fun w h => List.mem_cons_of_mem _ (List.mem_append_right _ h)
set_option maxHeartbeats 4000000 in
set_option maxRecDepth 100000 in
theorem c_X9_wrongAt (l : Launch) (dC : Nat → ClassId) (dI : Nat → Nat → Nat) (sz : Nat) (h0 : Nat) (h0_0 : Nat) (h0_f1 : Int32) (h0_f2 : Int32) (h0_f3 : Int32) (g_h0_f1 : RG h0_f1 0 240) (g_h0_f2 : RG h0_f2 0 240) (g_h0_f3 : RG h0_f3 (-1) 240) : Met l yX9_wrongAt wf_c_X9_wrongAt ({ frames := 0, cells := 0, slots := 0, locals := 0 }) (va_Pc [.ref h0] (fun U => U.heap.size = sz ∧ va_P (dC, dI) vwCl (wd_c_X9_wrongAt h0 h0_0 h0_f1 h0_f2 h0_f3) U.heap ∧ va_K (dC, dI) vwCl [] U ∧ va_D (fun _ => True) (wd_c_X9_wrongAt h0 h0_0 h0_f1 h0_f2 h0_f3))) (va_Qi (fun (r : Int32) (u : Unit) => (RG r (-1) 240)) (fun (u : Unit) t => va_P (dC, dI) vwCl (wd_c_X9_wrongAt h0 h0_0 h0_f1 h0_f2 h0_f3) t.heap ∧ va_K (dC, dI) vwCl [] t ∧ va_D (va_A (wd_c_X9_wrongAt h0 h0_0 h0_f1 h0_f2 h0_f3) sz) (wd_c_X9_wrongAt h0 h0_0 h0_f1 h0_f2 h0_f3)) (va_A (wd_c_X9_wrongAt h0 h0_0 h0_f1 h0_f2 h0_f3) sz)) 0 0 (va_A (wd_c_X9_wrongAt h0 h0_0 h0_f1 h0_f2 h0_f3) sz) := by
  refine Met.ofW (cc := cX9_wrongAt) (maxL := 1) (ret := (some .int)) (by decide +kernel) rfl ?_
  intro p e s m args below meth c s₁ B hml hv
  obtain ⟨rfl, hsz, hP, hK, hD0⟩ := hv
  have hx := B.exec
  have hb := B.bytes
  have hr := B.returns
  have hts := atoms_spec (ws := wf_c_X9_wrongAt) B.pre
  have hown : s.vm.findClass RX9 = some m.cls := findClass_of_methodNamed B.named
  have hlocks := B.notSynchronized
  subst hsz
  have hD := hD0.self (sz := s.heap.size)
  generalize hAe : va_A (wd_c_X9_wrongAt h0 h0_0 h0_f1 h0_f2 h0_f3) s.heap.size = A at hD ⊢
  have hA : ∀ q : Nat, s.heap.size ≤ q → A q := fun q h => by rw [← hAe]; exact Or.inr h
  have hP : va_P (dC, dI) vwCl (wd_c_X9_wrongAt h0 h0_0 h0_f1 h0_f2 h0_f3) s.heap := hP
  have hl := lv_entry ([.ref h0]) (n := 1) (Nat.le_of_ble_eq_true rfl)
  rw [lg_entry_eq]
  generalize (lg_sl ([.ref h0]) ++ List.replicate (1 - (lg_sl ([.ref h0])).length) Slot.unset).toArray = ls at hl ⊢
  have hl : lv_has ls 1 [(0, .ref h0)] := hl
  obtain ⟨H, hHe⟩ : ∃ H : Heap, s.heap = H := ⟨_, rfl⟩
  have hS : va_S A s.heap H [] := by rw [hHe]; exact va_S.rf
  have hP : va_P (dC, dI) vwCl (wd_c_X9_wrongAt h0 h0_0 h0_f1 h0_f2 h0_f3) H := by rw [← hHe]; exact hP
  rw [hHe]
  refine lv_aload_n hx hb dX9_wrongAt_0 rfl (lv_at hl 0 rfl) ?_
  as_aux_lemma =>
  refine va_get (D := (dC, dI)) (ci := 9) (v := .int h0_f3) (C := RX9) (T := TX9) (N := 4) hx hb hts iw_c_X9_wrongAt_X9 hown hK hP 0 rfl rfl 3 (by decide +kernel) (hts (.fieldLink RX9 15 "BuoyVote$Tape" "wrong" "I") (List.mem_of_getElem? (i := 1) rfl)) (fun _ h9 => h9) rfl dX9_wrongAt_1 ?_
  have hK9 := hK.sub (tys' := []) [] rfl
  exact W.iret (v := h0_f3) hx hb hr (fun t ht hW => ⟨⟨h0_f3, (), rfl, g_h0_f3, by rw [ht]; exact hP, va_K.moved hW.alike hK9, hD⟩, hS.F ht⟩) hS.2.2 dX9_wrongAt_4
noncomputable def wd_c_X0_faultOf (a0 : Nat) (a1 : Nat) (a2 : Int32) (a3 : Int32) (a4 : Int32) (a5 : Nat) (a6 : ClassId) (a7 : Nat → Int32) (a8 : Nat) (a9 : Nat) (a10 : Int32) (a11 : Int32) (a12 : Int32) (a13 : Nat) (a14 : ClassId) (a15 : Nat → Int32) : va_W := [(a0, .inr (0, [.ref a1, .int a2, .int a3, .int a4])), (a5, .inl (a6, 80, .inl a7)), (a8, .inr (9, [.ref a9, .int a10, .int a11, .int a12])), (a13, .inl (a14, 240, .inl a15))]
noncomputable def wf_c_X0_faultOf : List Cond := List.cons (.code yX0_faultOf cX0_faultOf 3 (some .int)) (@HAppend.hAppend (List Cond) (List Cond) (List Cond) _ (@HAppend.hAppend (List Cond) (List Cond) (List Cond) _ [.fieldLink RX0 21 "BuoyVote$Borough" "buoys" "I", .fieldLink RX0 25 "BuoyVote$Borough" "boats" "I", .fieldLink RX0 28 "BuoyVote$Borough" "ruled" "Z", .methodLink RX0 32 yX0_setUsual, .instanceMethod yX0_setUsual, .selects RX0 yX0_setUsual yX0_setUsual, .initialized RX0, .code yX0_setUsual cX0_setUsual 5 none, .methodLink RX0 92 yX0_lettersOf, .static yX0_lettersOf, .code yX0_lettersOf cX0_lettersOf 1 (some (.object "java/lang/String")), .methodLink RX0 96 yJ0_length_8abf5, .instanceMethod yJ0_length_8abf5, .selects RJ0 yJ0_length_8abf5 yJ0_length_8abf5, .initialized RJ0, .code yJ0_length_8abf5 cJ0_length_8abf5 1 (some .int), .fieldLink RJ0 9 "java/lang/String" "value" "[B", .methodLink RJ0 335 yJ0_coder_7d493, .instanceMethod yJ0_coder_7d493, .selects RJ0 yJ0_coder_7d493 yJ0_coder_7d493, .code yJ0_coder_7d493 cJ0_coder_7d493 1 (some .byte), .fieldLink RJ0 38 "java/lang/String" "COMPACT_STRINGS" "Z", .fieldLink RJ0 15 "java/lang/String" "coder" "B", .fieldLink RX0 11 "BuoyVote$Borough" "values" "[I", .fieldLink RX0 113 "BuoyVote$Borough" "USUAL" "[I", .fieldLink RX0 103 "BuoyVote$Borough" "FIRST" "[I", .methodLink RX0 36 yX9_rewind, .instanceMethod yX9_rewind, .selects RX9 yX9_rewind yX9_rewind, .initialized RX9, .code yX9_rewind cX9_rewind 1 none, .fieldLink RX9 22 "BuoyVote$Tape" "at" "I", .fieldLink RX9 15 "BuoyVote$Tape" "wrong" "I", .methodLink RX0 41 yX0_readClause, .instanceMethod yX0_readClause, .selects RX0 yX0_readClause yX0_readClause, .code yX0_readClause cX0_readClause 8 none, .methodLink RX0 72 yX9_peek, .instanceMethod yX9_peek, .selects RX9 yX9_peek yX9_peek, .code yX9_peek cX9_peek 1 (some .int), .fieldLink RX9 19 "BuoyVote$Tape" "length" "I", .fieldLink RX9 11 "BuoyVote$Tape" "bytes" "[I", .methodLink RX0 75 yX0_placeIn, .static yX0_placeIn, .code yX0_placeIn cX0_placeIn 2 (some .int), .methodLink RX0 128 yJ0_indexOf_0f7a4, .instanceMethod yJ0_indexOf_0f7a4, .selects RJ0 yJ0_indexOf_0f7a4 yJ0_indexOf_0f7a4, .code yJ0_indexOf_0f7a4 cJ0_indexOf_0f7a4 2 (some .int), .methodLink RJ0 633 yJ0_indexOf_7cf53, .instanceMethod yJ0_indexOf_7cf53, .selects RJ0 yJ0_indexOf_7cf53 yJ0_indexOf_7cf53, .code yJ0_indexOf_7cf53 cJ0_indexOf_7cf53 3 (some .int), .methodLink RJ0 492 yJ0_isLatin1_aae02, .instanceMethod yJ0_isLatin1_aae02, .selects RJ0 yJ0_isLatin1_aae02 yJ0_isLatin1_aae02, .code yJ0_isLatin1_aae02 cJ0_isLatin1_aae02 1 (some .boolean), .methodLink RJ0 505 yJ0_length_8abf5, .methodLink RJ0 637 yJ1_indexOf_4cfef, .static yJ1_indexOf_4cfef, .initialized RJ1, .code yJ1_indexOf_4cfef cJ1_indexOf_4cfef 4 (some .int), .methodLink RJ1 88 yJ1_canEncode_9a6ad, .static yJ1_canEncode_9a6ad, .code yJ1_canEncode_9a6ad cJ1_canEncode_9a6ad 1 (some .boolean), .methodLink RJ1 92 Lib.Math.max.name, .static Lib.Math.max.name, .initialized "java/lang/Math", .code Lib.Math.max.name Lib.Math.max.code 2 (some .int), .methodLink RJ1 38 Lib.Math.min.name, .static Lib.Math.min.name, .code Lib.Math.min.name Lib.Math.min.code 2 (some .int), .methodLink RJ1 95 yJ1_indexOfChar_4cfef, .static yJ1_indexOfChar_4cfef, .code yJ1_indexOfChar_4cfef cJ1_indexOfChar_4cfef 6 (some .int), .methodLink RX0 79 yX0_hasRoomFor, .instanceMethod yX0_hasRoomFor, .selects RX0 yX0_hasRoomFor yX0_hasRoomFor, .code yX0_hasRoomFor cX0_hasRoomFor 2 (some .boolean), .methodLink RX0 85 yX9_skip, .instanceMethod yX9_skip, .selects RX9 yX9_skip yX9_skip, .code yX9_skip cX9_skip 1 none, .methodLink RX0 88 yX0_beginClause, .instanceMethod yX0_beginClause, .selects RX0 yX0_beginClause yX0_beginClause, .code yX0_beginClause cX0_beginClause 3 (some .int), .methodLink RX0 82 yX9_refuseHere, .instanceMethod yX9_refuseHere, .selects RX9 yX9_refuseHere yX9_refuseHere, .code yX9_refuseHere cX9_refuseHere 1 none, .methodLink RX9 25 yX9_refuse, .instanceMethod yX9_refuse, .selects RX9 yX9_refuse yX9_refuse, .code yX9_refuse cX9_refuse 2 none, .methodLink RX0 52 yX9_isRight, .instanceMethod yX9_isRight, .selects RX9 yX9_isRight yX9_isRight, .code yX9_isRight cX9_isRight 1 (some .boolean), .fieldLink RX0 100 "BuoyVote$Borough" "LOW" "[I", .fieldLink RX0 106 "BuoyVote$Borough" "HIGH" "[I", .methodLink RX0 109 yX9_numberWithin, .instanceMethod yX9_numberWithin, .selects RX9 yX9_numberWithin yX9_numberWithin, .code yX9_numberWithin cX9_numberWithin 4 (some .int), .methodLink RX9 29 yX9_peek, .methodLink RX9 33 yX9_number, .instanceMethod yX9_number, .selects RX9 yX9_number yX9_number, .code yX9_number cX9_number 4 (some .int), .methodLink RX0 45 yX9_take, .instanceMethod yX9_take, .selects RX9 yX9_take yX9_take, .code yX9_take cX9_take 2 (some .boolean), .methodLink RX0 49 yX9_expectEnd, .instanceMethod yX9_expectEnd, .selects RX9 yX9_expectEnd yX9_expectEnd, .code yX9_expectEnd cX9_expectEnd 1 none, .methodLink RX0 56 yX0_isWhole, .instanceMethod yX0_isWhole, .selects RX0 yX0_isWhole yX0_isWhole, .code yX0_isWhole cX0_isWhole 3 (some .boolean), .methodLink RX0 116 yX0_buoyX, .instanceMethod yX0_buoyX, .selects RX0 yX0_buoyX yX0_buoyX, .code yX0_buoyX cX0_buoyX 2 (some .int), .methodLink RX0 119 yX0_buoyY, .instanceMethod yX0_buoyY, .selects RX0 yX0_buoyY yX0_buoyY, .code yX0_buoyY cX0_buoyY 2 (some .int), .fieldLink RX0 59 "BuoyVote$Tape" "length" "I", .methodLink RX0 62 yX9_refuse, .methodLink RX0 66 yX9_wrongAt, .instanceMethod yX9_wrongAt, .selects RX9 yX9_wrongAt yX9_wrongAt, .code yX9_wrongAt cX9_wrongAt 1 (some .int)] wsX00) wsX90)
theorem iw_c_X0_faultOf_X0 : ∀ w ∈ wsX00, w ∈ wf_c_X0_faultOf := fun w h => List.mem_cons_of_mem _ (List.mem_append_left _ (List.mem_append_right _ h))
theorem iw_c_X0_faultOf_X9 : ∀ w ∈ wsX90, w ∈ wf_c_X0_faultOf := fun w h => List.mem_cons_of_mem _ (List.mem_append_right _ h)
set_option maxRecDepth 20000 in
theorem gf_c_X0_faultOf_c_X9_wrongAt : GoodIn wf_c_X0_faultOf (wsV RX0 66 RX9 yX9_wrongAt wf_c_X9_wrongAt) := goodIn_app (gi_l [134, 135, 136, 30] rfl rfl) (gi_cons (j := 137) rfl rfl (goodIn_app (gi_l [33] rfl rfl) (goodIn_sub iw_c_X0_faultOf_X9 gw_X9)))
set_option maxRecDepth 20000 in
theorem gf_c_X0_faultOf_c_X9_expectEnd : GoodIn wf_c_X0_faultOf (wsV RX0 49 RX9 yX9_expectEnd wf_c_X9_expectEnd) := goodIn_app (gi_l [116, 117, 118, 30] rfl rfl) (gi_cons (j := 119) rfl rfl (goodIn_app (gi_l [107, 39, 40, 30, 41, 32, 42, 43, 93, 94, 95, 96, 33] rfl rfl) (goodIn_sub iw_c_X0_faultOf_X9 gw_X9)))
set_option maxRecDepth 20000 in
theorem gf_c_X0_faultOf_c_X9_isRight : GoodIn wf_c_X0_faultOf (wsV RX0 52 RX9 yX9_isRight wf_c_X9_isRight) := goodIn_app (gi_l [97, 98, 99, 30] rfl rfl) (gi_cons (j := 100) rfl rfl (goodIn_app (gi_l [33] rfl rfl) (goodIn_sub iw_c_X0_faultOf_X9 gw_X9)))
set_option maxRecDepth 20000 in
theorem gf_c_X0_faultOf_c_X0_isWhole : GoodIn wf_c_X0_faultOf (wsV RX0 56 RX0 yX0_isWhole wf_c_X0_isWhole) := goodIn_app (gi_l [120, 121, 122, 7] rfl rfl) (gi_cons (j := 123) rfl rfl (goodIn_app (gi_l [1, 2, 124, 125, 126, 7, 127, 24, 128, 129, 130, 131] rfl rfl) (goodIn_sub iw_c_X0_faultOf_X0 gw_X0)))
set_option maxRecDepth 20000 in
theorem gf_c_X0_faultOf_c_X9_refuse : GoodIn wf_c_X0_faultOf (wsV RX0 62 RX9 yX9_refuse wf_c_X9_refuse) := goodIn_app (gi_l [133, 94, 95, 30] rfl rfl) (gi_cons (j := 96) rfl rfl (goodIn_app (gi_l [33] rfl rfl) (goodIn_sub iw_c_X0_faultOf_X9 gw_X9)))
set_option maxRecDepth 20000 in
theorem gf_c_X0_faultOf_c_X0_readClause : GoodIn wf_c_X0_faultOf (wsV RX0 41 RX0 yX0_readClause wf_c_X0_readClause) := goodIn_app (gi_l [34, 35, 36, 7] rfl rfl) (gi_cons (j := 37) rfl rfl (goodIn_app (goodIn_app (gi_l [38, 39, 40, 30, 41, 32, 42, 43, 44, 45, 7, 46, 47, 48, 49, 15, 50, 51, 52, 53, 54, 55, 56, 57, 58, 22, 23, 17, 59, 13, 14, 16, 18, 19, 20, 21, 60, 61, 62, 63, 64, 65, 66, 67, 68, 69, 70, 71, 72, 73, 74, 75, 76, 77, 78, 79, 80, 3, 81, 82, 83, 84, 85, 86, 87, 88, 4, 5, 6, 8, 9, 10, 11, 12, 24, 25, 26, 1, 2, 89, 90, 91, 92, 93, 94, 95, 96, 33, 97, 98, 99, 100, 101, 102, 103, 104, 105, 106, 107, 108, 109, 110, 111] rfl rfl) (goodIn_sub iw_c_X0_faultOf_X9 gw_X9)) (goodIn_sub iw_c_X0_faultOf_X0 gw_X0)))
set_option maxRecDepth 20000 in
theorem gf_c_X0_faultOf_c_X9_take : GoodIn wf_c_X0_faultOf (wsV RX0 45 RX9 yX9_take wf_c_X9_take) := goodIn_app (gi_l [112, 113, 114, 30] rfl rfl) (gi_cons (j := 115) rfl rfl (goodIn_app (gi_l [33, 107, 39, 40, 30, 41, 32, 42, 43] rfl rfl) (goodIn_sub iw_c_X0_faultOf_X9 gw_X9)))
set_option maxRecDepth 20000 in
theorem gf_c_X0_faultOf_c_X0_setUsual : GoodIn wf_c_X0_faultOf (wsV RX0 32 RX0 yX0_setUsual wf_c_X0_setUsual) := goodIn_app (gi_l [4, 5, 6, 7] rfl rfl) (gi_cons (j := 8) rfl rfl (goodIn_app (gi_l [9, 10, 7, 11, 12, 13, 14, 15, 16, 17, 18, 19, 20, 21, 22, 23, 24, 25, 26] rfl rfl) (goodIn_sub iw_c_X0_faultOf_X0 gw_X0)))
set_option maxRecDepth 20000 in
theorem gf_c_X0_faultOf_c_X9_rewind : GoodIn wf_c_X0_faultOf (wsV RX0 36 RX9 yX9_rewind wf_c_X9_rewind) := goodIn_app (gi_l [27, 28, 29, 30] rfl rfl) (gi_cons (j := 31) rfl rfl (goodIn_app (gi_l [32, 33] rfl rfl) (goodIn_sub iw_c_X0_faultOf_X9 gw_X9)))
set_option maxHeartbeats 4000000 in
set_option maxRecDepth 100000 in
theorem c_X0_faultOf (l : Launch) (dC : Nat → ClassId) (dI : Nat → Nat → Nat) (sz : Nat) (h0 : Nat) (h1 : Nat) (h0_0 : Nat) (h0_f1 : Int32) (h0_f2 : Int32) (h0_f3 : Int32) (h0_0k : ClassId) (h0_0c : Nat → Int32) (h1_0 : Nat) (h1_f1 : Int32) (h1_f2 : Int32) (h1_f3 : Int32) (h1_0k : ClassId) (h1_0c : Nat → Int32) (ts1 : Nat) (tv1 : Nat) (ta3 : Nat) (ta0 : Nat) (ts0 : Nat) (tv0 : Nat) (ts2 : Nat) (tv2 : Nat) (ts3 : Nat) (tv3 : Nat) (ta1 : Nat) (ta2 : Nat) (g_h0_f1 : RG h0_f1 0 8) (g_h0_f2 : RG h0_f2 0 3) (g_h0_f3 : RG h0_f3 0 1) (a_h0_0c : AI h0_0c (-1) 99) (g_h1_f1 : RG h1_f1 0 240) (g_h1_f2 : RG h1_f2 0 240) (g_h1_f3 : RG h1_f3 (-1) 240) (a_h1_0c : AI h1_0c 0 255) : Met l yX0_faultOf wf_c_X0_faultOf ({ frames := 6, cells := 0, slots := 0, locals := 139 }) (va_Pc [.ref h0, .ref h1] (fun U => U.heap.size = sz ∧ va_P (dC, dI) vwCl (wd_c_X0_faultOf h0 h0_0 h0_f1 h0_f2 h0_f3 h0_0 h0_0k h0_0c h1 h1_0 h1_f1 h1_f2 h1_f3 h1_0 h1_0k h1_0c) U.heap ∧ va_K (dC, dI) vwCl [(h0_0k, .int), (h1_0k, .int)] U ∧ va_D (fun _ => True) (wd_c_X0_faultOf h0 h0_0 h0_f1 h0_f2 h0_f3 h0_0 h0_0k h0_0c h1 h1_0 h1_f1 h1_f2 h1_f3 h1_0 h1_0k h1_0c) ∧ vk_R RX0 122 "wdth" ts1 U ∧ va_OF "java/lang/String" "value" "[B" (.ref tv1) ts1 (va_A (wd_c_X0_faultOf h0 h0_0 h0_f1 h0_f2 h0_f3 h0_0 h0_0k h0_0c h1 h1_0 h1_f1 h1_f2 h1_f3 h1_0 h1_0k h1_0c) sz) U U.heap ∧ va_T .byte tv1 4 (fun j => .int ([119, 100, 116, 104].getD j 0)) (va_A (wd_c_X0_faultOf h0 h0_0 h0_f1 h0_f2 h0_f3 h0_0 h0_0k h0_0c h1 h1_0 h1_f1 h1_f2 h1_f3 h1_0 h1_0k h1_0c) sz) U U.heap ∧ va_Z "java/lang/String" "COMPACT_STRINGS" "Z" (.int 1) (va_A (wd_c_X0_faultOf h0 h0_0 h0_f1 h0_f2 h0_f3 h0_0 h0_0k h0_0c h1 h1_0 h1_f1 h1_f2 h1_f3 h1_0 h1_0k h1_0c) sz) U U.heap ∧ va_OF "java/lang/String" "coder" "B" (.int 0) ts1 (va_A (wd_c_X0_faultOf h0 h0_0 h0_f1 h0_f2 h0_f3 h0_0 h0_0k h0_0c h1 h1_0 h1_f1 h1_f2 h1_f3 h1_0 h1_0k h1_0c) sz) U U.heap ∧ va_O "java/lang/String" ts1 (va_A (wd_c_X0_faultOf h0 h0_0 h0_f1 h0_f2 h0_f3 h0_0 h0_0k h0_0c h1 h1_0 h1_f1 h1_f2 h1_f3 h1_0 h1_0k h1_0c) sz) U U.heap ∧ va_Z "BuoyVote$Borough" "USUAL" "[I" (.ref ta3) (va_A (wd_c_X0_faultOf h0 h0_0 h0_f1 h0_f2 h0_f3 h0_0 h0_0k h0_0c h1 h1_0 h1_f1 h1_f2 h1_f3 h1_0 h1_0k h1_0c) sz) U U.heap ∧ va_Z "BuoyVote$Borough" "FIRST" "[I" (.ref ta0) (va_A (wd_c_X0_faultOf h0 h0_0 h0_f1 h0_f2 h0_f3 h0_0 h0_0k h0_0c h1 h1_0 h1_f1 h1_f2 h1_f3 h1_0 h1_0k h1_0c) sz) U U.heap ∧ va_T .int ta0 3 (fun j => .int ([0, 4, 12].getD j 0)) (va_A (wd_c_X0_faultOf h0 h0_0 h0_f1 h0_f2 h0_f3 h0_0 h0_0k h0_0c h1 h1_0 h1_f1 h1_f2 h1_f3 h1_0 h1_0k h1_0c) sz) U U.heap ∧ va_T .int ta3 16 (fun j => .int ([2, 0, 6, 8, 0, 0, 3, 0, 0, 0, 3, 2, 0, 0, 2, 3].getD j 0)) (va_A (wd_c_X0_faultOf h0 h0_0 h0_f1 h0_f2 h0_f3 h0_0 h0_0k h0_0c h1 h1_0 h1_f1 h1_f2 h1_f3 h1_0 h1_0k h1_0c) sz) U U.heap ∧ vk_R RX0 70 "sbc" ts0 U ∧ va_OF "java/lang/String" "coder" "B" (.int 0) ts0 (va_A (wd_c_X0_faultOf h0 h0_0 h0_f1 h0_f2 h0_f3 h0_0 h0_0k h0_0c h1 h1_0 h1_f1 h1_f2 h1_f3 h1_0 h1_0k h1_0c) sz) U U.heap ∧ va_O "java/lang/String" ts0 (va_A (wd_c_X0_faultOf h0 h0_0 h0_f1 h0_f2 h0_f3 h0_0 h0_0k h0_0c h1 h1_0 h1_f1 h1_f2 h1_f3 h1_0 h1_0k h1_0c) sz) U U.heap ∧ va_OF "java/lang/String" "value" "[B" (.ref tv0) ts0 (va_A (wd_c_X0_faultOf h0 h0_0 h0_f1 h0_f2 h0_f3 h0_0 h0_0k h0_0c h1 h1_0 h1_f1 h1_f2 h1_f3 h1_0 h1_0k h1_0c) sz) U U.heap ∧ va_T .byte tv0 3 (fun j => .int ([115, 98, 99].getD j 0)) (va_A (wd_c_X0_faultOf h0 h0_0 h0_f1 h0_f2 h0_f3 h0_0 h0_0k h0_0c h1 h1_0 h1_f1 h1_f2 h1_f3 h1_0 h1_0k h1_0c) sz) U U.heap ∧ vk_R RX0 124 "xycaefor" ts2 U ∧ va_OF "java/lang/String" "value" "[B" (.ref tv2) ts2 (va_A (wd_c_X0_faultOf h0 h0_0 h0_f1 h0_f2 h0_f3 h0_0 h0_0k h0_0c h1 h1_0 h1_f1 h1_f2 h1_f3 h1_0 h1_0k h1_0c) sz) U U.heap ∧ va_T .byte tv2 8 (fun j => .int ([120, 121, 99, 97, 101, 102, 111, 114].getD j 0)) (va_A (wd_c_X0_faultOf h0 h0_0 h0_f1 h0_f2 h0_f3 h0_0 h0_0k h0_0c h1 h1_0 h1_f1 h1_f2 h1_f3 h1_0 h1_0k h1_0c) sz) U U.heap ∧ va_OF "java/lang/String" "coder" "B" (.int 0) ts2 (va_A (wd_c_X0_faultOf h0 h0_0 h0_f1 h0_f2 h0_f3 h0_0 h0_0k h0_0c h1 h1_0 h1_f1 h1_f2 h1_f3 h1_0 h1_0k h1_0c) sz) U U.heap ∧ va_O "java/lang/String" ts2 (va_A (wd_c_X0_faultOf h0 h0_0 h0_f1 h0_f2 h0_f3 h0_0 h0_0k h0_0c h1 h1_0 h1_f1 h1_f2 h1_f3 h1_0 h1_0k h1_0c) sz) U U.heap ∧ vk_R RX0 126 "xysv" ts3 U ∧ va_OF "java/lang/String" "value" "[B" (.ref tv3) ts3 (va_A (wd_c_X0_faultOf h0 h0_0 h0_f1 h0_f2 h0_f3 h0_0 h0_0k h0_0c h1 h1_0 h1_f1 h1_f2 h1_f3 h1_0 h1_0k h1_0c) sz) U U.heap ∧ va_T .byte tv3 4 (fun j => .int ([120, 121, 115, 118].getD j 0)) (va_A (wd_c_X0_faultOf h0 h0_0 h0_f1 h0_f2 h0_f3 h0_0 h0_0k h0_0c h1 h1_0 h1_f1 h1_f2 h1_f3 h1_0 h1_0k h1_0c) sz) U U.heap ∧ va_OF "java/lang/String" "coder" "B" (.int 0) ts3 (va_A (wd_c_X0_faultOf h0 h0_0 h0_f1 h0_f2 h0_f3 h0_0 h0_0k h0_0c h1 h1_0 h1_f1 h1_f2 h1_f3 h1_0 h1_0k h1_0c) sz) U U.heap ∧ va_O "java/lang/String" ts3 (va_A (wd_c_X0_faultOf h0 h0_0 h0_f1 h0_f2 h0_f3 h0_0 h0_0k h0_0c h1 h1_0 h1_f1 h1_f2 h1_f3 h1_0 h1_0k h1_0c) sz) U U.heap ∧ va_Z "BuoyVote$Borough" "LOW" "[I" (.ref ta1) (va_A (wd_c_X0_faultOf h0 h0_0 h0_f1 h0_f2 h0_f3 h0_0 h0_0k h0_0c h1 h1_0 h1_f1 h1_f2 h1_f3 h1_0 h1_0k h1_0c) sz) U U.heap ∧ va_T .int ta1 16 (fun j => .int ([0, 0, 1, 1, 0, 0, 0, 0, 0, 0, 0, 0, 0, 0, 1, 0].getD j 0)) (va_A (wd_c_X0_faultOf h0 h0_0 h0_f1 h0_f2 h0_f3 h0_0 h0_0k h0_0c h1 h1_0 h1_f1 h1_f2 h1_f3 h1_0 h1_0k h1_0c) sz) U U.heap ∧ va_Z "BuoyVote$Borough" "HIGH" "[I" (.ref ta2) (va_A (wd_c_X0_faultOf h0 h0_0 h0_f1 h0_f2 h0_f3 h0_0 h0_0k h0_0c h1 h1_0 h1_f1 h1_f2 h1_f3 h1_0 h1_0k h1_0c) sz) U U.heap ∧ va_T .int ta2 16 (fun j => .int ([9, 3, 12, 20, 9, 9, 9, 9, 9, 9, 3, 9, 9, 9, 4, 9].getD j 0)) (va_A (wd_c_X0_faultOf h0 h0_0 h0_f1 h0_f2 h0_f3 h0_0 h0_0k h0_0c h1 h1_0 h1_f1 h1_f2 h1_f3 h1_0 h1_0k h1_0c) sz) U U.heap)) (va_Qi (fun (r : Int32) (u : (Int32) × (Int32) × (Int32) × (Nat → Int32) × (Int32) × (Int32)) => (RG r (-1) 240 ∧ RG u.1 0 8 ∧ RG u.2.1 0 3 ∧ RG u.2.2.1 0 1 ∧ AI (u.2.2.2.1) (-1) 99 ∧ RG u.2.2.2.2.1 0 240 ∧ RG u.2.2.2.2.2 (-1) 240)) (fun (u : (Int32) × (Int32) × (Int32) × (Nat → Int32) × (Int32) × (Int32)) t => va_P (dC, dI) vwCl (wd_c_X0_faultOf h0 h0_0 (u.1) (u.2.1) (u.2.2.1) h0_0 h0_0k (u.2.2.2.1) h1 h1_0 h1_f1 (u.2.2.2.2.1) (u.2.2.2.2.2) h1_0 h1_0k h1_0c) t.heap ∧ va_K (dC, dI) vwCl [] t ∧ va_D (va_A (wd_c_X0_faultOf h0 h0_0 h0_f1 h0_f2 h0_f3 h0_0 h0_0k h0_0c h1 h1_0 h1_f1 h1_f2 h1_f3 h1_0 h1_0k h1_0c) sz) (wd_c_X0_faultOf h0 h0_0 (u.1) (u.2.1) (u.2.2.1) h0_0 h0_0k (u.2.2.2.1) h1 h1_0 h1_f1 (u.2.2.2.2.1) (u.2.2.2.2.2) h1_0 h1_0k h1_0c)) (va_A (wd_c_X0_faultOf h0 h0_0 h0_f1 h0_f2 h0_f3 h0_0 h0_0k h0_0c h1 h1_0 h1_f1 h1_f2 h1_f3 h1_0 h1_0k h1_0c) sz)) 0 0 (va_A (wd_c_X0_faultOf h0 h0_0 h0_f1 h0_f2 h0_f3 h0_0 h0_0k h0_0c h1 h1_0 h1_f1 h1_f2 h1_f3 h1_0 h1_0k h1_0c) sz) := by
  refine Met.ofW (cc := cX0_faultOf) (maxL := 3) (ret := (some .int)) (by decide +kernel) rfl ?_
  intro p e s m args below meth c s₁ B hml hv
  obtain ⟨rfl, hsz, hP, hK, hD0, hE_17, hE_20, hE_21, hE_10, hE_19, hE_18, hE_6, hE_0, hE_1, hE_7, hE_12, hE_14, hE_13, hE_15, hE_16, hE_22, hE_25, hE_26, hE_24, hE_23, hE_27, hE_30, hE_31, hE_29, hE_28, hE_2, hE_3, hE_4, hE_5⟩ := hv
  have hx := B.exec
  have hb := B.bytes
  have hr := B.returns
  have hts := atoms_spec (ws := wf_c_X0_faultOf) B.pre
  have hown : s.vm.findClass RX0 = some m.cls := findClass_of_methodNamed B.named
  have hlocks := B.notSynchronized
  subst hsz
  have hD := hD0.self (sz := s.heap.size)
  generalize hAe : va_A (wd_c_X0_faultOf h0 h0_0 h0_f1 h0_f2 h0_f3 h0_0 h0_0k h0_0c h1 h1_0 h1_f1 h1_f2 h1_f3 h1_0 h1_0k h1_0c) s.heap.size = A at hD hE_20 hE_21 hE_10 hE_19 hE_18 hE_6 hE_0 hE_1 hE_7 hE_14 hE_13 hE_15 hE_16 hE_25 hE_26 hE_24 hE_23 hE_30 hE_31 hE_29 hE_28 hE_2 hE_3 hE_4 hE_5 ⊢
  have hA : ∀ q : Nat, s.heap.size ≤ q → A q := fun q h => by rw [← hAe]; exact Or.inr h
  have hP : va_P (dC, dI) vwCl (wd_c_X0_faultOf h0 h0_0 h0_f1 h0_f2 h0_f3 h0_0 h0_0k h0_0c h1 h1_0 h1_f1 h1_f2 h1_f3 h1_0 h1_0k h1_0c) s.heap := hP
  have hl := lv_entry ([.ref h0, .ref h1]) (n := 3) (Nat.le_of_ble_eq_true rfl)
  rw [lg_entry_eq]
  generalize (lg_sl ([.ref h0, .ref h1]) ++ List.replicate (3 - (lg_sl ([.ref h0, .ref h1])).length) Slot.unset).toArray = ls at hl ⊢
  have hl : lv_has ls 3 [(0, .ref h0), (1, .ref h1)] := hl
  obtain ⟨H, hHe⟩ : ∃ H : Heap, s.heap = H := ⟨_, rfl⟩
  have hS : va_S A s.heap H [] := by rw [hHe]; exact va_S.rf
  have hP : va_P (dC, dI) vwCl (wd_c_X0_faultOf h0 h0_0 h0_f1 h0_f2 h0_f3 h0_0 h0_0k h0_0c h1 h1_0 h1_f1 h1_f2 h1_f3 h1_0 h1_0k h1_0c) H := by rw [← hHe]; exact hP
  rw [hHe]
  refine wj (fun G hG hU => ?_)
  as_aux_lemma =>
  have J83 : ∀ (j83_h0_f1 : Int32) (j83_h0_f2 : Int32) (j83_h0_f3 : Int32) (j83_h0_0c : Nat → Int32) (j83_h1_f2 : Int32) (j83_h1_f3 : Int32) (g_h0_f1 : RG h0_f1 0 8) (g_h0_f2 : RG h0_f2 0 3) (g_h0_f3 : RG h0_f3 0 1) (g_h1_f1 : RG h1_f1 0 240) (g_h1_f2 : RG h1_f2 0 240) (g_h1_f3 : RG h1_f3 (-1) 240) (g_j83_h0_f1 : RG j83_h0_f1 0 8) (g_j83_h0_f2 : RG j83_h0_f2 0 3) (g_j83_h0_f3 : RG j83_h0_f3 0 1) (g_j83_h1_f2 : RG j83_h1_f2 0 240) (g_j83_h1_f3 : RG j83_h1_f3 (-1) 240) (a_j83_h0_0c : AI j83_h0_0c (-1) 99) (H : Heap) (locs : List Loc) (ls : Array Slot) (hP : va_P (dC, dI) vwCl (wd_c_X0_faultOf h0 h0_0 j83_h0_f1 j83_h0_f2 j83_h0_f3 h0_0 h0_0k j83_h0_0c h1 h1_0 h1_f1 j83_h1_f2 j83_h1_f3 h1_0 h1_0k h1_0c) H) (hD : va_D A (wd_c_X0_faultOf h0 h0_0 j83_h0_f1 j83_h0_f2 j83_h0_f3 h0_0 h0_0k j83_h0_0c h1 h1_0 h1_f1 j83_h1_f2 j83_h1_f3 h1_0 h1_0k h1_0c)) (hS : va_S A s.heap H locs) (hl : lv_has ls 3 [(1, .ref h1)]), G H locs (F0 m 83 ls []) := by
    as_aux_lemma =>
    intro j83_h0_f1 j83_h0_f2 j83_h0_f3 j83_h0_0c j83_h1_f2 j83_h1_f3 g_h0_f1 g_h0_f2 g_h0_f3 g_h1_f1 g_h1_f2 g_h1_f3 g_j83_h0_f1 g_j83_h0_f2 g_j83_h0_f3 g_j83_h1_f2 g_j83_h1_f3 a_j83_h0_0c H locs ls hP hD hS hl
    refine hG _ _ _ ?_
    refine lv_aload_n hx hb dX0_faultOf_83 rfl (lv_at hl 0 rfl) ?_
    obtain ⟨hPc, hDc, hFc, hqc⟩ := cl_cut (wc := (wd_c_X9_wrongAt h1 h1_0 h1_f1 j83_h1_f2 j83_h1_f3)) hP hD hS hA [2] (by decide +kernel) rfl
    have hKc := hK.sub (tys' := []) [] rfl
    have hrv := va_recv hKc hPc (ci := 9) (q0 := 0) rfl rfl
    refine va_calli (va_runV (As := []) (rest := []) ⟨hx, hb, hml, hown, hts⟩ (c_X9_wrongAt l dC dI H.size h1 h1_0 h1_f1 j83_h1_f2 j83_h1_f3 g_h1_f1 g_j83_h1_f2 g_j83_h1_f3) (cwV 0 hts gf_c_X0_faultOf_c_X9_wrongAt rfl rfl rfl mdV_X9_wrongAt ⟨Nat.le_of_ble_eq_true rfl, Nat.le_of_ble_eq_true rfl⟩) ⟨fun a U g mk q => by obtain ⟨q0, q1, qP, qK, qD⟩ := q; exact ⟨q0, q1, qP, va_K.moved (u := U) (U := U.calling g mk a) (Vm.Alike.refl U.vm) qK, qD⟩, hrv, fun U hU hW => ⟨rfl, by rw [hU], by rw [hU]; exact hPc, va_K.moved hW.alike hKc, hDc.weaken (fun _ _ _ _ => trivial)⟩⟩ rfl rfl hl.1 rfl (lv_room (Nat.le_of_ble_eq_true rfl)) dX0_faultOf_84 ⟨Nat.le_of_ble_eq_true rfl, Nat.le_of_ble_eq_true rfl⟩) hS (fun q _ h => hFc q h) hFc (fun r_1 u t H1 locs ht hvm hw hB hz1 hk1 hS => ?_)
    obtain ⟨hP1, hK1, hD1⟩ := hB
    rw [ht] at hP1
    obtain ⟨hP, hD⟩ := cl_put (w1 := (wd_c_X9_wrongAt h1 h1_0 h1_f1 j83_h1_f2 j83_h1_f3)) (nw := (wd_c_X0_faultOf h0 h0_0 j83_h0_f1 j83_h0_f2 j83_h0_f3 h0_0 h0_0k j83_h0_0c h1 h1_0 h1_f1 j83_h1_f2 j83_h1_f3 h1_0 h1_0k h1_0c)) hP hD [2] [0, 1, 4, 3] 4 rfl hqc (by decide +kernel) rfl hk1 hFc hP1 hD1
    generalize H1 = H at hP hS ⊢
    as_aux_lemma =>
    have h_2 := hw
    have hK9 := hK.sub (tys' := []) [] rfl
    exact W.iret (v := r_1) hx hb hr (fun t ht hW => ⟨⟨r_1, (j83_h0_f1, j83_h0_f2, j83_h0_f3, j83_h0_0c, j83_h1_f2, j83_h1_f3), rfl, ⟨h_2, g_j83_h0_f1, g_j83_h0_f2, g_j83_h0_f3, a_j83_h0_0c, g_j83_h1_f2, g_j83_h1_f3⟩, by rw [ht]; exact hP, va_K.moved hW.alike hK9, hD⟩, hS.F ht⟩) hS.2.2 dX0_faultOf_87
  have J57 : ∀ (j57_h0_f1 : Int32) (j57_h0_f2 : Int32) (j57_h0_f3 : Int32) (j57_h0_0c : Nat → Int32) (j57_h1_f2 : Int32) (j57_h1_f3 : Int32) (g_h0_f1 : RG h0_f1 0 8) (g_h0_f2 : RG h0_f2 0 3) (g_h0_f3 : RG h0_f3 0 1) (g_h1_f1 : RG h1_f1 0 240) (g_h1_f2 : RG h1_f2 0 240) (g_h1_f3 : RG h1_f3 (-1) 240) (g_j57_h0_f1 : RG j57_h0_f1 0 8) (g_j57_h0_f2 : RG j57_h0_f2 0 3) (g_j57_h0_f3 : RG j57_h0_f3 0 1) (g_j57_h1_f2 : RG j57_h1_f2 0 240) (g_j57_h1_f3 : RG j57_h1_f3 (-1) 240) (a_j57_h0_0c : AI j57_h0_0c (-1) 99) (H : Heap) (locs : List Loc) (ls : Array Slot) (hP : va_P (dC, dI) vwCl (wd_c_X0_faultOf h0 h0_0 j57_h0_f1 j57_h0_f2 j57_h0_f3 h0_0 h0_0k j57_h0_0c h1 h1_0 h1_f1 j57_h1_f2 j57_h1_f3 h1_0 h1_0k h1_0c) H) (hD : va_D A (wd_c_X0_faultOf h0 h0_0 j57_h0_f1 j57_h0_f2 j57_h0_f3 h0_0 h0_0k j57_h0_0c h1 h1_0 h1_f1 j57_h1_f2 j57_h1_f3 h1_0 h1_0k h1_0c)) (hS : va_S A s.heap H locs) (hl : lv_has ls 3 [(0, .ref h0), (1, .ref h1)]), G H locs (F0 m 57 ls []) := by
    as_aux_lemma =>
    intro j57_h0_f1 j57_h0_f2 j57_h0_f3 j57_h0_0c j57_h1_f2 j57_h1_f3 g_h0_f1 g_h0_f2 g_h0_f3 g_h1_f1 g_h1_f2 g_h1_f3 g_j57_h0_f1 g_j57_h0_f2 g_j57_h0_f3 g_j57_h1_f2 g_j57_h1_f3 a_j57_h0_0c H locs ls hP hD hS hl
    refine hG _ _ _ ?_
    refine lv_aload_n hx hb dX0_faultOf_57 rfl (lv_at hl 1 rfl) ?_
    obtain ⟨hPc, hDc, hFc, hqc⟩ := cl_cut (wc := (wd_c_X9_expectEnd h1 h1_0 h1_f1 j57_h1_f2 j57_h1_f3 h1_0 h1_0k h1_0c)) hP hD hS hA [2, 3] (by decide +kernel) rfl
    have hKc := hK.sub (tys' := [(h1_0k, .int)]) [1] rfl
    have hrv := va_recv hKc hPc (ci := 9) (q0 := 0) rfl rfl
    refine va_callv (va_runV (As := []) (rest := []) ⟨hx, hb, hml, hown, hts⟩ (c_X9_expectEnd l dC dI H.size h1 h1_0 h1_f1 j57_h1_f2 j57_h1_f3 h1_0k h1_0c g_h1_f1 g_j57_h1_f2 g_j57_h1_f3 a_h1_0c) (cwV 0 hts gf_c_X0_faultOf_c_X9_expectEnd rfl rfl rfl mdV_X9_expectEnd ⟨Nat.le_of_ble_eq_true rfl, Nat.le_of_ble_eq_true rfl⟩) ⟨fun a U g mk q => by obtain ⟨q0, q1, qP, qK, qD⟩ := q; exact ⟨q0, q1, qP, va_K.moved (u := U) (U := U.calling g mk a) (Vm.Alike.refl U.vm) qK, qD⟩, hrv, fun U hU hW => ⟨rfl, by rw [hU], by rw [hU]; exact hPc, va_K.moved hW.alike hKc, hDc.weaken (fun _ _ _ _ => trivial)⟩⟩ rfl rfl hl.1 rfl (lv_room (Nat.le_of_ble_eq_true rfl)) dX0_faultOf_58 ⟨Nat.le_of_ble_eq_true rfl, Nat.le_of_ble_eq_true rfl⟩) hS (fun q _ h => hFc q h) hFc (fun u t H1 locs ht hvm hw hB hz1 hk1 hS => ?_)
    obtain ⟨x_4, x_5⟩ := u
    obtain ⟨hP1, hK1, hD1⟩ := hB
    rw [ht] at hP1
    obtain ⟨hP, hD⟩ := cl_put (w1 := (wd_c_X9_expectEnd h1 h1_0 h1_f1 x_4 x_5 h1_0 h1_0k h1_0c)) (nw := (wd_c_X0_faultOf h0 h0_0 j57_h0_f1 j57_h0_f2 j57_h0_f3 h0_0 h0_0k j57_h0_0c h1 h1_0 h1_f1 x_4 x_5 h1_0 h1_0k h1_0c)) hP hD [2, 3] [0, 1, 4, 5] 4 rfl hqc (by decide +kernel) rfl hk1 hFc hP1 hD1
    generalize H1 = H at hP hS ⊢
    as_aux_lemma =>
    rcases hw with ⟨h_6, h_7, h_8⟩
    refine lv_aload_n hx hb dX0_faultOf_61 rfl (lv_at hl 1 rfl) ?_
    obtain ⟨hPc, hDc, hFc, hqc⟩ := cl_cut (wc := (wd_c_X9_isRight h1 h1_0 h1_f1 x_4 x_5)) hP hD hS hA [2] (by decide +kernel) rfl
    have hKc := hK.sub (tys' := []) [] rfl
    have hrv := va_recv hKc hPc (ci := 9) (q0 := 0) rfl rfl
    refine va_calli (va_runV (As := []) (rest := []) ⟨hx, hb, hml, hown, hts⟩ (c_X9_isRight l dC dI H.size h1 h1_0 h1_f1 x_4 x_5 g_h1_f1 h_6 h_7) (cwV 0 hts gf_c_X0_faultOf_c_X9_isRight rfl rfl rfl mdV_X9_isRight ⟨Nat.le_of_ble_eq_true rfl, Nat.le_of_ble_eq_true rfl⟩) ⟨fun a U g mk q => by obtain ⟨q0, q1, qP, qK, qD⟩ := q; exact ⟨q0, q1, qP, va_K.moved (u := U) (U := U.calling g mk a) (Vm.Alike.refl U.vm) qK, qD⟩, hrv, fun U hU hW => ⟨rfl, by rw [hU], by rw [hU]; exact hPc, va_K.moved hW.alike hKc, hDc.weaken (fun _ _ _ _ => trivial)⟩⟩ rfl rfl hl.1 rfl (lv_room (Nat.le_of_ble_eq_true rfl)) dX0_faultOf_62 ⟨Nat.le_of_ble_eq_true rfl, Nat.le_of_ble_eq_true rfl⟩) hS (fun q _ h => hFc q h) hFc (fun r_9 u t H1 locs ht hvm hw hB hz1 hk1 hS => ?_)
    obtain ⟨hP1, hK1, hD1⟩ := hB
    rw [ht] at hP1
    obtain ⟨hP, hD⟩ := cl_put (w1 := (wd_c_X9_isRight h1 h1_0 h1_f1 x_4 x_5)) (nw := (wd_c_X0_faultOf h0 h0_0 j57_h0_f1 j57_h0_f2 j57_h0_f3 h0_0 h0_0k j57_h0_0c h1 h1_0 h1_f1 x_4 x_5 h1_0 h1_0k h1_0c)) hP hD [2] [0, 1, 4, 3] 4 rfl hqc (by decide +kernel) rfl hk1 hFc hP1 hD1
    generalize H1 = H at hP hS ⊢
    as_aux_lemma =>
    rcases hw with ⟨h_10, h_11⟩ | ⟨h_12, h_13⟩
    · rw [h_10]
      refine lv_if_eq (tgt := 83) hx hb dX0_faultOf_65 rfl (fun c_14 => ?_) (fun c_14 => absurd c_14 (by decide +kernel))
      exact hU _ _ _ (J83 j57_h0_f1 j57_h0_f2 j57_h0_f3 j57_h0_0c x_4 x_5 g_h0_f1 g_h0_f2 g_h0_f3 g_h1_f1 g_h1_f2 g_h1_f3 g_j57_h0_f1 g_j57_h0_f2 g_j57_h0_f3 h_6 (RG_w h_11 (by decide +kernel)) a_j57_h0_0c _ _ _ hP hD hS (lv_sub hl [1] rfl))
    · rw [h_12]
      refine lv_if_eq (tgt := 83) hx hb dX0_faultOf_65 rfl (fun c_15 => absurd c_15 (by decide +kernel)) (fun c_15 => ?_)
      refine lv_aload_n hx hb dX0_faultOf_68 rfl (lv_at hl 0 rfl) ?_
      obtain ⟨hPc, hDc, hFc, hqc⟩ := cl_cut (wc := (wd_c_X0_isWhole h0 h0_0 j57_h0_f1 j57_h0_f2 j57_h0_f3 h0_0 h0_0k j57_h0_0c)) hP hD hS hA [0, 1] (by decide +kernel) rfl
      have hKc := hK.sub (tys' := [(h0_0k, .int)]) [0] rfl
      have hrv := va_recv hKc hPc (ci := 0) (q0 := 0) rfl rfl
      refine va_calli (va_runV (As := []) (rest := []) ⟨hx, hb, hml, hown, hts⟩ (c_X0_isWhole l dC dI H.size h0 h0_0 j57_h0_f1 j57_h0_f2 j57_h0_f3 h0_0k j57_h0_0c g_j57_h0_f1 g_j57_h0_f2 g_j57_h0_f3 a_j57_h0_0c) (cwV 0 hts gf_c_X0_faultOf_c_X0_isWhole rfl rfl rfl mdV_X0_isWhole ⟨Nat.le_of_ble_eq_true rfl, Nat.le_of_ble_eq_true rfl⟩) ⟨fun a U g mk q => by obtain ⟨q0, q1, qP, qK, qD⟩ := q; exact ⟨q0, q1, qP, va_K.moved (u := U) (U := U.calling g mk a) (Vm.Alike.refl U.vm) qK, qD⟩, hrv, fun U hU hW => ⟨rfl, by rw [hU], by rw [hU]; exact hPc, va_K.moved hW.alike hKc, hDc.weaken (fun _ _ _ _ => trivial)⟩⟩ rfl rfl hl.1 rfl (lv_room (Nat.le_of_ble_eq_true rfl)) dX0_faultOf_69 ⟨Nat.le_of_ble_eq_true rfl, Nat.le_of_ble_eq_true rfl⟩) hS (fun q _ h => hFc q h) hFc (fun r_16 u t H1 locs ht hvm hw hB hz1 hk1 hS => ?_)
      obtain ⟨hP1, hK1, hD1⟩ := hB
      rw [ht] at hP1
      obtain ⟨hP, hD⟩ := cl_put (w1 := (wd_c_X0_isWhole h0 h0_0 j57_h0_f1 j57_h0_f2 j57_h0_f3 h0_0 h0_0k j57_h0_0c)) (nw := (wd_c_X0_faultOf h0 h0_0 j57_h0_f1 j57_h0_f2 j57_h0_f3 h0_0 h0_0k j57_h0_0c h1 h1_0 h1_f1 x_4 x_5 h1_0 h1_0k h1_0c)) hP hD [0, 1] [4, 5, 2, 3] 4 rfl hqc (by decide +kernel) rfl hk1 hFc hP1 hD1
      generalize H1 = H at hP hS ⊢
      as_aux_lemma =>
      rcases hw with h_17 | ⟨h_18, h_19, h_20⟩
      · rw [h_17]
        refine lv_if_ne (tgt := 83) hx hb dX0_faultOf_72 rfl (fun c_21 => absurd c_21 (by decide +kernel)) (fun c_21 => ?_)
        refine lv_aload_n hx hb dX0_faultOf_75 rfl (lv_at hl 1 rfl) ?_
        refine lv_aload_n hx hb dX0_faultOf_76 rfl (lv_at hl 1 rfl) ?_
        refine va_get (D := (dC, dI)) (ci := 9) (v := .int h1_f1) (C := RX9) (T := TX9) (N := 4) hx hb hts iw_c_X0_faultOf_X9 hown hK hP 2 rfl rfl 1 (by decide +kernel) (hts (.fieldLink RX0 59 "BuoyVote$Tape" "length" "I") (List.mem_of_getElem? (i := 132) rfl)) (fun _ h9 => h9) rfl dX0_faultOf_77 ?_
        obtain ⟨hPc, hDc, hFc, hqc⟩ := cl_cut (wc := (wd_c_X9_refuse h1 h1_0 h1_f1 x_4 x_5)) hP hD hS hA [2] (by decide +kernel) rfl
        have hKc := hK.sub (tys' := []) [] rfl
        have hrv := va_recv hKc hPc (ci := 9) (q0 := 0) rfl rfl
        refine va_callv (va_runV (As := [.int h1_f1]) (rest := []) ⟨hx, hb, hml, hown, hts⟩ (c_X9_refuse l dC dI H.size h1 h1_f1 h1_0 h1_f1 x_4 x_5 g_h1_f1 g_h1_f1 h_6 (RG_w h_13 (by decide +kernel))) (cwV 1 hts gf_c_X0_faultOf_c_X9_refuse rfl rfl rfl mdV_X9_refuse ⟨Nat.le_of_ble_eq_true rfl, Nat.le_of_ble_eq_true rfl⟩) ⟨fun a U g mk q => by obtain ⟨q0, q1, qP, qK, qD⟩ := q; exact ⟨q0, q1, qP, va_K.moved (u := U) (U := U.calling g mk a) (Vm.Alike.refl U.vm) qK, qD⟩, hrv, fun U hU hW => ⟨rfl, by rw [hU], by rw [hU]; exact hPc, va_K.moved hW.alike hKc, hDc.weaken (fun _ _ _ _ => trivial)⟩⟩ rfl rfl hl.1 rfl (lv_room (Nat.le_of_ble_eq_true rfl)) dX0_faultOf_80 ⟨Nat.le_of_ble_eq_true rfl, Nat.le_of_ble_eq_true rfl⟩) hS (fun q _ h => hFc q h) hFc (fun x_23 t H1 locs ht hvm hw hB hz1 hk1 hS => ?_)
        obtain ⟨hP1, hK1, hD1⟩ := hB
        rw [ht] at hP1
        obtain ⟨hP, hD⟩ := cl_put (w1 := (wd_c_X9_refuse h1 h1_0 h1_f1 x_4 x_23)) (nw := (wd_c_X0_faultOf h0 h0_0 j57_h0_f1 j57_h0_f2 j57_h0_f3 h0_0 h0_0k j57_h0_0c h1 h1_0 h1_f1 x_4 x_23 h1_0 h1_0k h1_0c)) hP hD [2] [0, 1, 4, 3] 4 rfl hqc (by decide +kernel) rfl hk1 hFc hP1 hD1
        generalize H1 = H at hP hS ⊢
        as_aux_lemma =>
        have h_24 := hw
        exact hU _ _ _ (J83 j57_h0_f1 j57_h0_f2 j57_h0_f3 j57_h0_0c x_4 x_23 g_h0_f1 g_h0_f2 g_h0_f3 g_h1_f1 g_h1_f2 g_h1_f3 g_j57_h0_f1 g_j57_h0_f2 g_j57_h0_f3 h_6 (RG_w h_24 (by decide +kernel)) a_j57_h0_0c _ _ _ hP hD hS (lv_sub hl [1] rfl))
      · rw [h_18]
        refine lv_if_ne (tgt := 83) hx hb dX0_faultOf_72 rfl (fun c_25 => ?_) (fun c_25 => absurd c_25 (by decide +kernel))
        exact hU _ _ _ (J83 j57_h0_f1 j57_h0_f2 j57_h0_f3 j57_h0_0c x_4 x_5 g_h0_f1 g_h0_f2 g_h0_f3 g_h1_f1 g_h1_f2 g_h1_f3 (RG_w h_19 (by decide +kernel)) (RG_w h_20 (by decide +kernel)) g_j57_h0_f3 h_6 (RG_w h_13 (by decide +kernel)) a_j57_h0_0c _ _ _ hP hD hS (lv_sub hl [1] rfl))
  have J27 : ∀ (n27 : Nat) (j27_l2 : Int32) (j27_h0_f1 : Int32) (j27_h0_f2 : Int32) (j27_h0_f3 : Int32) (j27_h0_0c : Nat → Int32) (j27_h1_f2 : Int32) (j27_h1_f3 : Int32) (hM27 : MU j27_l2 < n27) (g_h0_f1 : RG h0_f1 0 8) (g_h0_f2 : RG h0_f2 0 3) (g_h0_f3 : RG h0_f3 0 1) (g_h1_f1 : RG h1_f1 0 240) (g_h1_f2 : RG h1_f2 0 240) (g_h1_f3 : RG h1_f3 (-1) 240) (g_j27_h0_f1 : RG j27_h0_f1 0 8) (g_j27_h0_f2 : RG j27_h0_f2 0 3) (g_j27_h0_f3 : RG j27_h0_f3 0 1) (g_j27_h1_f2 : RG j27_h1_f2 0 240) (g_j27_h1_f3 : RG j27_h1_f3 (-1) (-1)) (g_j27_l2 : RG j27_l2 0 240) (a_j27_h0_0c : AI j27_h0_0c (-1) 99) (H : Heap) (locs : List Loc) (ls : Array Slot) (hP : va_P (dC, dI) vwCl (wd_c_X0_faultOf h0 h0_0 j27_h0_f1 j27_h0_f2 j27_h0_f3 h0_0 h0_0k j27_h0_0c h1 h1_0 h1_f1 j27_h1_f2 j27_h1_f3 h1_0 h1_0k h1_0c) H) (hD : va_D A (wd_c_X0_faultOf h0 h0_0 j27_h0_f1 j27_h0_f2 j27_h0_f3 h0_0 h0_0k j27_h0_0c h1 h1_0 h1_f1 j27_h1_f2 j27_h1_f3 h1_0 h1_0k h1_0c)) (hS : va_S A s.heap H locs) (hl : lv_has ls 3 [(2, .int j27_l2), (0, .ref h0), (1, .ref h1)]), G H locs (F0 m 27 ls []) := by
    as_aux_lemma =>
    intro n27
    induction n27 with
    | zero => intros; exact absurd (by assumption) (Nat.not_lt_zero _)
    | succ n27 ih27 =>
      intro j27_l2 j27_h0_f1 j27_h0_f2 j27_h0_f3 j27_h0_0c j27_h1_f2 j27_h1_f3 hM27 g_h0_f1 g_h0_f2 g_h0_f3 g_h1_f1 g_h1_f2 g_h1_f3 g_j27_h0_f1 g_j27_h0_f2 g_j27_h0_f3 g_j27_h1_f2 g_j27_h1_f3 g_j27_l2 a_j27_h0_0c H locs ls hP hD hS hl
      refine hG _ _ _ ?_
      refine lv_iload_n hx hb dX0_faultOf_27 rfl (lv_at hl 0 rfl) ?_
      refine lv_sipush (v := 240) hx hb dX0_faultOf_28 kc_sipush_240 ?_
      refine lv_icmp_ge (tgt := 57) hx hb dX0_faultOf_31 rfl (fun c_26 => ?_) (fun c_26 => ?_)
      · have g_27 : RG j27_l2 240 240 := RG_le2 (RG_k 240 240 rfl) g_j27_l2 c_26 (by decide +kernel)
        exact hU _ _ _ (J57 j27_h0_f1 j27_h0_f2 j27_h0_f3 j27_h0_0c j27_h1_f2 j27_h1_f3 g_h0_f1 g_h0_f2 g_h0_f3 g_h1_f1 g_h1_f2 g_h1_f3 g_j27_h0_f1 g_j27_h0_f2 g_j27_h0_f3 g_j27_h1_f2 (RG_w g_j27_h1_f3 (by decide +kernel)) a_j27_h0_0c _ _ _ hP hD hS (lv_sub hl [1, 2] rfl))
      · have d_28 := Int32.not_le.mp c_26
        have g_29 : RG j27_l2 0 239 := RG_lt1 g_j27_l2 (RG_k 240 240 rfl) d_28 (by decide +kernel)
        refine lv_aload_n hx hb dX0_faultOf_34 rfl (lv_at hl 1 rfl) ?_
        as_aux_lemma =>
        refine lv_aload_n hx hb dX0_faultOf_35 rfl (lv_at hl 2 rfl) ?_
        obtain ⟨hPc, hDc, hFc, hqc⟩ := cl_cut (wc := (wd_c_X0_readClause h1 h1_0 h1_f1 j27_h1_f2 j27_h1_f3 h1_0 h1_0k h1_0c h0 h0_0 j27_h0_f1 j27_h0_f2 j27_h0_f3 h0_0 h0_0k j27_h0_0c)) hP hD hS hA [2, 3, 0, 1] (by decide +kernel) rfl
        have hKc := hK.sub (tys' := [(h1_0k, .int), (h0_0k, .int)]) [1, 0] rfl
        have hrv := va_recv hKc hPc (ci := 0) (q0 := 2) rfl rfl
        refine va_callv (va_runV (As := [.ref h1]) (rest := []) ⟨hx, hb, hml, hown, hts⟩ (c_X0_readClause l dC dI H.size h0 h1 h1_0 h1_f1 j27_h1_f2 j27_h1_f3 h1_0k h1_0c h0_0 j27_h0_f1 j27_h0_f2 j27_h0_f3 h0_0k j27_h0_0c ts0 tv0 ts1 tv1 ta3 ta0 ts2 tv2 ts3 tv3 ta1 ta2 g_h1_f1 g_j27_h1_f2 (RG_w g_j27_h1_f3 (by decide +kernel)) a_h1_0c g_j27_h0_f1 g_j27_h0_f2 g_j27_h0_f3 a_j27_h0_0c) (cwV 1 hts gf_c_X0_faultOf_c_X0_readClause rfl rfl rfl mdV_X0_readClause ⟨Nat.le_of_ble_eq_true rfl, Nat.le_of_ble_eq_true rfl⟩) ⟨fun a U g mk q => by obtain ⟨q0, q1, qP, qK, qD, qE0, qE1, qE2, qE3, qE4, qE5, qE6, qE7, qE8, qE9, qE10, qE11, qE12, qE13, qE14, qE15, qE16, qE17, qE18, qE19, qE20, qE21, qE22, qE23, qE24, qE25, qE26, qE27, qE28⟩ := q; exact ⟨q0, q1, qP, va_K.moved (u := U) (U := U.calling g mk a) (Vm.Alike.refl U.vm) qK, qD, vk_R.same rfl qE0, va_Z.moved (u := U) (U := U.calling g mk a) (Vm.Alike.refl U.vm) qE1, va_OF.moved (u := U) (U := U.calling g mk a) (Vm.Alike.refl U.vm) qE2, va_O.moved (u := U) (U := U.calling g mk a) (Vm.Alike.refl U.vm) qE3, va_OF.moved (u := U) (U := U.calling g mk a) (Vm.Alike.refl U.vm) qE4, va_T.moved (u := U) (U := U.calling g mk a) (Vm.Alike.refl U.vm) qE5, vk_R.same rfl qE6, va_OF.moved (u := U) (U := U.calling g mk a) (Vm.Alike.refl U.vm) qE7, va_T.moved (u := U) (U := U.calling g mk a) (Vm.Alike.refl U.vm) qE8, va_OF.moved (u := U) (U := U.calling g mk a) (Vm.Alike.refl U.vm) qE9, va_O.moved (u := U) (U := U.calling g mk a) (Vm.Alike.refl U.vm) qE10, va_Z.moved (u := U) (U := U.calling g mk a) (Vm.Alike.refl U.vm) qE11, va_Z.moved (u := U) (U := U.calling g mk a) (Vm.Alike.refl U.vm) qE12, va_T.moved (u := U) (U := U.calling g mk a) (Vm.Alike.refl U.vm) qE13, va_T.moved (u := U) (U := U.calling g mk a) (Vm.Alike.refl U.vm) qE14, vk_R.same rfl qE15, va_OF.moved (u := U) (U := U.calling g mk a) (Vm.Alike.refl U.vm) qE16, va_T.moved (u := U) (U := U.calling g mk a) (Vm.Alike.refl U.vm) qE17, va_OF.moved (u := U) (U := U.calling g mk a) (Vm.Alike.refl U.vm) qE18, va_O.moved (u := U) (U := U.calling g mk a) (Vm.Alike.refl U.vm) qE19, vk_R.same rfl qE20, va_OF.moved (u := U) (U := U.calling g mk a) (Vm.Alike.refl U.vm) qE21, va_T.moved (u := U) (U := U.calling g mk a) (Vm.Alike.refl U.vm) qE22, va_OF.moved (u := U) (U := U.calling g mk a) (Vm.Alike.refl U.vm) qE23, va_O.moved (u := U) (U := U.calling g mk a) (Vm.Alike.refl U.vm) qE24, va_Z.moved (u := U) (U := U.calling g mk a) (Vm.Alike.refl U.vm) qE25, va_T.moved (u := U) (U := U.calling g mk a) (Vm.Alike.refl U.vm) qE26, va_Z.moved (u := U) (U := U.calling g mk a) (Vm.Alike.refl U.vm) qE27, va_T.moved (u := U) (U := U.calling g mk a) (Vm.Alike.refl U.vm) qE28⟩, hrv, fun U hU hW => ⟨rfl, by rw [hU], by rw [hU]; exact hPc, va_K.moved hW.alike hKc, hDc.weaken (fun _ _ _ _ => trivial), vk_R.warm hW hE_12, va_Z.moved hW.alike (by rw [hU]; exact (hE_10.kept hS.2.1).narrow hFc), va_OF.moved hW.alike (by rw [hU]; exact (hE_14.kept hS.2.1).narrow hFc), va_O.moved hW.alike (by rw [hU]; exact (hE_13.kept hS.2.1).narrow hFc), va_OF.moved hW.alike (by rw [hU]; exact (hE_15.kept hS.2.1).narrow hFc), va_T.moved hW.alike (by rw [hU]; exact (hE_16.kept hS.2.1).narrow hFc), vk_R.warm hW hE_17, va_OF.moved hW.alike (by rw [hU]; exact (hE_20.kept hS.2.1).narrow hFc), va_T.moved hW.alike (by rw [hU]; exact (hE_21.kept hS.2.1).narrow hFc), va_OF.moved hW.alike (by rw [hU]; exact (hE_19.kept hS.2.1).narrow hFc), va_O.moved hW.alike (by rw [hU]; exact (hE_18.kept hS.2.1).narrow hFc), va_Z.moved hW.alike (by rw [hU]; exact (hE_6.kept hS.2.1).narrow hFc), va_Z.moved hW.alike (by rw [hU]; exact (hE_0.kept hS.2.1).narrow hFc), va_T.moved hW.alike (by rw [hU]; exact (hE_1.kept hS.2.1).narrow hFc), va_T.moved hW.alike (by rw [hU]; exact (hE_7.kept hS.2.1).narrow hFc), vk_R.warm hW hE_22, va_OF.moved hW.alike (by rw [hU]; exact (hE_25.kept hS.2.1).narrow hFc), va_T.moved hW.alike (by rw [hU]; exact (hE_26.kept hS.2.1).narrow hFc), va_OF.moved hW.alike (by rw [hU]; exact (hE_24.kept hS.2.1).narrow hFc), va_O.moved hW.alike (by rw [hU]; exact (hE_23.kept hS.2.1).narrow hFc), vk_R.warm hW hE_27, va_OF.moved hW.alike (by rw [hU]; exact (hE_30.kept hS.2.1).narrow hFc), va_T.moved hW.alike (by rw [hU]; exact (hE_31.kept hS.2.1).narrow hFc), va_OF.moved hW.alike (by rw [hU]; exact (hE_29.kept hS.2.1).narrow hFc), va_O.moved hW.alike (by rw [hU]; exact (hE_28.kept hS.2.1).narrow hFc), va_Z.moved hW.alike (by rw [hU]; exact (hE_2.kept hS.2.1).narrow hFc), va_T.moved hW.alike (by rw [hU]; exact (hE_3.kept hS.2.1).narrow hFc), va_Z.moved hW.alike (by rw [hU]; exact (hE_4.kept hS.2.1).narrow hFc), va_T.moved hW.alike (by rw [hU]; exact (hE_5.kept hS.2.1).narrow hFc)⟩⟩ rfl rfl hl.1 rfl (lv_room (Nat.le_of_ble_eq_true rfl)) dX0_faultOf_36 ⟨Nat.le_of_ble_eq_true rfl, Nat.le_of_ble_eq_true rfl⟩) hS (fun q _ h => hFc q h) hFc (fun u t H1 locs ht hvm hw hB hz1 hk1 hS => ?_)
        obtain ⟨x_31, x_32, x_33, x_34, x_35, w_36⟩ := u
        obtain ⟨hP1, hK1, hD1⟩ := hB
        rw [ht] at hP1
        obtain ⟨hP, hD⟩ := cl_put (w1 := (wd_c_X0_readClause h1 h1_0 h1_f1 x_31 x_32 h1_0 h1_0k h1_0c h0 h0_0 x_33 x_34 x_35 h0_0 h0_0k w_36)) (nw := (wd_c_X0_faultOf h0 h0_0 x_33 x_34 x_35 h0_0 h0_0k w_36 h1 h1_0 h1_f1 x_31 x_32 h1_0 h1_0k h1_0c)) hP hD [2, 3, 0, 1] [6, 7, 4, 5] 4 rfl hqc (by decide +kernel) rfl hk1 hFc hP1 hD1
        generalize H1 = H at hP hS ⊢
        as_aux_lemma =>
        rcases hw with ⟨h_37, h_38, h_39, h_40, h_41, h_42⟩
        refine lv_aload_n hx hb dX0_faultOf_39 rfl (lv_at hl 2 rfl) ?_
        refine lv_bipush (v := 59) hx hb dX0_faultOf_40 kc_bipush_59 ?_
        obtain ⟨hPc, hDc, hFc, hqc⟩ := cl_cut (wc := (wd_c_X9_take h1 h1_0 h1_f1 x_31 x_32 h1_0 h1_0k h1_0c)) hP hD hS hA [2, 3] (by decide +kernel) rfl
        have hKc := hK.sub (tys' := [(h1_0k, .int)]) [1] rfl
        have hrv := va_recv hKc hPc (ci := 9) (q0 := 0) rfl rfl
        refine va_calli (va_runV (As := [.int 59]) (rest := []) ⟨hx, hb, hml, hown, hts⟩ (c_X9_take l dC dI H.size h1 59 h1_0 h1_f1 x_31 x_32 h1_0k h1_0c (RG_w (RG_k 59 59 rfl) (by decide +kernel)) g_h1_f1 h_37 h_38 a_h1_0c) (cwV 1 hts gf_c_X0_faultOf_c_X9_take rfl rfl rfl mdV_X9_take ⟨Nat.le_of_ble_eq_true rfl, Nat.le_of_ble_eq_true rfl⟩) ⟨fun a U g mk q => by obtain ⟨q0, q1, qP, qK, qD⟩ := q; exact ⟨q0, q1, qP, va_K.moved (u := U) (U := U.calling g mk a) (Vm.Alike.refl U.vm) qK, qD⟩, hrv, fun U hU hW => ⟨rfl, by rw [hU], by rw [hU]; exact hPc, va_K.moved hW.alike hKc, hDc.weaken (fun _ _ _ _ => trivial)⟩⟩ rfl rfl hl.1 rfl (lv_room (Nat.le_of_ble_eq_true rfl)) dX0_faultOf_42 ⟨Nat.le_of_ble_eq_true rfl, Nat.le_of_ble_eq_true rfl⟩) hS (fun q _ h => hFc q h) hFc (fun r_43 x_44 t H1 locs ht hvm hw hB hz1 hk1 hS => ?_)
        obtain ⟨hP1, hK1, hD1⟩ := hB
        rw [ht] at hP1
        obtain ⟨hP, hD⟩ := cl_put (w1 := (wd_c_X9_take h1 h1_0 h1_f1 x_44 x_32 h1_0 h1_0k h1_0c)) (nw := (wd_c_X0_faultOf h0 h0_0 x_33 x_34 x_35 h0_0 h0_0k w_36 h1 h1_0 h1_f1 x_44 x_32 h1_0 h1_0k h1_0c)) hP hD [2, 3] [0, 1, 4, 5] 4 rfl hqc (by decide +kernel) rfl hk1 hFc hP1 hD1
        generalize H1 = H at hP hS ⊢
        as_aux_lemma =>
        rcases hw with ⟨h_45, h_46, h_47⟩ | ⟨h_48, h_49, h_50, h_51, h_52⟩
        · rw [h_45]
          refine lv_if_ne (tgt := 51) hx hb dX0_faultOf_45 rfl (fun c_53 => absurd c_53 (by decide +kernel)) (fun c_53 => ?_)
          refine lv_goto (tgt := 57) hx hb dX0_faultOf_48 rfl ?_
          exact hU _ _ _ (J57 x_33 x_34 x_35 w_36 x_44 x_32 g_h0_f1 g_h0_f2 g_h0_f3 g_h1_f1 g_h1_f2 g_h1_f3 h_39 h_40 h_41 h_46 h_38 h_42 _ _ _ hP hD hS (lv_sub hl [1, 2] rfl))
        · rw [h_48]
          refine lv_if_ne (tgt := 51) hx hb dX0_faultOf_45 rfl (fun c_54 => ?_) (fun c_54 => absurd c_54 (by decide +kernel))
          obtain ⟨x_55, ex_55⟩ : ∃ y : Int32, y = j27_l2 + 1 := ⟨_, rfl⟩
          have g_56 : RG x_55 1 240 := RG_add ex_55 g_29 (RG_k 1 1 rfl) (by decide +kernel)
          refine lv_iinc (v := x_55) (lv' := [(2, .int x_55), (0, .ref h0), (1, .ref h1)]) hx hb dX0_faultOf_51 hl (k := 0) rfl (by rw [ex_55]; rfl) (Nat.le_of_ble_eq_true rfl) rfl (fun ls hl => ?_)
          refine lv_goto (tgt := 27) hx hb dX0_faultOf_54 rfl ?_
          exact hU _ _ _ (ih27 x_55 x_33 x_34 x_35 w_36 x_44 x_32 (mu_s (MU_add ex_55 g_29 (q := 1) rfl (by decide +kernel)) hM27) g_h0_f1 g_h0_f2 g_h0_f3 (RG_w h_50 (by decide +kernel)) g_h1_f2 g_h1_f3 h_39 h_40 h_41 (RG_w h_49 (by decide +kernel)) h_51 (RG_w g_56 (by decide +kernel)) h_42 _ _ _ hP hD hS (lv_sub hl [0, 1, 2] rfl))
  refine hG _ _ _ ?_
  refine lv_aload_n hx hb dX0_faultOf_0 rfl (lv_at hl 0 rfl) ?_
  as_aux_lemma =>
  refine lv_iconst (v := 0) hx hb dX0_faultOf_1 kc_iconst_0 ?_
  refine va_put (D := (dC, dI)) (ci := 0) (v := .int 0) (ty := .int) (C := RX0) (T := TX0) (N := 4) hx hb hts iw_c_X0_faultOf_X0 tyX0 tyX0_ok nmX0 hown hK hP hD hS 0 rfl rfl 1 (by decide +kernel) (hts (.fieldLink RX0 21 "BuoyVote$Borough" "buoys" "I") (List.mem_of_getElem? (i := 1) rfl)) (fun _ h9 => h9) rfl (by decide +kernel) rfl rfl (Nat.le_of_ble_eq_true rfl) dX0_faultOf_2 (fun H locs hP hD hS => ?_)
  have hP : va_P (dC, dI) vwCl (wd_c_X0_faultOf h0 h0_0 0 h0_f2 h0_f3 h0_0 h0_0k h0_0c h1 h1_0 h1_f1 h1_f2 h1_f3 h1_0 h1_0k h1_0c) H := hP
  have hD : va_D A (wd_c_X0_faultOf h0 h0_0 0 h0_f2 h0_f3 h0_0 h0_0k h0_0c h1 h1_0 h1_f1 h1_f2 h1_f3 h1_0 h1_0k h1_0c) := hD
  refine lv_aload_n hx hb dX0_faultOf_5 rfl (lv_at hl 0 rfl) ?_
  refine lv_iconst (v := 0) hx hb dX0_faultOf_6 kc_iconst_0 ?_
  refine va_put (D := (dC, dI)) (ci := 0) (v := .int 0) (ty := .int) (C := RX0) (T := TX0) (N := 4) hx hb hts iw_c_X0_faultOf_X0 tyX0 tyX0_ok nmX0 hown hK hP hD hS 0 rfl rfl 2 (by decide +kernel) (hts (.fieldLink RX0 25 "BuoyVote$Borough" "boats" "I") (List.mem_of_getElem? (i := 2) rfl)) (fun _ h9 => h9) rfl (by decide +kernel) rfl rfl (Nat.le_of_ble_eq_true rfl) dX0_faultOf_7 (fun H locs hP hD hS => ?_)
  have hP : va_P (dC, dI) vwCl (wd_c_X0_faultOf h0 h0_0 0 0 h0_f3 h0_0 h0_0k h0_0c h1 h1_0 h1_f1 h1_f2 h1_f3 h1_0 h1_0k h1_0c) H := hP
  have hD : va_D A (wd_c_X0_faultOf h0 h0_0 0 0 h0_f3 h0_0 h0_0k h0_0c h1 h1_0 h1_f1 h1_f2 h1_f3 h1_0 h1_0k h1_0c) := hD
  refine lv_aload_n hx hb dX0_faultOf_10 rfl (lv_at hl 0 rfl) ?_
  refine lv_iconst (v := 0) hx hb dX0_faultOf_11 kc_iconst_0 ?_
  refine va_put (D := (dC, dI)) (ci := 0) (v := .int 0) (ty := .boolean) (C := RX0) (T := TX0) (N := 4) hx hb hts iw_c_X0_faultOf_X0 tyX0 tyX0_ok nmX0 hown hK hP hD hS 0 rfl rfl 3 (by decide +kernel) (hts (.fieldLink RX0 28 "BuoyVote$Borough" "ruled" "Z") (List.mem_of_getElem? (i := 3) rfl)) (fun _ h9 => h9) rfl (by decide +kernel) rfl rfl (Nat.le_of_ble_eq_true rfl) dX0_faultOf_12 (fun H locs hP hD hS => ?_)
  have hP : va_P (dC, dI) vwCl (wd_c_X0_faultOf h0 h0_0 0 0 0 h0_0 h0_0k h0_0c h1 h1_0 h1_f1 h1_f2 h1_f3 h1_0 h1_0k h1_0c) H := hP
  have hD : va_D A (wd_c_X0_faultOf h0 h0_0 0 0 0 h0_0 h0_0k h0_0c h1 h1_0 h1_f1 h1_f2 h1_f3 h1_0 h1_0k h1_0c) := hD
  refine lv_aload_n hx hb dX0_faultOf_15 rfl (lv_at hl 0 rfl) ?_
  as_aux_lemma =>
  refine lv_iconst (v := 0) hx hb dX0_faultOf_16 kc_iconst_0 ?_
  refine lv_iconst (v := 0) hx hb dX0_faultOf_17 kc_iconst_0 ?_
  obtain ⟨hPc, hDc, hFc, hqc⟩ := cl_cut (wc := (wd_c_X0_setUsual h0 h0_0 0 0 0 h0_0 h0_0k h0_0c)) hP hD hS hA [0, 1] (by decide +kernel) rfl
  have hKc := hK.sub (tys' := [(h0_0k, .int)]) [0] rfl
  have hrv := va_recv hKc hPc (ci := 0) (q0 := 0) rfl rfl
  refine va_callv (va_runV (As := [.int 0, .int 0]) (rest := []) ⟨hx, hb, hml, hown, hts⟩ (c_X0_setUsual l dC dI H.size h0 h0_0 0 0 0 h0_0k h0_0c ts1 tv1 ta3 ta0 (RG_w (RG_k 0 0 rfl) (by decide +kernel)) (RG_w (RG_k 0 0 rfl) (by decide +kernel)) (RG_w (RG_k 0 0 rfl) (by decide +kernel)) a_h0_0c) (cwV 2 hts gf_c_X0_faultOf_c_X0_setUsual rfl rfl rfl mdV_X0_setUsual ⟨Nat.le_of_ble_eq_true rfl, Nat.le_of_ble_eq_true rfl⟩) ⟨fun a U g mk q => by obtain ⟨q0, q1, qP, qK, qD, qE0, qE1, qE2, qE3, qE4, qE5, qE6, qE7, qE8, qE9⟩ := q; exact ⟨q0, q1, qP, va_K.moved (u := U) (U := U.calling g mk a) (Vm.Alike.refl U.vm) qK, qD, vk_R.same rfl qE0, va_OF.moved (u := U) (U := U.calling g mk a) (Vm.Alike.refl U.vm) qE1, va_T.moved (u := U) (U := U.calling g mk a) (Vm.Alike.refl U.vm) qE2, va_Z.moved (u := U) (U := U.calling g mk a) (Vm.Alike.refl U.vm) qE3, va_OF.moved (u := U) (U := U.calling g mk a) (Vm.Alike.refl U.vm) qE4, va_O.moved (u := U) (U := U.calling g mk a) (Vm.Alike.refl U.vm) qE5, va_Z.moved (u := U) (U := U.calling g mk a) (Vm.Alike.refl U.vm) qE6, va_Z.moved (u := U) (U := U.calling g mk a) (Vm.Alike.refl U.vm) qE7, va_T.moved (u := U) (U := U.calling g mk a) (Vm.Alike.refl U.vm) qE8, va_T.moved (u := U) (U := U.calling g mk a) (Vm.Alike.refl U.vm) qE9⟩, hrv, fun U hU hW => ⟨rfl, by rw [hU], by rw [hU]; exact hPc, va_K.moved hW.alike hKc, hDc.weaken (fun _ _ _ _ => trivial), vk_R.warm hW hE_17, va_OF.moved hW.alike (by rw [hU]; exact (hE_20.kept hS.2.1).narrow hFc), va_T.moved hW.alike (by rw [hU]; exact (hE_21.kept hS.2.1).narrow hFc), va_Z.moved hW.alike (by rw [hU]; exact (hE_10.kept hS.2.1).narrow hFc), va_OF.moved hW.alike (by rw [hU]; exact (hE_19.kept hS.2.1).narrow hFc), va_O.moved hW.alike (by rw [hU]; exact (hE_18.kept hS.2.1).narrow hFc), va_Z.moved hW.alike (by rw [hU]; exact (hE_6.kept hS.2.1).narrow hFc), va_Z.moved hW.alike (by rw [hU]; exact (hE_0.kept hS.2.1).narrow hFc), va_T.moved hW.alike (by rw [hU]; exact (hE_1.kept hS.2.1).narrow hFc), va_T.moved hW.alike (by rw [hU]; exact (hE_7.kept hS.2.1).narrow hFc)⟩⟩ rfl rfl hl.1 rfl (lv_room (Nat.le_of_ble_eq_true rfl)) dX0_faultOf_18 ⟨Nat.le_of_ble_eq_true rfl, Nat.le_of_ble_eq_true rfl⟩) hS (fun q _ h => hFc q h) hFc (fun w_58 t H1 locs ht hvm hw hB hz1 hk1 hS => ?_)
  obtain ⟨hP1, hK1, hD1⟩ := hB
  rw [ht] at hP1
  obtain ⟨hP, hD⟩ := cl_put (w1 := (wd_c_X0_setUsual h0 h0_0 0 0 0 h0_0 h0_0k w_58)) (nw := (wd_c_X0_faultOf h0 h0_0 0 0 0 h0_0 h0_0k w_58 h1 h1_0 h1_f1 h1_f2 h1_f3 h1_0 h1_0k h1_0c)) hP hD [0, 1] [4, 5, 2, 3] 4 rfl hqc (by decide +kernel) rfl hk1 hFc hP1 hD1
  generalize H1 = H at hP hS ⊢
  as_aux_lemma =>
  have h_59 := hw
  refine lv_aload_n hx hb dX0_faultOf_21 rfl (lv_at hl 1 rfl) ?_
  obtain ⟨hPc, hDc, hFc, hqc⟩ := cl_cut (wc := (wd_c_X9_rewind h1 h1_0 h1_f1 h1_f2 h1_f3)) hP hD hS hA [2] (by decide +kernel) rfl
  have hKc := hK.sub (tys' := []) [] rfl
  have hrv := va_recv hKc hPc (ci := 9) (q0 := 0) rfl rfl
  refine va_callv (va_runV (As := []) (rest := []) ⟨hx, hb, hml, hown, hts⟩ (c_X9_rewind l dC dI H.size h1 h1_0 h1_f1 h1_f2 h1_f3 g_h1_f1 g_h1_f2 g_h1_f3) (cwV 0 hts gf_c_X0_faultOf_c_X9_rewind rfl rfl rfl mdV_X9_rewind ⟨Nat.le_of_ble_eq_true rfl, Nat.le_of_ble_eq_true rfl⟩) ⟨fun a U g mk q => by obtain ⟨q0, q1, qP, qK, qD⟩ := q; exact ⟨q0, q1, qP, va_K.moved (u := U) (U := U.calling g mk a) (Vm.Alike.refl U.vm) qK, qD⟩, hrv, fun U hU hW => ⟨rfl, by rw [hU], by rw [hU]; exact hPc, va_K.moved hW.alike hKc, hDc.weaken (fun _ _ _ _ => trivial)⟩⟩ rfl rfl hl.1 rfl (lv_room (Nat.le_of_ble_eq_true rfl)) dX0_faultOf_22 ⟨Nat.le_of_ble_eq_true rfl, Nat.le_of_ble_eq_true rfl⟩) hS (fun q _ h => hFc q h) hFc (fun u t H1 locs ht hvm hw hB hz1 hk1 hS => ?_)
  obtain ⟨hP1, hK1, hD1⟩ := hB
  rw [ht] at hP1
  obtain ⟨hP, hD⟩ := cl_put (w1 := (wd_c_X9_rewind h1 h1_0 h1_f1 0 (-1))) (nw := (wd_c_X0_faultOf h0 h0_0 0 0 0 h0_0 h0_0k w_58 h1 h1_0 h1_f1 0 (-1) h1_0 h1_0k h1_0c)) hP hD [2] [0, 1, 4, 3] 4 rfl hqc (by decide +kernel) rfl hk1 hFc hP1 hD1
  generalize H1 = H at hP hS ⊢
  as_aux_lemma =>
  have h_61 := hw
  refine lv_iconst (v := 0) hx hb dX0_faultOf_25 kc_iconst_0 ?_
  refine lv_istore_n (lv' := [(2, .int 0), (0, .ref h0), (1, .ref h1)]) hx hb dX0_faultOf_26 rfl hl (Nat.le_of_ble_eq_true rfl) rfl (fun ls hl => ?_)
  exact hU _ _ _ (J27 _ 0 0 0 0 w_58 0 (-1) (Nat.lt_succ_self _) g_h0_f1 g_h0_f2 g_h0_f3 g_h1_f1 g_h1_f2 g_h1_f3 (RG_w (RG_k 0 0 rfl) (by decide +kernel)) (RG_w (RG_k 0 0 rfl) (by decide +kernel)) (RG_w (RG_k 0 0 rfl) (by decide +kernel)) (RG_w (RG_k 0 0 rfl) (by decide +kernel)) (RG_k (-1) (-1) rfl) (RG_w (RG_k 0 0 rfl) (by decide +kernel)) h_59 _ _ _ hP hD hS (lv_sub hl [0, 1, 2] rfl))
noncomputable def wd_c_X5_spare (a0 : Nat) (a1 : Nat) (a2 : Int32) (a3 : Int32) (a4 : Nat) (a5 : Nat) (a6 : ClassId) (a7 : Nat → Option Nat) : va_W := [(a0, .inr (5, [.ref a1, .int a2, .int a3, .ref a4])), (a5, .inl (a6, 5, .inr (.inr (.inr (.inr a7)))))]
noncomputable def wf_c_X5_spare : List Cond := List.cons (.code yX5_spare cX5_spare 1 (some (.object "BuoyVote$Law"))) (@HAppend.hAppend (List Cond) (List Cond) (List Cond) _ [.fieldLink RX5 11 "BuoyVote$LawBook" "laws" "[LBuoyVote$Law;", .fieldLink RX5 26 "BuoyVote$LawBook" "size" "I"] wsX50)
theorem iw_c_X5_spare_X5 : ∀ w ∈ wsX50, w ∈ wf_c_X5_spare := fun w h => List.mem_cons_of_mem _ (List.mem_append_right _ h)
set_option maxHeartbeats 4000000 in
set_option maxRecDepth 100000 in
theorem c_X5_spare (l : Launch) (dC : Nat → ClassId) (dI : Nat → Nat → Nat) (sz : Nat) (h0 : Nat) (h0_0 : Nat) (h0_f1 : Int32) (h0_f2 : Int32) (h0_3 : Nat) (h0_0k : ClassId) (h0_0c : Nat → Option Nat) (h0_0_e0 : Nat) (h0_0_e1 : Nat) (h0_0_e2 : Nat) (h0_0_e3 : Nat) (h0_0_e4 : Nat) (g_h0_f1 : RG h0_f1 0 4) (e_h0_0_e0 : h0_0c 0 = some h0_0_e0) (e_h0_0_e1 : h0_0c 1 = some h0_0_e1) (e_h0_0_e2 : h0_0c 2 = some h0_0_e2) (e_h0_0_e3 : h0_0c 3 = some h0_0_e3) (e_h0_0_e4 : h0_0c 4 = some h0_0_e4) : Met l yX5_spare wf_c_X5_spare ({ frames := 0, cells := 0, slots := 0, locals := 0 }) (va_Pc [.ref h0] (fun U => U.heap.size = sz ∧ va_P (dC, dI) vwCl (wd_c_X5_spare h0 h0_0 h0_f1 h0_f2 h0_3 h0_0 h0_0k h0_0c) U.heap ∧ va_K (dC, dI) vwCl [(h0_0k, .object RX4)] U ∧ va_D (fun _ => True) (wd_c_X5_spare h0 h0_0 h0_f1 h0_f2 h0_3 h0_0 h0_0k h0_0c))) (va_Qr (fun (u : (Nat)) => (u = h0_0_e0 ∧ RG h0_f1 0 0) ∨ (u = h0_0_e1 ∧ RG h0_f1 1 1) ∨ (u = h0_0_e2 ∧ RG h0_f1 2 2) ∨ (u = h0_0_e3 ∧ RG h0_f1 3 3) ∨ (u = h0_0_e4 ∧ RG h0_f1 4 4)) (fun (u : (Nat)) (ra : Nat) t => ra = u ∧ va_P (dC, dI) vwCl (wd_c_X5_spare h0 h0_0 h0_f1 h0_f2 h0_3 h0_0 h0_0k h0_0c) t.heap ∧ va_K (dC, dI) vwCl [] t ∧ va_D (va_A (wd_c_X5_spare h0 h0_0 h0_f1 h0_f2 h0_3 h0_0 h0_0k h0_0c) sz) (wd_c_X5_spare h0 h0_0 h0_f1 h0_f2 h0_3 h0_0 h0_0k h0_0c)) (va_A (wd_c_X5_spare h0 h0_0 h0_f1 h0_f2 h0_3 h0_0 h0_0k h0_0c) sz)) 0 0 (va_A (wd_c_X5_spare h0 h0_0 h0_f1 h0_f2 h0_3 h0_0 h0_0k h0_0c) sz) := by
  refine Met.ofW (cc := cX5_spare) (maxL := 1) (ret := (some (.object "BuoyVote$Law"))) (by decide +kernel) rfl ?_
  intro p e s m args below meth c s₁ B hml hv
  obtain ⟨rfl, hsz, hP, hK, hD0⟩ := hv
  have hx := B.exec
  have hb := B.bytes
  have hr := B.returns
  have hts := atoms_spec (ws := wf_c_X5_spare) B.pre
  have hown : s.vm.findClass RX5 = some m.cls := findClass_of_methodNamed B.named
  have hlocks := B.notSynchronized
  subst hsz
  have hD := hD0.self (sz := s.heap.size)
  generalize hAe : va_A (wd_c_X5_spare h0 h0_0 h0_f1 h0_f2 h0_3 h0_0 h0_0k h0_0c) s.heap.size = A at hD ⊢
  have hA : ∀ q : Nat, s.heap.size ≤ q → A q := fun q h => by rw [← hAe]; exact Or.inr h
  have hP : va_P (dC, dI) vwCl (wd_c_X5_spare h0 h0_0 h0_f1 h0_f2 h0_3 h0_0 h0_0k h0_0c) s.heap := hP
  have hl := lv_entry ([.ref h0]) (n := 1) (Nat.le_of_ble_eq_true rfl)
  rw [lg_entry_eq]
  generalize (lg_sl ([.ref h0]) ++ List.replicate (1 - (lg_sl ([.ref h0])).length) Slot.unset).toArray = ls at hl ⊢
  have hl : lv_has ls 1 [(0, .ref h0)] := hl
  obtain ⟨H, hHe⟩ : ∃ H : Heap, s.heap = H := ⟨_, rfl⟩
  have hS : va_S A s.heap H [] := by rw [hHe]; exact va_S.rf
  have hP : va_P (dC, dI) vwCl (wd_c_X5_spare h0 h0_0 h0_f1 h0_f2 h0_3 h0_0 h0_0k h0_0c) H := by rw [← hHe]; exact hP
  rw [hHe]
  refine lv_aload_n hx hb dX5_spare_0 rfl (lv_at hl 0 rfl) ?_
  as_aux_lemma =>
  refine va_get (D := (dC, dI)) (ci := 5) (v := .ref h0_0) (C := RX5) (T := TX5) (N := 4) hx hb hts iw_c_X5_spare_X5 hown hK hP 0 rfl rfl 0 (by decide +kernel) (hts (.fieldLink RX5 11 "BuoyVote$LawBook" "laws" "[LBuoyVote$Law;") (List.mem_of_getElem? (i := 1) rfl)) (fun _ h9 => h9) rfl dX5_spare_1 ?_
  refine lv_aload_n hx hb dX5_spare_4 rfl (lv_at hl 0 rfl) ?_
  refine va_get (D := (dC, dI)) (ci := 5) (v := .int h0_f1) (C := RX5) (T := TX5) (N := 4) hx hb hts iw_c_X5_spare_X5 hown hK hP 0 rfl rfl 1 (by decide +kernel) (hts (.fieldLink RX5 26 "BuoyVote$LawBook" "size" "I") (List.mem_of_getElem? (i := 2) rfl)) (fun _ h9 => h9) rfl dX5_spare_5 ?_
  by_cases c_1 : h0_f1 = 0
  · refine W.eq (g2 := F0 m 8 ls [.int 0, .ref h0_0]) (by rw [c_1]) ?_
    have g_2 : RG h0_f1 0 0 := RG_k _ _ (by rw [c_1]; rfl)
    refine va_aldq hx hb hK hP 1 0 rfl rfl (by unfold vp_in; decide) dX5_spare_8 ?_
    rw [show h0_0c (0 : Int32).toNatClampNeg = some h0_0_e0 from e_h0_0_e0]
    refine W.eq (g2 := F0 m 9 ls [.ref h0_0_e0]) rfl ?_
    have hK9 := hK.sub (tys' := []) [] rfl
    exact W.aret (v := .ref h0_0_e0) hx hb hr (Or.inl ⟨_, rfl⟩) (Or.inr ⟨_, rfl⟩) (fun t ht hW => ⟨⟨h0_0_e0, h0_0_e0, rfl, (Or.inl ⟨rfl, g_2⟩), rfl, by rw [ht]; exact hP, va_K.moved hW.alike hK9, hD⟩, hS.F ht⟩) hS.2.2 dX5_spare_9
  by_cases c_3 : h0_f1 = 1
  · refine W.eq (g2 := F0 m 8 ls [.int 1, .ref h0_0]) (by rw [c_3]) ?_
    have g_4 : RG h0_f1 1 1 := RG_k _ _ (by rw [c_3]; rfl)
    refine va_aldq hx hb hK hP 1 0 rfl rfl (by unfold vp_in; decide) dX5_spare_8 ?_
    as_aux_lemma =>
    rw [show h0_0c (1 : Int32).toNatClampNeg = some h0_0_e1 from e_h0_0_e1]
    refine W.eq (g2 := F0 m 9 ls [.ref h0_0_e1]) rfl ?_
    have hK9 := hK.sub (tys' := []) [] rfl
    exact W.aret (v := .ref h0_0_e1) hx hb hr (Or.inl ⟨_, rfl⟩) (Or.inr ⟨_, rfl⟩) (fun t ht hW => ⟨⟨h0_0_e1, h0_0_e1, rfl, (Or.inr (Or.inl ⟨rfl, g_4⟩)), rfl, by rw [ht]; exact hP, va_K.moved hW.alike hK9, hD⟩, hS.F ht⟩) hS.2.2 dX5_spare_9
  by_cases c_5 : h0_f1 = 2
  · refine W.eq (g2 := F0 m 8 ls [.int 2, .ref h0_0]) (by rw [c_5]) ?_
    have g_6 : RG h0_f1 2 2 := RG_k _ _ (by rw [c_5]; rfl)
    refine va_aldq hx hb hK hP 1 0 rfl rfl (by unfold vp_in; decide) dX5_spare_8 ?_
    rw [show h0_0c (2 : Int32).toNatClampNeg = some h0_0_e2 from e_h0_0_e2]
    refine W.eq (g2 := F0 m 9 ls [.ref h0_0_e2]) rfl ?_
    have hK9 := hK.sub (tys' := []) [] rfl
    exact W.aret (v := .ref h0_0_e2) hx hb hr (Or.inl ⟨_, rfl⟩) (Or.inr ⟨_, rfl⟩) (fun t ht hW => ⟨⟨h0_0_e2, h0_0_e2, rfl, (Or.inr (Or.inr (Or.inl ⟨rfl, g_6⟩))), rfl, by rw [ht]; exact hP, va_K.moved hW.alike hK9, hD⟩, hS.F ht⟩) hS.2.2 dX5_spare_9
  by_cases c_7 : h0_f1 = 3
  · refine W.eq (g2 := F0 m 8 ls [.int 3, .ref h0_0]) (by rw [c_7]) ?_
    have g_8 : RG h0_f1 3 3 := RG_k _ _ (by rw [c_7]; rfl)
    refine va_aldq hx hb hK hP 1 0 rfl rfl (by unfold vp_in; decide) dX5_spare_8 ?_
    as_aux_lemma =>
    rw [show h0_0c (3 : Int32).toNatClampNeg = some h0_0_e3 from e_h0_0_e3]
    refine W.eq (g2 := F0 m 9 ls [.ref h0_0_e3]) rfl ?_
    have hK9 := hK.sub (tys' := []) [] rfl
    exact W.aret (v := .ref h0_0_e3) hx hb hr (Or.inl ⟨_, rfl⟩) (Or.inr ⟨_, rfl⟩) (fun t ht hW => ⟨⟨h0_0_e3, h0_0_e3, rfl, (Or.inr (Or.inr (Or.inr (Or.inl ⟨rfl, g_8⟩)))), rfl, by rw [ht]; exact hP, va_K.moved hW.alike hK9, hD⟩, hS.F ht⟩) hS.2.2 dX5_spare_9
  by_cases c_9 : h0_f1 = 4
  · refine W.eq (g2 := F0 m 8 ls [.int 4, .ref h0_0]) (by rw [c_9]) ?_
    have g_10 : RG h0_f1 4 4 := RG_k _ _ (by rw [c_9]; rfl)
    refine va_aldq hx hb hK hP 1 0 rfl rfl (by unfold vp_in; decide) dX5_spare_8 ?_
    rw [show h0_0c (4 : Int32).toNatClampNeg = some h0_0_e4 from e_h0_0_e4]
    refine W.eq (g2 := F0 m 9 ls [.ref h0_0_e4]) rfl ?_
    have hK9 := hK.sub (tys' := []) [] rfl
    exact W.aret (v := .ref h0_0_e4) hx hb hr (Or.inl ⟨_, rfl⟩) (Or.inr ⟨_, rfl⟩) (fun t ht hW => ⟨⟨h0_0_e4, h0_0_e4, rfl, (Or.inr (Or.inr (Or.inr (Or.inr ⟨rfl, g_10⟩)))), rfl, by rw [ht]; exact hP, va_K.moved hW.alike hK9, hD⟩, hS.F ht⟩) hS.2.2 dX5_spare_9
  exfalso
  have zc_1 := lv_neT c_1 (a := 0) (by decide +kernel)
  have zc_3 := lv_neT c_3 (a := 1) (by decide +kernel)
  have zc_5 := lv_neT c_5 (a := 2) (by decide +kernel)
  have zc_7 := lv_neT c_7 (a := 3) (by decide +kernel)
  have zc_9 := lv_neT c_9 (a := 4) (by decide +kernel)
  have zg1 := (g_h0_f1).1
  have zg2 := (g_h0_f1).2
  omega
noncomputable def wd_c_X9_expect (a0 : Nat) (a1 : Nat) (a2 : Int32) (a3 : Int32) (a4 : Int32) (a5 : Nat) (a6 : ClassId) (a7 : Nat → Int32) : va_W := [(a0, .inr (9, [.ref a1, .int a2, .int a3, .int a4])), (a5, .inl (a6, 240, .inl a7))]
noncomputable def wf_c_X9_expect : List Cond := List.cons (.code yX9_expect cX9_expect 2 none) (@HAppend.hAppend (List Cond) (List Cond) (List Cond) _ [.fieldLink RX9 15 "BuoyVote$Tape" "wrong" "I", .methodLink RX9 29 yX9_peek, .instanceMethod yX9_peek, .selects RX9 yX9_peek yX9_peek, .initialized RX9, .code yX9_peek cX9_peek 1 (some .int), .fieldLink RX9 22 "BuoyVote$Tape" "at" "I", .fieldLink RX9 19 "BuoyVote$Tape" "length" "I", .fieldLink RX9 11 "BuoyVote$Tape" "bytes" "[I", .methodLink RX9 25 yX9_refuse, .instanceMethod yX9_refuse, .selects RX9 yX9_refuse yX9_refuse, .code yX9_refuse cX9_refuse 2 none] wsX90)
theorem iw_c_X9_expect_X9 : ∀ w ∈ wsX90, w ∈ wf_c_X9_expect := fun w h => List.mem_cons_of_mem _ (List.mem_append_right _ h)
set_option maxRecDepth 20000 in
theorem gf_c_X9_expect_c_X9_refuse : GoodIn wf_c_X9_expect (wsV RX9 25 RX9 yX9_refuse wf_c_X9_refuse) := goodIn_app (gi_l [10, 11, 12, 5] rfl rfl) (gi_cons (j := 13) rfl rfl (goodIn_app (gi_l [1] rfl rfl) (goodIn_sub iw_c_X9_expect_X9 gw_X9)))
set_option maxRecDepth 20000 in
theorem gf_c_X9_expect_c_X9_peek : GoodIn wf_c_X9_expect (wsV RX9 29 RX9 yX9_peek wf_c_X9_peek) := goodIn_app (gi_l [2, 3, 4, 5] rfl rfl) (gi_cons (j := 6) rfl rfl (goodIn_app (gi_l [7, 8, 9] rfl rfl) (goodIn_sub iw_c_X9_expect_X9 gw_X9)))
set_option maxHeartbeats 4000000 in
set_option maxRecDepth 100000 in
theorem c_X9_expect (l : Launch) (dC : Nat → ClassId) (dI : Nat → Nat → Nat) (sz : Nat) (h0 : Nat) (p1 : Int32) (h0_0 : Nat) (h0_f1 : Int32) (h0_f2 : Int32) (h0_f3 : Int32) (h0_0k : ClassId) (h0_0c : Nat → Int32) (g_p1 : RG p1 0 239) (g_h0_f1 : RG h0_f1 0 240) (g_h0_f2 : RG h0_f2 0 240) (g_h0_f3 : RG h0_f3 (-1) 240) (a_h0_0c : AI h0_0c 0 255) : Met l yX9_expect wf_c_X9_expect ({ frames := 1, cells := 0, slots := 0, locals := 21 }) (va_Pc [.ref h0, .int p1] (fun U => U.heap.size = sz ∧ va_P (dC, dI) vwCl (wd_c_X9_expect h0 h0_0 h0_f1 h0_f2 h0_f3 h0_0 h0_0k h0_0c) U.heap ∧ va_K (dC, dI) vwCl [(h0_0k, .int)] U ∧ va_D (fun _ => True) (wd_c_X9_expect h0 h0_0 h0_f1 h0_f2 h0_f3 h0_0 h0_0k h0_0c))) (va_Qv (fun (u : (Int32) × (Int32)) => (RG u.1 0 240 ∧ RG u.2 (-1) 240 ∧ h0_f2.toInt + 0 ≤ (u.1).toInt)) (fun (u : (Int32) × (Int32)) t => va_P (dC, dI) vwCl (wd_c_X9_expect h0 h0_0 h0_f1 (u.1) (u.2) h0_0 h0_0k h0_0c) t.heap ∧ va_K (dC, dI) vwCl [] t ∧ va_D (va_A (wd_c_X9_expect h0 h0_0 h0_f1 h0_f2 h0_f3 h0_0 h0_0k h0_0c) sz) (wd_c_X9_expect h0 h0_0 h0_f1 (u.1) (u.2) h0_0 h0_0k h0_0c)) (va_A (wd_c_X9_expect h0 h0_0 h0_f1 h0_f2 h0_f3 h0_0 h0_0k h0_0c) sz)) 0 0 (va_A (wd_c_X9_expect h0 h0_0 h0_f1 h0_f2 h0_f3 h0_0 h0_0k h0_0c) sz) := by
  refine Met.ofW (cc := cX9_expect) (maxL := 2) (ret := none) (by decide +kernel) rfl ?_
  intro p e s m args below meth c s₁ B hml hv
  obtain ⟨rfl, hsz, hP, hK, hD0⟩ := hv
  have hx := B.exec
  have hb := B.bytes
  have hr := B.returns
  have hts := atoms_spec (ws := wf_c_X9_expect) B.pre
  have hown : s.vm.findClass RX9 = some m.cls := findClass_of_methodNamed B.named
  have hlocks := B.notSynchronized
  subst hsz
  have hD := hD0.self (sz := s.heap.size)
  generalize hAe : va_A (wd_c_X9_expect h0 h0_0 h0_f1 h0_f2 h0_f3 h0_0 h0_0k h0_0c) s.heap.size = A at hD ⊢
  have hA : ∀ q : Nat, s.heap.size ≤ q → A q := fun q h => by rw [← hAe]; exact Or.inr h
  have hP : va_P (dC, dI) vwCl (wd_c_X9_expect h0 h0_0 h0_f1 h0_f2 h0_f3 h0_0 h0_0k h0_0c) s.heap := hP
  have hl := lv_entry ([.ref h0, .int p1]) (n := 2) (Nat.le_of_ble_eq_true rfl)
  rw [lg_entry_eq]
  generalize (lg_sl ([.ref h0, .int p1]) ++ List.replicate (2 - (lg_sl ([.ref h0, .int p1])).length) Slot.unset).toArray = ls at hl ⊢
  have hl : lv_has ls 2 [(0, .ref h0), (1, .int p1)] := hl
  obtain ⟨H, hHe⟩ : ∃ H : Heap, s.heap = H := ⟨_, rfl⟩
  have hS : va_S A s.heap H [] := by rw [hHe]; exact va_S.rf
  have hP : va_P (dC, dI) vwCl (wd_c_X9_expect h0 h0_0 h0_f1 h0_f2 h0_f3 h0_0 h0_0k h0_0c) H := by rw [← hHe]; exact hP
  rw [hHe]
  refine wj (fun G hG hU => ?_)
  as_aux_lemma =>
  have J29 : ∀ (j29_h0_f2 : Int32) (g_h0_f1 : RG h0_f1 0 240) (g_h0_f2 : RG h0_f2 0 240) (g_h0_f3 : RG h0_f3 (-1) 240) (g_j29_h0_f2 : RG j29_h0_f2 0 240) (g_p1 : RG p1 0 239) (r_h0_f2_j29_h0_f2 : h0_f2.toInt + 0 ≤ j29_h0_f2.toInt) (H : Heap) (locs : List Loc) (ls : Array Slot) (hP : va_P (dC, dI) vwCl (wd_c_X9_expect h0 h0_0 h0_f1 j29_h0_f2 h0_f3 h0_0 h0_0k h0_0c) H) (hD : va_D A (wd_c_X9_expect h0 h0_0 h0_f1 j29_h0_f2 h0_f3 h0_0 h0_0k h0_0c)) (hS : va_S A s.heap H locs) (hl : lv_has ls 2 [(0, .ref h0)]), G H locs (F0 m 29 ls []) := by
    as_aux_lemma =>
    intro j29_h0_f2 g_h0_f1 g_h0_f2 g_h0_f3 g_j29_h0_f2 g_p1 r_h0_f2_j29_h0_f2 H locs ls hP hD hS hl
    refine hG _ _ _ ?_
    refine lv_aload_n hx hb dX9_expect_29 rfl (lv_at hl 0 rfl) ?_
    refine lv_aload_n hx hb dX9_expect_30 rfl (lv_at hl 0 rfl) ?_
    refine va_get (D := (dC, dI)) (ci := 9) (v := .int j29_h0_f2) (C := RX9) (T := TX9) (N := 4) hx hb hts iw_c_X9_expect_X9 hown hK hP 0 rfl rfl 2 (by decide +kernel) (hts (.fieldLink RX9 22 "BuoyVote$Tape" "at" "I") (List.mem_of_getElem? (i := 7) rfl)) (fun _ h9 => h9) rfl dX9_expect_31 ?_
    obtain ⟨hPc, hDc, hFc, hqc⟩ := cl_cut (wc := (wd_c_X9_refuse h0 h0_0 h0_f1 j29_h0_f2 h0_f3)) hP hD hS hA [0] (by decide +kernel) rfl
    have hKc := hK.sub (tys' := []) [] rfl
    have hrv := va_recv hKc hPc (ci := 9) (q0 := 0) rfl rfl
    refine va_callv (va_runV (As := [.int j29_h0_f2]) (rest := []) ⟨hx, hb, hml, hown, hts⟩ (c_X9_refuse l dC dI H.size h0 j29_h0_f2 h0_0 h0_f1 j29_h0_f2 h0_f3 g_j29_h0_f2 g_h0_f1 g_j29_h0_f2 g_h0_f3) (cwV 1 hts gf_c_X9_expect_c_X9_refuse rfl rfl rfl mdV_X9_refuse ⟨Nat.le_of_ble_eq_true rfl, Nat.le_of_ble_eq_true rfl⟩) ⟨fun a U g mk q => by obtain ⟨q0, q1, qP, qK, qD⟩ := q; exact ⟨q0, q1, qP, va_K.moved (u := U) (U := U.calling g mk a) (Vm.Alike.refl U.vm) qK, qD⟩, hrv, fun U hU hW => ⟨rfl, by rw [hU], by rw [hU]; exact hPc, va_K.moved hW.alike hKc, hDc.weaken (fun _ _ _ _ => trivial)⟩⟩ rfl rfl hl.1 rfl (lv_room (Nat.le_of_ble_eq_true rfl)) dX9_expect_34 ⟨Nat.le_of_ble_eq_true rfl, Nat.le_of_ble_eq_true rfl⟩) hS (fun q _ h => hFc q h) hFc (fun x_2 t H1 locs ht hvm hw hB hz1 hk1 hS => ?_)
    obtain ⟨hP1, hK1, hD1⟩ := hB
    rw [ht] at hP1
    obtain ⟨hP, hD⟩ := cl_put (w1 := (wd_c_X9_refuse h0 h0_0 h0_f1 j29_h0_f2 x_2)) (nw := (wd_c_X9_expect h0 h0_0 h0_f1 j29_h0_f2 x_2 h0_0 h0_0k h0_0c)) hP hD [0] [2, 1] 2 rfl hqc (by decide +kernel) rfl hk1 hFc hP1 hD1
    generalize H1 = H at hP hS ⊢
    as_aux_lemma =>
    have h_3 := hw
    have hK9 := hK.sub (tys' := []) [] rfl
    exact W.vret hx hb hr (fun t ht hW => ⟨⟨(j29_h0_f2, x_2), rfl, ⟨g_j29_h0_f2, (RG_w h_3 (by decide +kernel)), (by have := r_h0_f2_j29_h0_f2; show h0_f2.toInt + 0 ≤ j29_h0_f2.toInt; omega)⟩, by rw [ht]; exact hP, va_K.moved hW.alike hK9, hD⟩, hS.F ht⟩) hS.2.2 dX9_expect_37
  refine hG _ _ _ ?_
  refine lv_aload_n hx hb dX9_expect_0 rfl (lv_at hl 0 rfl) ?_
  refine va_get (D := (dC, dI)) (ci := 9) (v := .int h0_f3) (C := RX9) (T := TX9) (N := 4) hx hb hts iw_c_X9_expect_X9 hown hK hP 0 rfl rfl 3 (by decide +kernel) (hts (.fieldLink RX9 15 "BuoyVote$Tape" "wrong" "I") (List.mem_of_getElem? (i := 1) rfl)) (fun _ h9 => h9) rfl dX9_expect_1 ?_
  refine lv_iconst (v := (-1)) hx hb dX9_expect_4 kc_iconst_m1 ?_
  refine lv_icmp_ne (tgt := 29) hx hb dX9_expect_5 rfl (fun c_4 => ?_) (fun c_4 => ?_)
  · have g_5 : RG h0_f3 0 240 := RG_ne1 g_h0_f3 (q := (-1)) rfl c_4 (by decide +kernel)
    exact hU _ _ _ (J29 h0_f2 g_h0_f1 g_h0_f2 (RG_w g_5 (by decide +kernel)) g_h0_f2 g_p1 (by omega) _ _ _ hP hD hS (lv_sub hl [0] rfl))
  · have g_6 : RG h0_f3 (-1) (-1) := RG_eq1 g_h0_f3 (RG_k (-1) (-1) rfl) c_4 (by decide +kernel)
    refine lv_aload_n hx hb dX9_expect_8 rfl (lv_at hl 0 rfl) ?_
    obtain ⟨hPc, hDc, hFc, hqc⟩ := cl_cut (wc := (wd_c_X9_peek h0 h0_0 h0_f1 h0_f2 h0_f3 h0_0 h0_0k h0_0c)) hP hD hS hA [0, 1] (by decide +kernel) rfl
    have hKc := hK.sub (tys' := [(h0_0k, .int)]) [0] rfl
    have hrv := va_recv hKc hPc (ci := 9) (q0 := 0) rfl rfl
    refine va_calli (va_runV (As := []) (rest := []) ⟨hx, hb, hml, hown, hts⟩ (c_X9_peek l dC dI H.size h0 h0_0 h0_f1 h0_f2 h0_f3 h0_0k h0_0c g_h0_f1 g_h0_f2 (RG_w g_6 (by decide +kernel)) a_h0_0c) (cwV 0 hts gf_c_X9_expect_c_X9_peek rfl rfl rfl mdV_X9_peek ⟨Nat.le_of_ble_eq_true rfl, Nat.le_of_ble_eq_true rfl⟩) ⟨fun a U g mk q => by obtain ⟨q0, q1, qP, qK, qD⟩ := q; exact ⟨q0, q1, qP, va_K.moved (u := U) (U := U.calling g mk a) (Vm.Alike.refl U.vm) qK, qD⟩, hrv, fun U hU hW => ⟨rfl, by rw [hU], by rw [hU]; exact hPc, va_K.moved hW.alike hKc, hDc.weaken (fun _ _ _ _ => trivial)⟩⟩ rfl rfl hl.1 rfl (lv_room (Nat.le_of_ble_eq_true rfl)) dX9_expect_9 ⟨Nat.le_of_ble_eq_true rfl, Nat.le_of_ble_eq_true rfl⟩) hS (fun q _ h => hFc q h) hFc (fun r_7 x_8 t H1 locs ht hvm hw hB hz1 hk1 hS => ?_)
    as_aux_lemma =>
    obtain ⟨hP1, hK1, hD1⟩ := hB
    rw [ht] at hP1
    obtain ⟨hP, hD⟩ := cl_put (w1 := (wd_c_X9_peek h0 h0_0 h0_f1 x_8 h0_f3 h0_0 h0_0k h0_0c)) (nw := (wd_c_X9_expect h0 h0_0 h0_f1 x_8 h0_f3 h0_0 h0_0k h0_0c)) hP hD [0, 1] [2, 3] 2 rfl hqc (by decide +kernel) rfl hk1 hFc hP1 hD1
    generalize H1 = H at hP hS ⊢
    as_aux_lemma =>
    rcases hw with ⟨h_9, h_10, h_11⟩ | ⟨h_12, h_13, h_14, h_15⟩
    · rw [h_9]
      refine lv_iload_n hx hb dX9_expect_12 rfl (lv_at hl 1 rfl) ?_
      refine lv_icmp_ne (tgt := 29) hx hb dX9_expect_13 rfl (fun c_16 => ?_) (fun c_16 => ?_)
      · exact hU _ _ _ (J29 x_8 g_h0_f1 g_h0_f2 (RG_w g_6 (by decide +kernel)) h_10 g_p1 (by have := h_11; omega) _ _ _ hP hD hS (lv_sub hl [0] rfl))
      · exact RG_dead (RG_eq1 (RG_k (-1) (-1) rfl) g_p1 c_16 (a' := 0) (b' := (-1)) (by decide +kernel)) (by decide +kernel)
    · refine lv_iload_n hx hb dX9_expect_12 rfl (lv_at hl 1 rfl) ?_
      refine lv_icmp_ne (tgt := 29) hx hb dX9_expect_13 rfl (fun c_17 => ?_) (fun c_17 => ?_)
      · exact hU _ _ _ (J29 x_8 (RG_w h_14 (by decide +kernel)) g_h0_f2 (RG_w g_6 (by decide +kernel)) (RG_w h_13 (by decide +kernel)) g_p1 (by have := h_15; omega) _ _ _ hP hD hS (lv_sub hl [0] rfl))
      · have g_18 : RG r_7 0 239 := RG_eq1 h_12 g_p1 c_17 (by decide +kernel)
        refine lv_aload_n hx hb dX9_expect_16 rfl (lv_at hl 0 rfl) ?_
        refine lv_dup hx hb dX9_expect_17 rfl ?_
        refine va_get (D := (dC, dI)) (ci := 9) (v := .int x_8) (C := RX9) (T := TX9) (N := 4) hx hb hts iw_c_X9_expect_X9 hown hK hP 0 rfl rfl 2 (by decide +kernel) (hts (.fieldLink RX9 22 "BuoyVote$Tape" "at" "I") (List.mem_of_getElem? (i := 7) rfl)) (fun _ h9 => h9) rfl dX9_expect_18 ?_
        refine lv_iconst (v := 1) hx hb dX9_expect_21 kc_iconst_1 ?_
        as_aux_lemma =>
        refine lv_iadd hx hb dX9_expect_22 ?_
        refine lv_topi (fun x_19 ex_19 => ?_)
        have g_20 : RG x_19 1 240 := RG_add ex_19 h_13 (RG_k 1 1 rfl) (by decide +kernel)
        have q_21 : x_19.toInt = x_8.toInt + 1 := eq_add ex_19 h_13 (q := 1) rfl (by decide +kernel)
        refine va_put (D := (dC, dI)) (ci := 9) (v := .int x_19) (ty := .int) (C := RX9) (T := TX9) (N := 4) hx hb hts iw_c_X9_expect_X9 tyX9 tyX9_ok nmX9 hown hK hP hD hS 0 rfl rfl 2 (by decide +kernel) (hts (.fieldLink RX9 22 "BuoyVote$Tape" "at" "I") (List.mem_of_getElem? (i := 7) rfl)) (fun _ h9 => h9) rfl (by decide +kernel) rfl rfl (Nat.le_of_ble_eq_true rfl) dX9_expect_23 (fun H locs hP hD hS => ?_)
        have hP : va_P (dC, dI) vwCl (wd_c_X9_expect h0 h0_0 h0_f1 x_19 h0_f3 h0_0 h0_0k h0_0c) H := hP
        have hD : va_D A (wd_c_X9_expect h0 h0_0 h0_f1 x_19 h0_f3 h0_0 h0_0k h0_0c) := hD
        refine lv_goto (tgt := 37) hx hb dX9_expect_26 rfl ?_
        have hK9 := hK.sub (tys' := []) [] rfl
        exact W.vret hx hb hr (fun t ht hW => ⟨⟨(x_19, h0_f3), rfl, ⟨(RG_w g_20 (by decide +kernel)), (RG_w g_6 (by decide +kernel)), (by have := h_15; have := q_21; show h0_f2.toInt + 0 ≤ x_19.toInt; omega)⟩, by rw [ht]; exact hP, va_K.moved hW.alike hK9, hD⟩, hS.F ht⟩) hS.2.2 dX9_expect_37
noncomputable def wd_c_X9_expect_1 (a0 : Nat) (a1 : Nat) (a2 : Int32) (a3 : Int32) (a4 : Int32) (a5 : Nat) (a6 : ClassId) (a7 : Nat → Int32) : va_W := [(a0, .inr (9, [.ref a1, .int a2, .int a3, .int a4])), (a5, .inl (a6, 240, .inl a7))]
noncomputable def wf_c_X9_expect_1 : List Cond := List.cons (.code yX9_expect cX9_expect 2 none) (@HAppend.hAppend (List Cond) (List Cond) (List Cond) _ [.fieldLink RX9 15 "BuoyVote$Tape" "wrong" "I", .methodLink RX9 29 yX9_peek, .instanceMethod yX9_peek, .selects RX9 yX9_peek yX9_peek, .initialized RX9, .code yX9_peek cX9_peek 1 (some .int), .fieldLink RX9 22 "BuoyVote$Tape" "at" "I", .fieldLink RX9 19 "BuoyVote$Tape" "length" "I", .fieldLink RX9 11 "BuoyVote$Tape" "bytes" "[I", .methodLink RX9 25 yX9_refuse, .instanceMethod yX9_refuse, .selects RX9 yX9_refuse yX9_refuse, .code yX9_refuse cX9_refuse 2 none] wsX90)
theorem iw_c_X9_expect_1_X9 : ∀ w ∈ wsX90, w ∈ wf_c_X9_expect_1 := fun w h => List.mem_cons_of_mem _ (List.mem_append_right _ h)
set_option maxRecDepth 20000 in
theorem gf_c_X9_expect_1_c_X9_refuse : GoodIn wf_c_X9_expect_1 (wsV RX9 25 RX9 yX9_refuse wf_c_X9_refuse) := goodIn_app (gi_l [10, 11, 12, 5] rfl rfl) (gi_cons (j := 13) rfl rfl (goodIn_app (gi_l [1] rfl rfl) (goodIn_sub iw_c_X9_expect_1_X9 gw_X9)))
set_option maxRecDepth 20000 in
theorem gf_c_X9_expect_1_c_X9_peek : GoodIn wf_c_X9_expect_1 (wsV RX9 29 RX9 yX9_peek wf_c_X9_peek) := goodIn_app (gi_l [2, 3, 4, 5] rfl rfl) (gi_cons (j := 6) rfl rfl (goodIn_app (gi_l [7, 8, 9] rfl rfl) (goodIn_sub iw_c_X9_expect_1_X9 gw_X9)))
set_option maxHeartbeats 4000000 in
set_option maxRecDepth 100000 in
theorem c_X9_expect_1 (l : Launch) (dC : Nat → ClassId) (dI : Nat → Nat → Nat) (sz : Nat) (h0 : Nat) (p1 : Int32) (h0_0 : Nat) (h0_f1 : Int32) (h0_f2 : Int32) (h0_f3 : Int32) (h0_0k : ClassId) (h0_0c : Nat → Int32) (g_p1 : RG p1 0 60) (g_h0_f1 : RG h0_f1 0 240) (g_h0_f2 : RG h0_f2 0 240) (g_h0_f3 : RG h0_f3 (-1) 240) (a_h0_0c : AI h0_0c 0 255) : Met l yX9_expect wf_c_X9_expect_1 ({ frames := 1, cells := 0, slots := 0, locals := 21 }) (va_Pc [.ref h0, .int p1] (fun U => U.heap.size = sz ∧ va_P (dC, dI) vwCl (wd_c_X9_expect_1 h0 h0_0 h0_f1 h0_f2 h0_f3 h0_0 h0_0k h0_0c) U.heap ∧ va_K (dC, dI) vwCl [(h0_0k, .int)] U ∧ va_D (fun _ => True) (wd_c_X9_expect_1 h0 h0_0 h0_f1 h0_f2 h0_f3 h0_0 h0_0k h0_0c))) (va_Qv (fun (u : (Int32) × (Int32)) => (RG u.1 0 240 ∧ RG u.2 (-1) 240 ∧ h0_f2.toInt + 0 ≤ (u.1).toInt)) (fun (u : (Int32) × (Int32)) t => va_P (dC, dI) vwCl (wd_c_X9_expect_1 h0 h0_0 h0_f1 (u.1) (u.2) h0_0 h0_0k h0_0c) t.heap ∧ va_K (dC, dI) vwCl [] t ∧ va_D (va_A (wd_c_X9_expect_1 h0 h0_0 h0_f1 h0_f2 h0_f3 h0_0 h0_0k h0_0c) sz) (wd_c_X9_expect_1 h0 h0_0 h0_f1 (u.1) (u.2) h0_0 h0_0k h0_0c)) (va_A (wd_c_X9_expect_1 h0 h0_0 h0_f1 h0_f2 h0_f3 h0_0 h0_0k h0_0c) sz)) 0 0 (va_A (wd_c_X9_expect_1 h0 h0_0 h0_f1 h0_f2 h0_f3 h0_0 h0_0k h0_0c) sz) := by
  refine Met.ofW (cc := cX9_expect) (maxL := 2) (ret := none) (by decide +kernel) rfl ?_
  intro p e s m args below meth c s₁ B hml hv
  obtain ⟨rfl, hsz, hP, hK, hD0⟩ := hv
  have hx := B.exec
  have hb := B.bytes
  have hr := B.returns
  have hts := atoms_spec (ws := wf_c_X9_expect_1) B.pre
  have hown : s.vm.findClass RX9 = some m.cls := findClass_of_methodNamed B.named
  have hlocks := B.notSynchronized
  subst hsz
  have hD := hD0.self (sz := s.heap.size)
  generalize hAe : va_A (wd_c_X9_expect_1 h0 h0_0 h0_f1 h0_f2 h0_f3 h0_0 h0_0k h0_0c) s.heap.size = A at hD ⊢
  have hA : ∀ q : Nat, s.heap.size ≤ q → A q := fun q h => by rw [← hAe]; exact Or.inr h
  have hP : va_P (dC, dI) vwCl (wd_c_X9_expect_1 h0 h0_0 h0_f1 h0_f2 h0_f3 h0_0 h0_0k h0_0c) s.heap := hP
  have hl := lv_entry ([.ref h0, .int p1]) (n := 2) (Nat.le_of_ble_eq_true rfl)
  rw [lg_entry_eq]
  generalize (lg_sl ([.ref h0, .int p1]) ++ List.replicate (2 - (lg_sl ([.ref h0, .int p1])).length) Slot.unset).toArray = ls at hl ⊢
  have hl : lv_has ls 2 [(0, .ref h0), (1, .int p1)] := hl
  obtain ⟨H, hHe⟩ : ∃ H : Heap, s.heap = H := ⟨_, rfl⟩
  have hS : va_S A s.heap H [] := by rw [hHe]; exact va_S.rf
  have hP : va_P (dC, dI) vwCl (wd_c_X9_expect_1 h0 h0_0 h0_f1 h0_f2 h0_f3 h0_0 h0_0k h0_0c) H := by rw [← hHe]; exact hP
  rw [hHe]
  refine wj (fun G hG hU => ?_)
  as_aux_lemma =>
  have J29 : ∀ (j29_h0_f2 : Int32) (g_h0_f1 : RG h0_f1 0 240) (g_h0_f2 : RG h0_f2 0 240) (g_h0_f3 : RG h0_f3 (-1) 240) (g_j29_h0_f2 : RG j29_h0_f2 0 240) (g_p1 : RG p1 0 60) (r_h0_f2_j29_h0_f2 : h0_f2.toInt + 0 ≤ j29_h0_f2.toInt) (H : Heap) (locs : List Loc) (ls : Array Slot) (hP : va_P (dC, dI) vwCl (wd_c_X9_expect_1 h0 h0_0 h0_f1 j29_h0_f2 h0_f3 h0_0 h0_0k h0_0c) H) (hD : va_D A (wd_c_X9_expect_1 h0 h0_0 h0_f1 j29_h0_f2 h0_f3 h0_0 h0_0k h0_0c)) (hS : va_S A s.heap H locs) (hl : lv_has ls 2 [(0, .ref h0)]), G H locs (F0 m 29 ls []) := by
    as_aux_lemma =>
    intro j29_h0_f2 g_h0_f1 g_h0_f2 g_h0_f3 g_j29_h0_f2 g_p1 r_h0_f2_j29_h0_f2 H locs ls hP hD hS hl
    refine hG _ _ _ ?_
    refine lv_aload_n hx hb dX9_expect_29 rfl (lv_at hl 0 rfl) ?_
    refine lv_aload_n hx hb dX9_expect_30 rfl (lv_at hl 0 rfl) ?_
    refine va_get (D := (dC, dI)) (ci := 9) (v := .int j29_h0_f2) (C := RX9) (T := TX9) (N := 4) hx hb hts iw_c_X9_expect_1_X9 hown hK hP 0 rfl rfl 2 (by decide +kernel) (hts (.fieldLink RX9 22 "BuoyVote$Tape" "at" "I") (List.mem_of_getElem? (i := 7) rfl)) (fun _ h9 => h9) rfl dX9_expect_31 ?_
    obtain ⟨hPc, hDc, hFc, hqc⟩ := cl_cut (wc := (wd_c_X9_refuse h0 h0_0 h0_f1 j29_h0_f2 h0_f3)) hP hD hS hA [0] (by decide +kernel) rfl
    have hKc := hK.sub (tys' := []) [] rfl
    have hrv := va_recv hKc hPc (ci := 9) (q0 := 0) rfl rfl
    refine va_callv (va_runV (As := [.int j29_h0_f2]) (rest := []) ⟨hx, hb, hml, hown, hts⟩ (c_X9_refuse l dC dI H.size h0 j29_h0_f2 h0_0 h0_f1 j29_h0_f2 h0_f3 g_j29_h0_f2 g_h0_f1 g_j29_h0_f2 g_h0_f3) (cwV 1 hts gf_c_X9_expect_1_c_X9_refuse rfl rfl rfl mdV_X9_refuse ⟨Nat.le_of_ble_eq_true rfl, Nat.le_of_ble_eq_true rfl⟩) ⟨fun a U g mk q => by obtain ⟨q0, q1, qP, qK, qD⟩ := q; exact ⟨q0, q1, qP, va_K.moved (u := U) (U := U.calling g mk a) (Vm.Alike.refl U.vm) qK, qD⟩, hrv, fun U hU hW => ⟨rfl, by rw [hU], by rw [hU]; exact hPc, va_K.moved hW.alike hKc, hDc.weaken (fun _ _ _ _ => trivial)⟩⟩ rfl rfl hl.1 rfl (lv_room (Nat.le_of_ble_eq_true rfl)) dX9_expect_34 ⟨Nat.le_of_ble_eq_true rfl, Nat.le_of_ble_eq_true rfl⟩) hS (fun q _ h => hFc q h) hFc (fun x_2 t H1 locs ht hvm hw hB hz1 hk1 hS => ?_)
    obtain ⟨hP1, hK1, hD1⟩ := hB
    rw [ht] at hP1
    obtain ⟨hP, hD⟩ := cl_put (w1 := (wd_c_X9_refuse h0 h0_0 h0_f1 j29_h0_f2 x_2)) (nw := (wd_c_X9_expect_1 h0 h0_0 h0_f1 j29_h0_f2 x_2 h0_0 h0_0k h0_0c)) hP hD [0] [2, 1] 2 rfl hqc (by decide +kernel) rfl hk1 hFc hP1 hD1
    generalize H1 = H at hP hS ⊢
    as_aux_lemma =>
    have h_3 := hw
    have hK9 := hK.sub (tys' := []) [] rfl
    exact W.vret hx hb hr (fun t ht hW => ⟨⟨(j29_h0_f2, x_2), rfl, ⟨g_j29_h0_f2, (RG_w h_3 (by decide +kernel)), (by have := r_h0_f2_j29_h0_f2; show h0_f2.toInt + 0 ≤ j29_h0_f2.toInt; omega)⟩, by rw [ht]; exact hP, va_K.moved hW.alike hK9, hD⟩, hS.F ht⟩) hS.2.2 dX9_expect_37
  refine hG _ _ _ ?_
  refine lv_aload_n hx hb dX9_expect_0 rfl (lv_at hl 0 rfl) ?_
  refine va_get (D := (dC, dI)) (ci := 9) (v := .int h0_f3) (C := RX9) (T := TX9) (N := 4) hx hb hts iw_c_X9_expect_1_X9 hown hK hP 0 rfl rfl 3 (by decide +kernel) (hts (.fieldLink RX9 15 "BuoyVote$Tape" "wrong" "I") (List.mem_of_getElem? (i := 1) rfl)) (fun _ h9 => h9) rfl dX9_expect_1 ?_
  refine lv_iconst (v := (-1)) hx hb dX9_expect_4 kc_iconst_m1 ?_
  refine lv_icmp_ne (tgt := 29) hx hb dX9_expect_5 rfl (fun c_4 => ?_) (fun c_4 => ?_)
  · have g_5 : RG h0_f3 0 240 := RG_ne1 g_h0_f3 (q := (-1)) rfl c_4 (by decide +kernel)
    exact hU _ _ _ (J29 h0_f2 g_h0_f1 g_h0_f2 (RG_w g_5 (by decide +kernel)) g_h0_f2 g_p1 (by omega) _ _ _ hP hD hS (lv_sub hl [0] rfl))
  · have g_6 : RG h0_f3 (-1) (-1) := RG_eq1 g_h0_f3 (RG_k (-1) (-1) rfl) c_4 (by decide +kernel)
    refine lv_aload_n hx hb dX9_expect_8 rfl (lv_at hl 0 rfl) ?_
    obtain ⟨hPc, hDc, hFc, hqc⟩ := cl_cut (wc := (wd_c_X9_peek h0 h0_0 h0_f1 h0_f2 h0_f3 h0_0 h0_0k h0_0c)) hP hD hS hA [0, 1] (by decide +kernel) rfl
    have hKc := hK.sub (tys' := [(h0_0k, .int)]) [0] rfl
    have hrv := va_recv hKc hPc (ci := 9) (q0 := 0) rfl rfl
    refine va_calli (va_runV (As := []) (rest := []) ⟨hx, hb, hml, hown, hts⟩ (c_X9_peek l dC dI H.size h0 h0_0 h0_f1 h0_f2 h0_f3 h0_0k h0_0c g_h0_f1 g_h0_f2 (RG_w g_6 (by decide +kernel)) a_h0_0c) (cwV 0 hts gf_c_X9_expect_1_c_X9_peek rfl rfl rfl mdV_X9_peek ⟨Nat.le_of_ble_eq_true rfl, Nat.le_of_ble_eq_true rfl⟩) ⟨fun a U g mk q => by obtain ⟨q0, q1, qP, qK, qD⟩ := q; exact ⟨q0, q1, qP, va_K.moved (u := U) (U := U.calling g mk a) (Vm.Alike.refl U.vm) qK, qD⟩, hrv, fun U hU hW => ⟨rfl, by rw [hU], by rw [hU]; exact hPc, va_K.moved hW.alike hKc, hDc.weaken (fun _ _ _ _ => trivial)⟩⟩ rfl rfl hl.1 rfl (lv_room (Nat.le_of_ble_eq_true rfl)) dX9_expect_9 ⟨Nat.le_of_ble_eq_true rfl, Nat.le_of_ble_eq_true rfl⟩) hS (fun q _ h => hFc q h) hFc (fun r_7 x_8 t H1 locs ht hvm hw hB hz1 hk1 hS => ?_)
    as_aux_lemma =>
    obtain ⟨hP1, hK1, hD1⟩ := hB
    rw [ht] at hP1
    obtain ⟨hP, hD⟩ := cl_put (w1 := (wd_c_X9_peek h0 h0_0 h0_f1 x_8 h0_f3 h0_0 h0_0k h0_0c)) (nw := (wd_c_X9_expect_1 h0 h0_0 h0_f1 x_8 h0_f3 h0_0 h0_0k h0_0c)) hP hD [0, 1] [2, 3] 2 rfl hqc (by decide +kernel) rfl hk1 hFc hP1 hD1
    generalize H1 = H at hP hS ⊢
    as_aux_lemma =>
    rcases hw with ⟨h_9, h_10, h_11⟩ | ⟨h_12, h_13, h_14, h_15⟩
    · rw [h_9]
      refine lv_iload_n hx hb dX9_expect_12 rfl (lv_at hl 1 rfl) ?_
      refine lv_icmp_ne (tgt := 29) hx hb dX9_expect_13 rfl (fun c_16 => ?_) (fun c_16 => ?_)
      · exact hU _ _ _ (J29 x_8 g_h0_f1 g_h0_f2 (RG_w g_6 (by decide +kernel)) h_10 g_p1 (by have := h_11; omega) _ _ _ hP hD hS (lv_sub hl [0] rfl))
      · exact RG_dead (RG_eq1 (RG_k (-1) (-1) rfl) g_p1 c_16 (a' := 0) (b' := (-1)) (by decide +kernel)) (by decide +kernel)
    · refine lv_iload_n hx hb dX9_expect_12 rfl (lv_at hl 1 rfl) ?_
      refine lv_icmp_ne (tgt := 29) hx hb dX9_expect_13 rfl (fun c_17 => ?_) (fun c_17 => ?_)
      · exact hU _ _ _ (J29 x_8 (RG_w h_14 (by decide +kernel)) g_h0_f2 (RG_w g_6 (by decide +kernel)) (RG_w h_13 (by decide +kernel)) g_p1 (by have := h_15; omega) _ _ _ hP hD hS (lv_sub hl [0] rfl))
      · have g_18 : RG r_7 0 60 := RG_eq1 h_12 g_p1 c_17 (by decide +kernel)
        refine lv_aload_n hx hb dX9_expect_16 rfl (lv_at hl 0 rfl) ?_
        refine lv_dup hx hb dX9_expect_17 rfl ?_
        refine va_get (D := (dC, dI)) (ci := 9) (v := .int x_8) (C := RX9) (T := TX9) (N := 4) hx hb hts iw_c_X9_expect_1_X9 hown hK hP 0 rfl rfl 2 (by decide +kernel) (hts (.fieldLink RX9 22 "BuoyVote$Tape" "at" "I") (List.mem_of_getElem? (i := 7) rfl)) (fun _ h9 => h9) rfl dX9_expect_18 ?_
        refine lv_iconst (v := 1) hx hb dX9_expect_21 kc_iconst_1 ?_
        as_aux_lemma =>
        refine lv_iadd hx hb dX9_expect_22 ?_
        refine lv_topi (fun x_19 ex_19 => ?_)
        have g_20 : RG x_19 1 240 := RG_add ex_19 h_13 (RG_k 1 1 rfl) (by decide +kernel)
        have q_21 : x_19.toInt = x_8.toInt + 1 := eq_add ex_19 h_13 (q := 1) rfl (by decide +kernel)
        refine va_put (D := (dC, dI)) (ci := 9) (v := .int x_19) (ty := .int) (C := RX9) (T := TX9) (N := 4) hx hb hts iw_c_X9_expect_1_X9 tyX9 tyX9_ok nmX9 hown hK hP hD hS 0 rfl rfl 2 (by decide +kernel) (hts (.fieldLink RX9 22 "BuoyVote$Tape" "at" "I") (List.mem_of_getElem? (i := 7) rfl)) (fun _ h9 => h9) rfl (by decide +kernel) rfl rfl (Nat.le_of_ble_eq_true rfl) dX9_expect_23 (fun H locs hP hD hS => ?_)
        have hP : va_P (dC, dI) vwCl (wd_c_X9_expect_1 h0 h0_0 h0_f1 x_19 h0_f3 h0_0 h0_0k h0_0c) H := hP
        have hD : va_D A (wd_c_X9_expect_1 h0 h0_0 h0_f1 x_19 h0_f3 h0_0 h0_0k h0_0c) := hD
        refine lv_goto (tgt := 37) hx hb dX9_expect_26 rfl ?_
        have hK9 := hK.sub (tys' := []) [] rfl
        exact W.vret hx hb hr (fun t ht hW => ⟨⟨(x_19, h0_f3), rfl, ⟨(RG_w g_20 (by decide +kernel)), (RG_w g_6 (by decide +kernel)), (by have := h_15; have := q_21; show h0_f2.toInt + 0 ≤ x_19.toInt; omega)⟩, by rw [ht]; exact hP, va_K.moved hW.alike hK9, hD⟩, hS.F ht⟩) hS.2.2 dX9_expect_37
noncomputable def wf_c_X4_startsUnit : List Cond := .code yX4_startsUnit cX4_startsUnit 1 (some .boolean) :: ([])
set_option maxHeartbeats 4000000 in
set_option maxRecDepth 100000 in
theorem c_X4_startsUnit (l : Launch) (dC : Nat → ClassId) (dI : Nat → Nat → Nat) (sz : Nat) (p0 : Int32) (g_p0 : RG p0 (-1) (-1)) : Met l yX4_startsUnit wf_c_X4_startsUnit ({ frames := 0, cells := 0, slots := 0, locals := 0 }) (va_Pc [.int p0] (fun U => U.heap.size = sz ∧ va_P (dC, dI) vwCl [] U.heap ∧ va_K (dC, dI) vwCl [] U ∧ va_D (fun _ => True) [])) (va_Qi (fun (r : Int32) (u : Unit) => (r = 0)) (fun (u : Unit) t => va_P (dC, dI) vwCl [] t.heap ∧ va_K (dC, dI) vwCl [] t ∧ va_D (va_A [] sz) []) (va_A [] sz)) 0 0 (va_A [] sz) := by
  refine Met.ofW (cc := cX4_startsUnit) (maxL := 1) (ret := (some .boolean)) (by decide +kernel) rfl ?_
  intro p e s m args below meth c s₁ B hml hv
  obtain ⟨rfl, hsz, hP, hK, hD0⟩ := hv
  have hx := B.exec
  have hb := B.bytes
  have hr := B.returns
  have hts := atoms_spec (ws := wf_c_X4_startsUnit) B.pre
  have hown : s.vm.findClass RX4 = some m.cls := findClass_of_methodNamed B.named
  have hlocks := B.notSynchronized
  subst hsz
  have hD := hD0.self (sz := s.heap.size)
  generalize hAe : va_A [] s.heap.size = A at hD ⊢
  have hA : ∀ q : Nat, s.heap.size ≤ q → A q := fun q h => by rw [← hAe]; exact Or.inr h
  have hP : va_P (dC, dI) vwCl [] s.heap := hP
  have hl := lv_entry ([.int p0]) (n := 1) (Nat.le_of_ble_eq_true rfl)
  rw [lg_entry_eq]
  generalize (lg_sl ([.int p0]) ++ List.replicate (1 - (lg_sl ([.int p0])).length) Slot.unset).toArray = ls at hl ⊢
  have hl : lv_has ls 1 [(0, .int p0)] := hl
  obtain ⟨H, hHe⟩ : ∃ H : Heap, s.heap = H := ⟨_, rfl⟩
  have hS : va_S A s.heap H [] := by rw [hHe]; exact va_S.rf
  have hP : va_P (dC, dI) vwCl [] H := by rw [← hHe]; exact hP
  rw [hHe]
  refine lv_iload_n hx hb dX4_startsUnit_0 rfl (lv_at hl 0 rfl) ?_
  as_aux_lemma =>
  refine lv_bipush (v := 33) hx hb dX4_startsUnit_1 kc_bipush_33 ?_
  refine lv_icmp_eq (tgt := 12) hx hb dX4_startsUnit_3 rfl (fun c_1 => ?_) (fun c_1 => ?_)
  · exact RG_dead (RG_eq1 g_p0 (RG_k 33 33 rfl) c_1 (a' := 33) (b' := (-1)) (by decide +kernel)) (by decide +kernel)
  · refine lv_iload_n hx hb dX4_startsUnit_6 rfl (lv_at hl 0 rfl) ?_
    refine lv_bipush (v := 40) hx hb dX4_startsUnit_7 kc_bipush_40 ?_
    refine lv_icmp_ne (tgt := 16) hx hb dX4_startsUnit_9 rfl (fun c_2 => ?_) (fun c_2 => ?_)
    · refine lv_iconst (v := 0) hx hb dX4_startsUnit_16 kc_iconst_0 ?_
      have hK9 := hK.sub (tys' := []) [] rfl
      exact W.zret (v := 0) hx hb hr rfl (fun t ht hW => ⟨⟨0, (), rfl, rfl, by rw [ht]; exact hP, va_K.moved hW.alike hK9, hD⟩, hS.F ht⟩) hS.2.2 dX4_startsUnit_17
    · exact RG_dead (RG_eq1 g_p0 (RG_k 40 40 rfl) c_2 (a' := 40) (b' := (-1)) (by decide +kernel)) (by decide +kernel)
noncomputable def wf_c_X4_startsUnit_1 : List Cond := .code yX4_startsUnit cX4_startsUnit 1 (some .boolean) :: ([])
set_option maxHeartbeats 4000000 in
set_option maxRecDepth 100000 in
theorem c_X4_startsUnit_1 (l : Launch) (dC : Nat → ClassId) (dI : Nat → Nat → Nat) (sz : Nat) (p0 : Int32) (g_p0 : RG p0 0 255) : Met l yX4_startsUnit wf_c_X4_startsUnit_1 ({ frames := 0, cells := 0, slots := 0, locals := 0 }) (va_Pc [.int p0] (fun U => U.heap.size = sz ∧ va_P (dC, dI) vwCl [] U.heap ∧ va_K (dC, dI) vwCl [] U ∧ va_D (fun _ => True) [])) (va_Qi (fun (r : Int32) (u : Unit) => (r = 0) ∨ (r = 1 ∧ RG p0 33 40)) (fun (u : Unit) t => va_P (dC, dI) vwCl [] t.heap ∧ va_K (dC, dI) vwCl [] t ∧ va_D (va_A [] sz) []) (va_A [] sz)) 0 0 (va_A [] sz) := by
  refine Met.ofW (cc := cX4_startsUnit) (maxL := 1) (ret := (some .boolean)) (by decide +kernel) rfl ?_
  intro p e s m args below meth c s₁ B hml hv
  obtain ⟨rfl, hsz, hP, hK, hD0⟩ := hv
  have hx := B.exec
  have hb := B.bytes
  have hr := B.returns
  have hts := atoms_spec (ws := wf_c_X4_startsUnit_1) B.pre
  have hown : s.vm.findClass RX4 = some m.cls := findClass_of_methodNamed B.named
  have hlocks := B.notSynchronized
  subst hsz
  have hD := hD0.self (sz := s.heap.size)
  generalize hAe : va_A [] s.heap.size = A at hD ⊢
  have hA : ∀ q : Nat, s.heap.size ≤ q → A q := fun q h => by rw [← hAe]; exact Or.inr h
  have hP : va_P (dC, dI) vwCl [] s.heap := hP
  have hl := lv_entry ([.int p0]) (n := 1) (Nat.le_of_ble_eq_true rfl)
  rw [lg_entry_eq]
  generalize (lg_sl ([.int p0]) ++ List.replicate (1 - (lg_sl ([.int p0])).length) Slot.unset).toArray = ls at hl ⊢
  have hl : lv_has ls 1 [(0, .int p0)] := hl
  obtain ⟨H, hHe⟩ : ∃ H : Heap, s.heap = H := ⟨_, rfl⟩
  have hS : va_S A s.heap H [] := by rw [hHe]; exact va_S.rf
  have hP : va_P (dC, dI) vwCl [] H := by rw [← hHe]; exact hP
  rw [hHe]
  refine wj (fun G hG hU => ?_)
  as_aux_lemma =>
  have J12 : ∀ (g_p0 : RG p0 33 40) (H : Heap) (locs : List Loc) (ls : Array Slot) (hP : va_P (dC, dI) vwCl [] H) (hD : va_D A []) (hS : va_S A s.heap H locs) (hl : lv_has ls 1 []), G H locs (F0 m 12 ls []) := by
    as_aux_lemma =>
    intro g_p0 H locs ls hP hD hS hl
    refine hG _ _ _ ?_
    refine lv_iconst (v := 1) hx hb dX4_startsUnit_12 kc_iconst_1 ?_
    refine lv_goto (tgt := 17) hx hb dX4_startsUnit_13 rfl ?_
    have hK9 := hK.sub (tys' := []) [] rfl
    exact W.zret (v := 1) hx hb hr rfl (fun t ht hW => ⟨⟨1, (), rfl, (Or.inr ⟨rfl, g_p0⟩), by rw [ht]; exact hP, va_K.moved hW.alike hK9, hD⟩, hS.F ht⟩) hS.2.2 dX4_startsUnit_17
  refine hG _ _ _ ?_
  refine lv_iload_n hx hb dX4_startsUnit_0 rfl (lv_at hl 0 rfl) ?_
  refine lv_bipush (v := 33) hx hb dX4_startsUnit_1 kc_bipush_33 ?_
  refine lv_icmp_eq (tgt := 12) hx hb dX4_startsUnit_3 rfl (fun c_1 => ?_) (fun c_1 => ?_)
  · have g_2 : RG p0 33 33 := RG_eq1 g_p0 (RG_k 33 33 rfl) c_1 (by decide +kernel)
    exact hU _ _ _ (J12 (RG_w g_2 (by decide +kernel)) _ _ _ hP hD hS (lv_sub hl [] rfl))
  · refine lv_iload_n hx hb dX4_startsUnit_6 rfl (lv_at hl 0 rfl) ?_
    refine lv_bipush (v := 40) hx hb dX4_startsUnit_7 kc_bipush_40 ?_
    as_aux_lemma =>
    refine lv_icmp_ne (tgt := 16) hx hb dX4_startsUnit_9 rfl (fun c_3 => ?_) (fun c_3 => ?_)
    · refine lv_iconst (v := 0) hx hb dX4_startsUnit_16 kc_iconst_0 ?_
      have hK9 := hK.sub (tys' := []) [] rfl
      exact W.zret (v := 0) hx hb hr rfl (fun t ht hW => ⟨⟨0, (), rfl, (Or.inl rfl), by rw [ht]; exact hP, va_K.moved hW.alike hK9, hD⟩, hS.F ht⟩) hS.2.2 dX4_startsUnit_17
    · have g_4 : RG p0 40 40 := RG_eq1 g_p0 (RG_k 40 40 rfl) c_3 (by decide +kernel)
      exact hU _ _ _ (J12 (RG_w g_4 (by decide +kernel)) _ _ _ hP hD hS (lv_sub hl [] rfl))
noncomputable def wf_c_J0_isLatin1_aae02_4 : List Cond := .code yJ0_isLatin1_aae02 cJ0_isLatin1_aae02 1 (some .boolean) :: ([.fieldLink RJ0 38 "java/lang/String" "COMPACT_STRINGS" "Z", .fieldLink RJ0 15 "java/lang/String" "coder" "B"])
set_option maxHeartbeats 4000000 in
set_option maxRecDepth 100000 in
theorem c_J0_isLatin1_aae02_4 (l : Launch) (dC : Nat → ClassId) (dI : Nat → Nat → Nat) (sz : Nat) (ts4 : Nat) : Met l yJ0_isLatin1_aae02 wf_c_J0_isLatin1_aae02_4 ({ frames := 0, cells := 0, slots := 0, locals := 0 }) (va_Pc [.ref ts4] (fun U => U.heap.size = sz ∧ va_P (dC, dI) vwCl [] U.heap ∧ va_K (dC, dI) vwCl [] U ∧ va_D (fun _ => True) [] ∧ va_Z "java/lang/String" "COMPACT_STRINGS" "Z" (.int 1) (va_A [] sz) U U.heap ∧ va_OF "java/lang/String" "coder" "B" (.int 0) ts4 (va_A [] sz) U U.heap)) (va_Qi (fun (r : Int32) (u : Unit) => (r = 1)) (fun (u : Unit) t => va_P (dC, dI) vwCl [] t.heap ∧ va_K (dC, dI) vwCl [] t ∧ va_D (va_A [] sz) []) (va_A [] sz)) 0 0 (va_A [] sz) := by
  refine Met.ofW (cc := cJ0_isLatin1_aae02) (maxL := 1) (ret := (some .boolean)) (by decide +kernel) rfl ?_
  intro p e s m args below meth c s₁ B hml hv
  obtain ⟨rfl, hsz, hP, hK, hD0, hE_10, hE_34⟩ := hv
  have hx := B.exec
  have hb := B.bytes
  have hr := B.returns
  have hts := atoms_spec (ws := wf_c_J0_isLatin1_aae02_4) B.pre
  have hown : s.vm.findClass RJ0 = some m.cls := findClass_of_methodNamed B.named
  have hlocks := B.notSynchronized
  subst hsz
  have hD := hD0.self (sz := s.heap.size)
  generalize hAe : va_A [] s.heap.size = A at hD hE_10 hE_34 ⊢
  have hA : ∀ q : Nat, s.heap.size ≤ q → A q := fun q h => by rw [← hAe]; exact Or.inr h
  have hP : va_P (dC, dI) vwCl [] s.heap := hP
  have hl := lv_entry ([.ref ts4]) (n := 1) (Nat.le_of_ble_eq_true rfl)
  rw [lg_entry_eq]
  generalize (lg_sl ([.ref ts4]) ++ List.replicate (1 - (lg_sl ([.ref ts4])).length) Slot.unset).toArray = ls at hl ⊢
  have hl : lv_has ls 1 [(0, .ref ts4)] := hl
  obtain ⟨H, hHe⟩ : ∃ H : Heap, s.heap = H := ⟨_, rfl⟩
  have hS : va_S A s.heap H [] := by rw [hHe]; exact va_S.rf
  have hP : va_P (dC, dI) vwCl [] H := by rw [← hHe]; exact hP
  rw [hHe]
  refine va_gets hx hb hE_10 hS hown (hts (.fieldLink RJ0 38 "java/lang/String" "COMPACT_STRINGS" "Z") (List.mem_of_getElem? (i := 1) rfl)) (fun _ h9 => h9) dJ0_isLatin1_aae02_0 ?_
  as_aux_lemma =>
  refine lv_if_eq (tgt := 17) hx hb dJ0_isLatin1_aae02_3 rfl (fun c_1 => absurd c_1 (by decide +kernel)) (fun c_1 => ?_)
  refine lv_aload_n hx hb dJ0_isLatin1_aae02_6 rfl (lv_at hl 0 rfl) ?_
  refine vk_getf hx hb hE_34 hS hown (hts (.fieldLink RJ0 15 "java/lang/String" "coder" "B") (List.mem_of_getElem? (i := 2) rfl)) (fun _ h9 => h9) dJ0_isLatin1_aae02_7 ?_
  refine lv_if_ne (tgt := 17) hx hb dJ0_isLatin1_aae02_10 rfl (fun c_2 => absurd c_2 (by decide +kernel)) (fun c_2 => ?_)
  refine lv_iconst (v := 1) hx hb dJ0_isLatin1_aae02_13 kc_iconst_1 ?_
  refine lv_goto (tgt := 18) hx hb dJ0_isLatin1_aae02_14 rfl ?_
  have hK9 := hK.sub (tys' := []) [] rfl
  exact W.zret (v := 1) hx hb hr rfl (fun t ht hW => ⟨⟨1, (), rfl, rfl, by rw [ht]; exact hP, va_K.moved hW.alike hK9, hD⟩, hS.F ht⟩) hS.2.2 dJ0_isLatin1_aae02_18
noncomputable def wf_c_J0_coder_7d493_4 : List Cond := .code yJ0_coder_7d493 cJ0_coder_7d493 1 (some .byte) :: ([.fieldLink RJ0 38 "java/lang/String" "COMPACT_STRINGS" "Z", .fieldLink RJ0 15 "java/lang/String" "coder" "B"])
set_option maxHeartbeats 4000000 in
set_option maxRecDepth 100000 in
theorem c_J0_coder_7d493_4 (l : Launch) (dC : Nat → ClassId) (dI : Nat → Nat → Nat) (sz : Nat) (ts4 : Nat) : Met l yJ0_coder_7d493 wf_c_J0_coder_7d493_4 ({ frames := 0, cells := 0, slots := 0, locals := 0 }) (va_Pc [.ref ts4] (fun U => U.heap.size = sz ∧ va_P (dC, dI) vwCl [] U.heap ∧ va_K (dC, dI) vwCl [] U ∧ va_D (fun _ => True) [] ∧ va_Z "java/lang/String" "COMPACT_STRINGS" "Z" (.int 1) (va_A [] sz) U U.heap ∧ va_OF "java/lang/String" "coder" "B" (.int 0) ts4 (va_A [] sz) U U.heap)) (va_Qi (fun (r : Int32) (u : Unit) => (r = 0)) (fun (u : Unit) t => va_P (dC, dI) vwCl [] t.heap ∧ va_K (dC, dI) vwCl [] t ∧ va_D (va_A [] sz) []) (va_A [] sz)) 0 0 (va_A [] sz) := by
  refine Met.ofW (cc := cJ0_coder_7d493) (maxL := 1) (ret := (some .byte)) (by decide +kernel) rfl ?_
  intro p e s m args below meth c s₁ B hml hv
  obtain ⟨rfl, hsz, hP, hK, hD0, hE_10, hE_34⟩ := hv
  have hx := B.exec
  have hb := B.bytes
  have hr := B.returns
  have hts := atoms_spec (ws := wf_c_J0_coder_7d493_4) B.pre
  have hown : s.vm.findClass RJ0 = some m.cls := findClass_of_methodNamed B.named
  have hlocks := B.notSynchronized
  subst hsz
  have hD := hD0.self (sz := s.heap.size)
  generalize hAe : va_A [] s.heap.size = A at hD hE_10 hE_34 ⊢
  have hA : ∀ q : Nat, s.heap.size ≤ q → A q := fun q h => by rw [← hAe]; exact Or.inr h
  have hP : va_P (dC, dI) vwCl [] s.heap := hP
  have hl := lv_entry ([.ref ts4]) (n := 1) (Nat.le_of_ble_eq_true rfl)
  rw [lg_entry_eq]
  generalize (lg_sl ([.ref ts4]) ++ List.replicate (1 - (lg_sl ([.ref ts4])).length) Slot.unset).toArray = ls at hl ⊢
  have hl : lv_has ls 1 [(0, .ref ts4)] := hl
  obtain ⟨H, hHe⟩ : ∃ H : Heap, s.heap = H := ⟨_, rfl⟩
  have hS : va_S A s.heap H [] := by rw [hHe]; exact va_S.rf
  have hP : va_P (dC, dI) vwCl [] H := by rw [← hHe]; exact hP
  rw [hHe]
  refine va_gets hx hb hE_10 hS hown (hts (.fieldLink RJ0 38 "java/lang/String" "COMPACT_STRINGS" "Z") (List.mem_of_getElem? (i := 1) rfl)) (fun _ h9 => h9) dJ0_coder_7d493_0 ?_
  as_aux_lemma =>
  refine lv_if_eq (tgt := 13) hx hb dJ0_coder_7d493_3 rfl (fun c_1 => absurd c_1 (by decide +kernel)) (fun c_1 => ?_)
  refine lv_aload_n hx hb dJ0_coder_7d493_6 rfl (lv_at hl 0 rfl) ?_
  refine vk_getf hx hb hE_34 hS hown (hts (.fieldLink RJ0 15 "java/lang/String" "coder" "B") (List.mem_of_getElem? (i := 2) rfl)) (fun _ h9 => h9) dJ0_coder_7d493_7 ?_
  refine lv_goto (tgt := 14) hx hb dJ0_coder_7d493_10 rfl ?_
  have hK9 := hK.sub (tys' := []) [] rfl
  exact W.zret (v := 0) hx hb hr rfl (fun t ht hW => ⟨⟨0, (), rfl, rfl, by rw [ht]; exact hP, va_K.moved hW.alike hK9, hD⟩, hS.F ht⟩) hS.2.2 dJ0_coder_7d493_14
noncomputable def wf_c_J0_length_8abf5_4 : List Cond := .code yJ0_length_8abf5 cJ0_length_8abf5 1 (some .int) :: ([.fieldLink RJ0 9 "java/lang/String" "value" "[B", .methodLink RJ0 335 yJ0_coder_7d493, .instanceMethod yJ0_coder_7d493, .selects RJ0 yJ0_coder_7d493 yJ0_coder_7d493, .initialized RJ0, .code yJ0_coder_7d493 cJ0_coder_7d493 1 (some .byte), .fieldLink RJ0 38 "java/lang/String" "COMPACT_STRINGS" "Z", .fieldLink RJ0 15 "java/lang/String" "coder" "B"])
set_option maxRecDepth 20000 in
theorem gf_c_J0_length_8abf5_4_c_J0_coder_7d493_4 : GoodIn wf_c_J0_length_8abf5_4 (wsV RJ0 335 RJ0 yJ0_coder_7d493 wf_c_J0_coder_7d493_4) := goodIn_app (gi_l [2, 3, 4, 5] rfl rfl) (gi_cons (j := 6) rfl rfl (gi_l [7, 8] rfl rfl))
set_option maxHeartbeats 4000000 in
set_option maxRecDepth 100000 in
theorem c_J0_length_8abf5_4 (l : Launch) (dC : Nat → ClassId) (dI : Nat → Nat → Nat) (sz : Nat) (ts4 : Nat) (tv4 : Nat) : Met l yJ0_length_8abf5 wf_c_J0_length_8abf5_4 ({ frames := 1, cells := 0, slots := 0, locals := 20 }) (va_Pc [.ref ts4] (fun U => U.heap.size = sz ∧ va_P (dC, dI) vwCl [] U.heap ∧ va_K (dC, dI) vwCl [] U ∧ va_D (fun _ => True) [] ∧ va_OF "java/lang/String" "value" "[B" (.ref tv4) ts4 (va_A [] sz) U U.heap ∧ va_T .byte tv4 6 (fun j => .int ([118, 108, 114, 100, 112, 104].getD j 0)) (va_A [] sz) U U.heap ∧ va_Z "java/lang/String" "COMPACT_STRINGS" "Z" (.int 1) (va_A [] sz) U U.heap ∧ va_OF "java/lang/String" "coder" "B" (.int 0) ts4 (va_A [] sz) U U.heap ∧ va_O "java/lang/String" ts4 (va_A [] sz) U U.heap)) (va_Qi (fun (r : Int32) (u : Unit) => (r = 6)) (fun (u : Unit) t => va_P (dC, dI) vwCl [] t.heap ∧ va_K (dC, dI) vwCl [] t ∧ va_D (va_A [] sz) []) (va_A [] sz)) 0 0 (va_A [] sz) := by
  refine Met.ofW (cc := cJ0_length_8abf5) (maxL := 1) (ret := (some .int)) (by decide +kernel) rfl ?_
  intro p e s m args below meth c s₁ B hml hv
  obtain ⟨rfl, hsz, hP, hK, hD0, hE_35, hE_36, hE_10, hE_34, hE_33⟩ := hv
  have hx := B.exec
  have hb := B.bytes
  have hr := B.returns
  have hts := atoms_spec (ws := wf_c_J0_length_8abf5_4) B.pre
  have hown : s.vm.findClass RJ0 = some m.cls := findClass_of_methodNamed B.named
  have hlocks := B.notSynchronized
  subst hsz
  have hD := hD0.self (sz := s.heap.size)
  generalize hAe : va_A [] s.heap.size = A at hD hE_35 hE_36 hE_10 hE_34 hE_33 ⊢
  have hA : ∀ q : Nat, s.heap.size ≤ q → A q := fun q h => by rw [← hAe]; exact Or.inr h
  have hP : va_P (dC, dI) vwCl [] s.heap := hP
  have hl := lv_entry ([.ref ts4]) (n := 1) (Nat.le_of_ble_eq_true rfl)
  rw [lg_entry_eq]
  generalize (lg_sl ([.ref ts4]) ++ List.replicate (1 - (lg_sl ([.ref ts4])).length) Slot.unset).toArray = ls at hl ⊢
  have hl : lv_has ls 1 [(0, .ref ts4)] := hl
  obtain ⟨H, hHe⟩ : ∃ H : Heap, s.heap = H := ⟨_, rfl⟩
  have hS : va_S A s.heap H [] := by rw [hHe]; exact va_S.rf
  have hP : va_P (dC, dI) vwCl [] H := by rw [← hHe]; exact hP
  rw [hHe]
  refine lv_aload_n hx hb dJ0_length_8abf5_0 rfl (lv_at hl 0 rfl) ?_
  as_aux_lemma =>
  refine vk_getf hx hb hE_35 hS hown (hts (.fieldLink RJ0 9 "java/lang/String" "value" "[B") (List.mem_of_getElem? (i := 1) rfl)) (fun _ h9 => h9) dJ0_length_8abf5_1 ?_
  refine va_tlen (v := 6) hx hb hE_36 hS rfl dJ0_length_8abf5_4 ?_
  refine lv_aload_n hx hb dJ0_length_8abf5_5 rfl (lv_at hl 0 rfl) ?_
  obtain ⟨hPc, hDc, hFc, hqc⟩ := cl_cut (wc := []) hP hD hS hA [] (by decide +kernel) rfl
  have hKc := hK.sub (tys' := []) [] rfl
  have hrv := bv_Orecv hE_33 hS
  refine va_calli (va_runV (As := []) (rest := [.int 6]) ⟨hx, hb, hml, hown, hts⟩ (c_J0_coder_7d493_4 l dC dI H.size ts4) (cwV 0 hts gf_c_J0_length_8abf5_4_c_J0_coder_7d493_4 rfl rfl rfl mdV_J0_coder_7d493 ⟨Nat.le_of_ble_eq_true rfl, Nat.le_of_ble_eq_true rfl⟩) ⟨fun a U g mk q => by obtain ⟨q0, q1, qP, qK, qD, qE0, qE1⟩ := q; exact ⟨q0, q1, qP, va_K.moved (u := U) (U := U.calling g mk a) (Vm.Alike.refl U.vm) qK, qD, va_Z.moved (u := U) (U := U.calling g mk a) (Vm.Alike.refl U.vm) qE0, va_OF.moved (u := U) (U := U.calling g mk a) (Vm.Alike.refl U.vm) qE1⟩, hrv, fun U hU hW => ⟨rfl, by rw [hU], by rw [hU]; exact hPc, va_K.moved hW.alike hKc, hDc.weaken (fun _ _ _ _ => trivial), va_Z.moved hW.alike (by rw [hU]; exact (hE_10.kept hS.2.1).narrow hFc), va_OF.moved hW.alike (by rw [hU]; exact (hE_34.kept hS.2.1).narrow hFc)⟩⟩ rfl rfl hl.1 rfl (lv_room (Nat.le_of_ble_eq_true rfl)) dJ0_length_8abf5_6 ⟨Nat.le_of_ble_eq_true rfl, Nat.le_of_ble_eq_true rfl⟩) hS (fun q _ h => hFc q h) hFc (fun r_1 u t H1 locs ht hvm hw hB hz1 hk1 hS => ?_)
  obtain ⟨hP1, hK1, hD1⟩ := hB
  rw [ht] at hP1
  have hP := bv_still hP hk1
  generalize H1 = H at hP hS ⊢
  as_aux_lemma =>
  have h_2 := hw
  rw [h_2]
  refine lv_ishr hx hb dJ0_length_8abf5_9 ?_
  refine lv_topi (fun x_3 ex_3 => ?_)
  obtain rfl : x_3 = 6 := ex_3.trans (by decide +kernel)
  have hK9 := hK.sub (tys' := []) [] rfl
  exact W.iret (v := 6) hx hb hr (fun t ht hW => ⟨⟨6, (), rfl, rfl, by rw [ht]; exact hP, va_K.moved hW.alike hK9, hD⟩, hS.F ht⟩) hS.2.2 dJ0_length_8abf5_10
noncomputable def wf_c_J1_indexOfChar_4cfef_4 : List Cond := .code yJ1_indexOfChar_4cfef cJ1_indexOfChar_4cfef 6 (some .int) :: ([])
set_option maxHeartbeats 4000000 in
set_option maxRecDepth 100000 in
theorem c_J1_indexOfChar_4cfef_4 (l : Launch) (dC : Nat → ClassId) (dI : Nat → Nat → Nat) (sz : Nat) (tv4 : Nat) (p1 : Int32) (p2 : Int32) (p3 : Int32) (g_p1 : RG p1 0 255) (g_p2 : RG p2 0 0) (g_p3 : RG p3 6 6) : Met l yJ1_indexOfChar_4cfef wf_c_J1_indexOfChar_4cfef_4 ({ frames := 0, cells := 0, slots := 0, locals := 0 }) (va_Pc [.ref tv4, .int p1, .int p2, .int p3] (fun U => U.heap.size = sz ∧ va_P (dC, dI) vwCl [] U.heap ∧ va_K (dC, dI) vwCl [] U ∧ va_D (fun _ => True) [] ∧ va_T .byte tv4 6 (fun j => .int ([118, 108, 114, 100, 112, 104].getD j 0)) (va_A [] sz) U U.heap)) (va_Qi (fun (r : Int32) (u : Unit) => (r = (-1)) ∨ (RG r 0 5)) (fun (u : Unit) t => va_P (dC, dI) vwCl [] t.heap ∧ va_K (dC, dI) vwCl [] t ∧ va_D (va_A [] sz) []) (va_A [] sz)) 0 0 (va_A [] sz) := by
  refine Met.ofW (cc := cJ1_indexOfChar_4cfef) (maxL := 6) (ret := (some .int)) (by decide +kernel) rfl ?_
  intro p e s m args below meth c s₁ B hml hv
  obtain ⟨rfl, hsz, hP, hK, hD0, hE_36⟩ := hv
  have hx := B.exec
  have hb := B.bytes
  have hr := B.returns
  have hts := atoms_spec (ws := wf_c_J1_indexOfChar_4cfef_4) B.pre
  have hown : s.vm.findClass RJ1 = some m.cls := findClass_of_methodNamed B.named
  have hlocks := B.notSynchronized
  subst hsz
  have hD := hD0.self (sz := s.heap.size)
  generalize hAe : va_A [] s.heap.size = A at hD hE_36 ⊢
  have hA : ∀ q : Nat, s.heap.size ≤ q → A q := fun q h => by rw [← hAe]; exact Or.inr h
  have hP : va_P (dC, dI) vwCl [] s.heap := hP
  have hl := lv_entry ([.ref tv4, .int p1, .int p2, .int p3]) (n := 6) (Nat.le_of_ble_eq_true rfl)
  rw [lg_entry_eq]
  generalize (lg_sl ([.ref tv4, .int p1, .int p2, .int p3]) ++ List.replicate (6 - (lg_sl ([.ref tv4, .int p1, .int p2, .int p3])).length) Slot.unset).toArray = ls at hl ⊢
  have hl : lv_has ls 6 [(0, .ref tv4), (1, .int p1), (2, .int p2), (3, .int p3)] := hl
  obtain ⟨H, hHe⟩ : ∃ H : Heap, s.heap = H := ⟨_, rfl⟩
  have hS : va_S A s.heap H [] := by rw [hHe]; exact va_S.rf
  have hP : va_P (dC, dI) vwCl [] H := by rw [← hHe]; exact hP
  rw [hHe]
  refine lv_iload_n hx hb dJ1_indexOfChar_4cfef_0 rfl (lv_at hl 1 rfl) ?_
  as_aux_lemma =>
  refine lv_i2b hx hb dJ1_indexOfChar_4cfef_1 rfl ?_
  refine lv_topi (fun x_1 ex_1 => ?_)
  refine lv_istore (lv' := [(4, .int x_1), (0, .ref tv4), (1, .int p1), (2, .int p2), (3, .int p3)]) hx hb dJ1_indexOfChar_4cfef_2 hl (Nat.le_of_ble_eq_true rfl) rfl (fun ls hl => ?_)
  refine lv_iload_n hx hb dJ1_indexOfChar_4cfef_4 rfl (lv_at hl 3 rfl) ?_
  refine lv_istore (lv' := [(5, .int p2), (4, .int x_1), (0, .ref tv4), (1, .int p1), (2, .int p2), (3, .int p3)]) hx hb dJ1_indexOfChar_4cfef_5 hl (Nat.le_of_ble_eq_true rfl) rfl (fun ls hl => ?_)
  refine lv_iload hx hb dJ1_indexOfChar_4cfef_7 (lv_at hl 0 rfl) ?_
  refine lv_iload_n hx hb dJ1_indexOfChar_4cfef_9 rfl (lv_at hl 5 rfl) ?_
  refine lv_icmp_ge (tgt := 31) hx hb dJ1_indexOfChar_4cfef_10 rfl (fun c_2 => ?_) (fun c_2 => ?_)
  · have g_3 : RG p3 6 0 := RG_le1 g_p3 g_p2 c_2 (by decide +kernel)
    exact RG_dead (RG_le1 g_p3 g_p2 c_2 (b' := 0) (by decide +kernel)) (by decide +kernel)
  · have d_4 := Int32.not_le.mp c_2
    refine lv_aload_n hx hb dJ1_indexOfChar_4cfef_13 rfl (lv_at hl 2 rfl) ?_
    refine lv_iload hx hb dJ1_indexOfChar_4cfef_14 (lv_at hl 0 rfl) ?_
    refine va_tb hx hb hE_36 hS (RG_in g_p2 (by decide +kernel)) rfl dJ1_indexOfChar_4cfef_16 ?_
    as_aux_lemma =>
    refine lv_topi (fun x_5 ex_5 => ?_)
    have g_6 : RG x_5 0 118 := RG_tab ex_5 (by decide +kernel)
    refine lv_iload hx hb dJ1_indexOfChar_4cfef_17 (lv_at hl 1 rfl) ?_
    refine lv_icmp_ne (tgt := 25) hx hb dJ1_indexOfChar_4cfef_19 rfl (fun c_7 => ?_) (fun c_7 => ?_)
    · obtain ⟨x_8, ex_8⟩ : ∃ y : Int32, y = p2 + 1 := ⟨_, rfl⟩
      have g_9 : RG x_8 1 1 := RG_add ex_8 g_p2 (RG_k 1 1 rfl) (by decide +kernel)
      refine lv_iinc (v := x_8) (lv' := [(5, .int x_8), (4, .int x_1), (0, .ref tv4), (1, .int p1), (2, .int p2), (3, .int p3)]) hx hb dJ1_indexOfChar_4cfef_25 hl (k := 0) rfl (by rw [ex_8]; rfl) (Nat.le_of_ble_eq_true rfl) rfl (fun ls hl => ?_)
      refine lv_goto (tgt := 7) hx hb dJ1_indexOfChar_4cfef_28 rfl ?_
      refine lv_iload hx hb dJ1_indexOfChar_4cfef_7 (lv_at hl 0 rfl) ?_
      refine lv_iload_n hx hb dJ1_indexOfChar_4cfef_9 rfl (lv_at hl 5 rfl) ?_
      refine lv_icmp_ge (tgt := 31) hx hb dJ1_indexOfChar_4cfef_10 rfl (fun c_10 => ?_) (fun c_10 => ?_)
      · have g_11 : RG p3 6 1 := RG_le1 g_p3 g_9 c_10 (by decide +kernel)
        exact RG_dead (RG_le1 g_p3 g_9 c_10 (b' := 1) (by decide +kernel)) (by decide +kernel)
      · have d_12 := Int32.not_le.mp c_10
        refine lv_aload_n hx hb dJ1_indexOfChar_4cfef_13 rfl (lv_at hl 2 rfl) ?_
        as_aux_lemma =>
        refine lv_iload hx hb dJ1_indexOfChar_4cfef_14 (lv_at hl 0 rfl) ?_
        refine va_tb hx hb hE_36 hS (RG_in g_9 (by decide +kernel)) rfl dJ1_indexOfChar_4cfef_16 ?_
        refine lv_topi (fun x_13 ex_13 => ?_)
        have g_14 : RG x_13 0 118 := RG_tab ex_13 (by decide +kernel)
        refine lv_iload hx hb dJ1_indexOfChar_4cfef_17 (lv_at hl 1 rfl) ?_
        refine lv_icmp_ne (tgt := 25) hx hb dJ1_indexOfChar_4cfef_19 rfl (fun c_15 => ?_) (fun c_15 => ?_)
        · obtain ⟨x_16, ex_16⟩ : ∃ y : Int32, y = x_8 + 1 := ⟨_, rfl⟩
          have g_17 : RG x_16 2 2 := RG_add ex_16 g_9 (RG_k 1 1 rfl) (by decide +kernel)
          refine lv_iinc (v := x_16) (lv' := [(5, .int x_16), (4, .int x_1), (0, .ref tv4), (1, .int p1), (2, .int p2), (3, .int p3)]) hx hb dJ1_indexOfChar_4cfef_25 hl (k := 0) rfl (by rw [ex_16]; rfl) (Nat.le_of_ble_eq_true rfl) rfl (fun ls hl => ?_)
          refine lv_goto (tgt := 7) hx hb dJ1_indexOfChar_4cfef_28 rfl ?_
          refine lv_iload hx hb dJ1_indexOfChar_4cfef_7 (lv_at hl 0 rfl) ?_
          refine lv_iload_n hx hb dJ1_indexOfChar_4cfef_9 rfl (lv_at hl 5 rfl) ?_
          refine lv_icmp_ge (tgt := 31) hx hb dJ1_indexOfChar_4cfef_10 rfl (fun c_18 => ?_) (fun c_18 => ?_)
          · have g_19 : RG p3 6 2 := RG_le1 g_p3 g_17 c_18 (by decide +kernel)
            exact RG_dead (RG_le1 g_p3 g_17 c_18 (b' := 2) (by decide +kernel)) (by decide +kernel)
          · have d_20 := Int32.not_le.mp c_18
            refine lv_aload_n hx hb dJ1_indexOfChar_4cfef_13 rfl (lv_at hl 2 rfl) ?_
            as_aux_lemma =>
            refine lv_iload hx hb dJ1_indexOfChar_4cfef_14 (lv_at hl 0 rfl) ?_
            refine va_tb hx hb hE_36 hS (RG_in g_17 (by decide +kernel)) rfl dJ1_indexOfChar_4cfef_16 ?_
            refine lv_topi (fun x_21 ex_21 => ?_)
            have g_22 : RG x_21 0 118 := RG_tab ex_21 (by decide +kernel)
            refine lv_iload hx hb dJ1_indexOfChar_4cfef_17 (lv_at hl 1 rfl) ?_
            refine lv_icmp_ne (tgt := 25) hx hb dJ1_indexOfChar_4cfef_19 rfl (fun c_23 => ?_) (fun c_23 => ?_)
            · obtain ⟨x_24, ex_24⟩ : ∃ y : Int32, y = x_16 + 1 := ⟨_, rfl⟩
              have g_25 : RG x_24 3 3 := RG_add ex_24 g_17 (RG_k 1 1 rfl) (by decide +kernel)
              refine lv_iinc (v := x_24) (lv' := [(5, .int x_24), (4, .int x_1), (0, .ref tv4), (1, .int p1), (2, .int p2), (3, .int p3)]) hx hb dJ1_indexOfChar_4cfef_25 hl (k := 0) rfl (by rw [ex_24]; rfl) (Nat.le_of_ble_eq_true rfl) rfl (fun ls hl => ?_)
              refine lv_goto (tgt := 7) hx hb dJ1_indexOfChar_4cfef_28 rfl ?_
              refine lv_iload hx hb dJ1_indexOfChar_4cfef_7 (lv_at hl 0 rfl) ?_
              refine lv_iload_n hx hb dJ1_indexOfChar_4cfef_9 rfl (lv_at hl 5 rfl) ?_
              refine lv_icmp_ge (tgt := 31) hx hb dJ1_indexOfChar_4cfef_10 rfl (fun c_26 => ?_) (fun c_26 => ?_)
              · have g_27 : RG p3 6 3 := RG_le1 g_p3 g_25 c_26 (by decide +kernel)
                exact RG_dead (RG_le1 g_p3 g_25 c_26 (b' := 3) (by decide +kernel)) (by decide +kernel)
              · have d_28 := Int32.not_le.mp c_26
                refine lv_aload_n hx hb dJ1_indexOfChar_4cfef_13 rfl (lv_at hl 2 rfl) ?_
                as_aux_lemma =>
                refine lv_iload hx hb dJ1_indexOfChar_4cfef_14 (lv_at hl 0 rfl) ?_
                refine va_tb hx hb hE_36 hS (RG_in g_25 (by decide +kernel)) rfl dJ1_indexOfChar_4cfef_16 ?_
                refine lv_topi (fun x_29 ex_29 => ?_)
                have g_30 : RG x_29 0 118 := RG_tab ex_29 (by decide +kernel)
                refine lv_iload hx hb dJ1_indexOfChar_4cfef_17 (lv_at hl 1 rfl) ?_
                refine lv_icmp_ne (tgt := 25) hx hb dJ1_indexOfChar_4cfef_19 rfl (fun c_31 => ?_) (fun c_31 => ?_)
                · obtain ⟨x_32, ex_32⟩ : ∃ y : Int32, y = x_24 + 1 := ⟨_, rfl⟩
                  have g_33 : RG x_32 4 4 := RG_add ex_32 g_25 (RG_k 1 1 rfl) (by decide +kernel)
                  refine lv_iinc (v := x_32) (lv' := [(5, .int x_32), (4, .int x_1), (0, .ref tv4), (1, .int p1), (2, .int p2), (3, .int p3)]) hx hb dJ1_indexOfChar_4cfef_25 hl (k := 0) rfl (by rw [ex_32]; rfl) (Nat.le_of_ble_eq_true rfl) rfl (fun ls hl => ?_)
                  refine lv_goto (tgt := 7) hx hb dJ1_indexOfChar_4cfef_28 rfl ?_
                  refine lv_iload hx hb dJ1_indexOfChar_4cfef_7 (lv_at hl 0 rfl) ?_
                  refine lv_iload_n hx hb dJ1_indexOfChar_4cfef_9 rfl (lv_at hl 5 rfl) ?_
                  refine lv_icmp_ge (tgt := 31) hx hb dJ1_indexOfChar_4cfef_10 rfl (fun c_34 => ?_) (fun c_34 => ?_)
                  · have g_35 : RG p3 6 4 := RG_le1 g_p3 g_33 c_34 (by decide +kernel)
                    exact RG_dead (RG_le1 g_p3 g_33 c_34 (b' := 4) (by decide +kernel)) (by decide +kernel)
                  · have d_36 := Int32.not_le.mp c_34
                    refine lv_aload_n hx hb dJ1_indexOfChar_4cfef_13 rfl (lv_at hl 2 rfl) ?_
                    as_aux_lemma =>
                    refine lv_iload hx hb dJ1_indexOfChar_4cfef_14 (lv_at hl 0 rfl) ?_
                    refine va_tb hx hb hE_36 hS (RG_in g_33 (by decide +kernel)) rfl dJ1_indexOfChar_4cfef_16 ?_
                    refine lv_topi (fun x_37 ex_37 => ?_)
                    have g_38 : RG x_37 0 118 := RG_tab ex_37 (by decide +kernel)
                    refine lv_iload hx hb dJ1_indexOfChar_4cfef_17 (lv_at hl 1 rfl) ?_
                    refine lv_icmp_ne (tgt := 25) hx hb dJ1_indexOfChar_4cfef_19 rfl (fun c_39 => ?_) (fun c_39 => ?_)
                    · obtain ⟨x_40, ex_40⟩ : ∃ y : Int32, y = x_32 + 1 := ⟨_, rfl⟩
                      have g_41 : RG x_40 5 5 := RG_add ex_40 g_33 (RG_k 1 1 rfl) (by decide +kernel)
                      refine lv_iinc (v := x_40) (lv' := [(5, .int x_40), (4, .int x_1), (0, .ref tv4), (1, .int p1), (2, .int p2), (3, .int p3)]) hx hb dJ1_indexOfChar_4cfef_25 hl (k := 0) rfl (by rw [ex_40]; rfl) (Nat.le_of_ble_eq_true rfl) rfl (fun ls hl => ?_)
                      refine lv_goto (tgt := 7) hx hb dJ1_indexOfChar_4cfef_28 rfl ?_
                      refine lv_iload hx hb dJ1_indexOfChar_4cfef_7 (lv_at hl 0 rfl) ?_
                      refine lv_iload_n hx hb dJ1_indexOfChar_4cfef_9 rfl (lv_at hl 5 rfl) ?_
                      refine lv_icmp_ge (tgt := 31) hx hb dJ1_indexOfChar_4cfef_10 rfl (fun c_42 => ?_) (fun c_42 => ?_)
                      · have g_43 : RG p3 6 5 := RG_le1 g_p3 g_41 c_42 (by decide +kernel)
                        exact RG_dead (RG_le1 g_p3 g_41 c_42 (b' := 5) (by decide +kernel)) (by decide +kernel)
                      · have d_44 := Int32.not_le.mp c_42
                        refine lv_aload_n hx hb dJ1_indexOfChar_4cfef_13 rfl (lv_at hl 2 rfl) ?_
                        as_aux_lemma =>
                        refine lv_iload hx hb dJ1_indexOfChar_4cfef_14 (lv_at hl 0 rfl) ?_
                        refine va_tb hx hb hE_36 hS (RG_in g_41 (by decide +kernel)) rfl dJ1_indexOfChar_4cfef_16 ?_
                        refine lv_topi (fun x_45 ex_45 => ?_)
                        have g_46 : RG x_45 0 118 := RG_tab ex_45 (by decide +kernel)
                        refine lv_iload hx hb dJ1_indexOfChar_4cfef_17 (lv_at hl 1 rfl) ?_
                        refine lv_icmp_ne (tgt := 25) hx hb dJ1_indexOfChar_4cfef_19 rfl (fun c_47 => ?_) (fun c_47 => ?_)
                        · obtain ⟨x_48, ex_48⟩ : ∃ y : Int32, y = x_40 + 1 := ⟨_, rfl⟩
                          have g_49 : RG x_48 6 6 := RG_add ex_48 g_41 (RG_k 1 1 rfl) (by decide +kernel)
                          refine lv_iinc (v := x_48) (lv' := [(5, .int x_48), (4, .int x_1), (0, .ref tv4), (1, .int p1), (2, .int p2), (3, .int p3)]) hx hb dJ1_indexOfChar_4cfef_25 hl (k := 0) rfl (by rw [ex_48]; rfl) (Nat.le_of_ble_eq_true rfl) rfl (fun ls hl => ?_)
                          refine lv_goto (tgt := 7) hx hb dJ1_indexOfChar_4cfef_28 rfl ?_
                          refine lv_iload hx hb dJ1_indexOfChar_4cfef_7 (lv_at hl 0 rfl) ?_
                          refine lv_iload_n hx hb dJ1_indexOfChar_4cfef_9 rfl (lv_at hl 5 rfl) ?_
                          refine lv_icmp_ge (tgt := 31) hx hb dJ1_indexOfChar_4cfef_10 rfl (fun c_50 => ?_) (fun c_50 => ?_)
                          · refine lv_iconst (v := (-1)) hx hb dJ1_indexOfChar_4cfef_31 kc_iconst_m1 ?_
                            have hK9 := hK.sub (tys' := []) [] rfl
                            exact W.iret (v := (-1)) hx hb hr (fun t ht hW => ⟨⟨(-1), (), rfl, (Or.inl rfl), by rw [ht]; exact hP, va_K.moved hW.alike hK9, hD⟩, hS.F ht⟩) hS.2.2 dJ1_indexOfChar_4cfef_32
                          · have d_51 := Int32.not_le.mp c_50
                            have g_52 : RG x_48 6 5 := RG_lt1 g_49 g_p3 d_51 (by decide +kernel)
                            exact RG_dead (RG_lt1 g_49 g_p3 d_51 (b' := 5) (by decide +kernel)) (by decide +kernel)
                        · have g_53 : RG x_1 0 118 := RG_eq1 (RG_any x_1) g_46 c_47.symm (by decide +kernel)
                          refine lv_iload hx hb dJ1_indexOfChar_4cfef_22 (lv_at hl 0 rfl) ?_
                          as_aux_lemma =>
                          have hK9 := hK.sub (tys' := []) [] rfl
                          exact W.iret (v := x_40) hx hb hr (fun t ht hW => ⟨⟨x_40, (), rfl, (Or.inr (RG_w g_41 (by decide +kernel))), by rw [ht]; exact hP, va_K.moved hW.alike hK9, hD⟩, hS.F ht⟩) hS.2.2 dJ1_indexOfChar_4cfef_24
                    · have g_54 : RG x_1 0 118 := RG_eq1 (RG_any x_1) g_38 c_39.symm (by decide +kernel)
                      refine lv_iload hx hb dJ1_indexOfChar_4cfef_22 (lv_at hl 0 rfl) ?_
                      have hK9 := hK.sub (tys' := []) [] rfl
                      exact W.iret (v := x_32) hx hb hr (fun t ht hW => ⟨⟨x_32, (), rfl, (Or.inr (RG_w g_33 (by decide +kernel))), by rw [ht]; exact hP, va_K.moved hW.alike hK9, hD⟩, hS.F ht⟩) hS.2.2 dJ1_indexOfChar_4cfef_24
                · have g_55 : RG x_1 0 118 := RG_eq1 (RG_any x_1) g_30 c_31.symm (by decide +kernel)
                  refine lv_iload hx hb dJ1_indexOfChar_4cfef_22 (lv_at hl 0 rfl) ?_
                  have hK9 := hK.sub (tys' := []) [] rfl
                  exact W.iret (v := x_24) hx hb hr (fun t ht hW => ⟨⟨x_24, (), rfl, (Or.inr (RG_w g_25 (by decide +kernel))), by rw [ht]; exact hP, va_K.moved hW.alike hK9, hD⟩, hS.F ht⟩) hS.2.2 dJ1_indexOfChar_4cfef_24
            · have g_56 : RG x_1 0 118 := RG_eq1 (RG_any x_1) g_22 c_23.symm (by decide +kernel)
              refine lv_iload hx hb dJ1_indexOfChar_4cfef_22 (lv_at hl 0 rfl) ?_
              have hK9 := hK.sub (tys' := []) [] rfl
              exact W.iret (v := x_16) hx hb hr (fun t ht hW => ⟨⟨x_16, (), rfl, (Or.inr (RG_w g_17 (by decide +kernel))), by rw [ht]; exact hP, va_K.moved hW.alike hK9, hD⟩, hS.F ht⟩) hS.2.2 dJ1_indexOfChar_4cfef_24
        · have g_57 : RG x_1 0 118 := RG_eq1 (RG_any x_1) g_14 c_15.symm (by decide +kernel)
          refine lv_iload hx hb dJ1_indexOfChar_4cfef_22 (lv_at hl 0 rfl) ?_
          as_aux_lemma =>
          have hK9 := hK.sub (tys' := []) [] rfl
          exact W.iret (v := x_8) hx hb hr (fun t ht hW => ⟨⟨x_8, (), rfl, (Or.inr (RG_w g_9 (by decide +kernel))), by rw [ht]; exact hP, va_K.moved hW.alike hK9, hD⟩, hS.F ht⟩) hS.2.2 dJ1_indexOfChar_4cfef_24
    · have g_58 : RG x_1 0 118 := RG_eq1 (RG_any x_1) g_6 c_7.symm (by decide +kernel)
      refine lv_iload hx hb dJ1_indexOfChar_4cfef_22 (lv_at hl 0 rfl) ?_
      have hK9 := hK.sub (tys' := []) [] rfl
      exact W.iret (v := p2) hx hb hr (fun t ht hW => ⟨⟨p2, (), rfl, (Or.inr (RG_w g_p2 (by decide +kernel))), by rw [ht]; exact hP, va_K.moved hW.alike hK9, hD⟩, hS.F ht⟩) hS.2.2 dJ1_indexOfChar_4cfef_24
noncomputable def wf_c_J1_indexOf_4cfef_4 : List Cond := .code yJ1_indexOf_4cfef cJ1_indexOf_4cfef 4 (some .int) :: ([.methodLink RJ1 88 yJ1_canEncode_9a6ad, .static yJ1_canEncode_9a6ad, .initialized RJ1, .code yJ1_canEncode_9a6ad cJ1_canEncode_9a6ad 1 (some .boolean), .methodLink RJ1 92 Lib.Math.max.name, .static Lib.Math.max.name, .initialized "java/lang/Math", .code Lib.Math.max.name Lib.Math.max.code 2 (some .int), .methodLink RJ1 38 Lib.Math.min.name, .static Lib.Math.min.name, .code Lib.Math.min.name Lib.Math.min.code 2 (some .int), .methodLink RJ1 95 yJ1_indexOfChar_4cfef, .static yJ1_indexOfChar_4cfef, .code yJ1_indexOfChar_4cfef cJ1_indexOfChar_4cfef 6 (some .int)])
set_option maxRecDepth 20000 in
theorem gf_c_J1_indexOf_4cfef_4_c_J1_canEncode_9a6ad : GoodIn wf_c_J1_indexOf_4cfef_4 (va_wsS RJ1 88 yJ1_canEncode_9a6ad wf_c_J1_canEncode_9a6ad) := goodIn_app (gi_l [1, 2, 3] rfl rfl) (gi_cons (j := 4) rfl rfl gi_nil)
set_option maxRecDepth 20000 in
theorem gf_c_J1_indexOf_4cfef_4_c_J1_indexOfChar_4cfef_4 : GoodIn wf_c_J1_indexOf_4cfef_4 (va_wsS RJ1 95 yJ1_indexOfChar_4cfef wf_c_J1_indexOfChar_4cfef_4) := goodIn_app (gi_l [12, 13, 3] rfl rfl) (gi_cons (j := 14) rfl rfl gi_nil)
set_option maxHeartbeats 4000000 in
set_option maxRecDepth 100000 in
theorem c_J1_indexOf_4cfef_4 (l : Launch) (dC : Nat → ClassId) (dI : Nat → Nat → Nat) (sz : Nat) (tv4 : Nat) (p1 : Int32) (g_p1 : RG p1 0 65535) : Met l yJ1_indexOf_4cfef wf_c_J1_indexOf_4cfef_4 ({ frames := 1, cells := 0, slots := 0, locals := 25 }) (va_Pc [.ref tv4, .int p1, .int 0, .int 6] (fun U => U.heap.size = sz ∧ va_P (dC, dI) vwCl [] U.heap ∧ va_K (dC, dI) vwCl [] U ∧ va_D (fun _ => True) [] ∧ va_T .byte tv4 6 (fun j => .int ([118, 108, 114, 100, 112, 104].getD j 0)) (va_A [] sz) U U.heap)) (va_Qi (fun (r : Int32) (u : Unit) => (r = (-1)) ∨ (RG r 0 5 ∧ RG p1 0 255)) (fun (u : Unit) t => va_P (dC, dI) vwCl [] t.heap ∧ va_K (dC, dI) vwCl [] t ∧ va_D (va_A [] sz) []) (va_A [] sz)) 0 0 (va_A [] sz) := by
  refine Met.ofW (cc := cJ1_indexOf_4cfef) (maxL := 4) (ret := (some .int)) (by decide +kernel) rfl ?_
  intro p e s m args below meth c s₁ B hml hv
  obtain ⟨rfl, hsz, hP, hK, hD0, hE_36⟩ := hv
  have hx := B.exec
  have hb := B.bytes
  have hr := B.returns
  have hts := atoms_spec (ws := wf_c_J1_indexOf_4cfef_4) B.pre
  have hown : s.vm.findClass RJ1 = some m.cls := findClass_of_methodNamed B.named
  have hlocks := B.notSynchronized
  subst hsz
  have hD := hD0.self (sz := s.heap.size)
  generalize hAe : va_A [] s.heap.size = A at hD hE_36 ⊢
  have hA : ∀ q : Nat, s.heap.size ≤ q → A q := fun q h => by rw [← hAe]; exact Or.inr h
  have hP : va_P (dC, dI) vwCl [] s.heap := hP
  have hl := lv_entry ([.ref tv4, .int p1, .int 0, .int 6]) (n := 4) (Nat.le_of_ble_eq_true rfl)
  rw [lg_entry_eq]
  generalize (lg_sl ([.ref tv4, .int p1, .int 0, .int 6]) ++ List.replicate (4 - (lg_sl ([.ref tv4, .int p1, .int 0, .int 6])).length) Slot.unset).toArray = ls at hl ⊢
  have hl : lv_has ls 4 [(0, .ref tv4), (1, .int p1), (2, .int 0), (3, .int 6)] := hl
  obtain ⟨H, hHe⟩ : ∃ H : Heap, s.heap = H := ⟨_, rfl⟩
  have hS : va_S A s.heap H [] := by rw [hHe]; exact va_S.rf
  have hP : va_P (dC, dI) vwCl [] H := by rw [← hHe]; exact hP
  rw [hHe]
  refine lv_iload_n hx hb dJ1_indexOf_4cfef_0 rfl (lv_at hl 1 rfl) ?_
  as_aux_lemma =>
  obtain ⟨hPc, hDc, hFc, hqc⟩ := cl_cut (wc := []) hP hD hS hA [] (by decide +kernel) rfl
  have hKc := hK.sub (tys' := []) [] rfl
  refine va_calli (va_runS (As := [.int p1]) (rest := []) ⟨hx, hb, hml, hown, hts⟩ (c_J1_canEncode_9a6ad l dC dI H.size p1 g_p1) (va_cwS 1 hts gf_c_J1_indexOf_4cfef_4_c_J1_canEncode_9a6ad rfl rfl rfl md_J1_canEncode_9a6ad ⟨Nat.le_of_ble_eq_true rfl, Nat.le_of_ble_eq_true rfl⟩) ⟨fun a U g mk q => by obtain ⟨q0, q1, qP, qK, qD⟩ := q; exact ⟨q0, q1, qP, va_K.moved (u := U) (U := U.calling g mk a) (Vm.Alike.refl U.vm) qK, qD⟩, fun U hU hW => ⟨rfl, by rw [hU], by rw [hU]; exact hPc, va_K.moved hW.alike hKc, hDc.weaken (fun _ _ _ _ => trivial)⟩⟩ rfl rfl hl.1 rfl (lv_room (Nat.le_of_ble_eq_true rfl)) dJ1_indexOf_4cfef_1 ⟨Nat.le_of_ble_eq_true rfl, Nat.le_of_ble_eq_true rfl⟩) hS (fun q _ h => hFc q h) hFc (fun r_1 u t H1 locs ht hvm hw hB hz1 hk1 hS => ?_)
  obtain ⟨hP1, hK1, hD1⟩ := hB
  rw [ht] at hP1
  have hP := bv_still hP hk1
  generalize H1 = H at hP hS ⊢
  as_aux_lemma =>
  rcases hw with ⟨h_2, h_3⟩ | ⟨h_4, h_5⟩
  · rw [h_2]
    refine lv_if_ne (tgt := 9) hx hb dJ1_indexOf_4cfef_4 rfl (fun c_6 => absurd c_6 (by decide +kernel)) (fun c_6 => ?_)
    refine lv_iconst (v := (-1)) hx hb dJ1_indexOf_4cfef_7 kc_iconst_m1 ?_
    have hK9 := hK.sub (tys' := []) [] rfl
    exact W.iret (v := (-1)) hx hb hr (fun t ht hW => ⟨⟨(-1), (), rfl, (Or.inl rfl), by rw [ht]; exact hP, va_K.moved hW.alike hK9, hD⟩, hS.F ht⟩) hS.2.2 dJ1_indexOf_4cfef_8
  · rw [h_4]
    refine lv_if_ne (tgt := 9) hx hb dJ1_indexOf_4cfef_4 rfl (fun c_7 => ?_) (fun c_7 => absurd c_7 (by decide +kernel))
    refine lv_iload_n hx hb dJ1_indexOf_4cfef_9 rfl (lv_at hl 2 rfl) ?_
    refine lv_iconst (v := 0) hx hb dJ1_indexOf_4cfef_10 kc_iconst_0 ?_
    refine va_mmax hx hb (by rw [hml]; exact hl.1.symm) hown (hts (.methodLink RJ1 92 Lib.Math.max.name) (List.mem_of_getElem? (i := 5) rfl)) (hts (.static Lib.Math.max.name) (List.mem_of_getElem? (i := 6) rfl)) (hts (.initialized "java/lang/Math") (List.mem_of_getElem? (i := 7) rfl)) (hts (.code Lib.Math.max.name Lib.Math.max.code 2 (some .int)) (List.mem_of_getElem? (i := 8) rfl)) (Nat.le_of_ble_eq_true rfl) (Nat.le_of_ble_eq_true rfl) (Nat.le_of_ble_eq_true rfl) (Nat.le_of_ble_eq_true rfl) dJ1_indexOf_4cfef_11 ?_
    refine lv_topi (fun x_8 ex_8 => ?_)
    have g_9 : RG x_8 0 0 := RG_max ex_8 (RG_k 0 0 rfl) (RG_k 0 0 rfl) (by decide +kernel)
    refine lv_istore_n (lv' := [(2, .int x_8), (0, .ref tv4), (1, .int p1), (3, .int 6)]) hx hb dJ1_indexOf_4cfef_14 rfl hl (Nat.le_of_ble_eq_true rfl) rfl (fun ls hl => ?_)
    as_aux_lemma =>
    refine lv_iload_n hx hb dJ1_indexOf_4cfef_15 rfl (lv_at hl 3 rfl) ?_
    refine lv_aload_n hx hb dJ1_indexOf_4cfef_16 rfl (lv_at hl 1 rfl) ?_
    refine va_tlen (v := 6) hx hb hE_36 hS rfl dJ1_indexOf_4cfef_17 ?_
    refine va_mmin hx hb (by rw [hml]; exact hl.1.symm) hown (hts (.methodLink RJ1 38 Lib.Math.min.name) (List.mem_of_getElem? (i := 9) rfl)) (hts (.static Lib.Math.min.name) (List.mem_of_getElem? (i := 10) rfl)) (hts (.initialized "java/lang/Math") (List.mem_of_getElem? (i := 7) rfl)) (hts (.code Lib.Math.min.name Lib.Math.min.code 2 (some .int)) (List.mem_of_getElem? (i := 11) rfl)) (Nat.le_of_ble_eq_true rfl) (Nat.le_of_ble_eq_true rfl) (Nat.le_of_ble_eq_true rfl) (Nat.le_of_ble_eq_true rfl) dJ1_indexOf_4cfef_18 ?_
    refine lv_topi (fun x_10 ex_10 => ?_)
    have g_11 : RG x_10 6 6 := RG_min ex_10 (RG_k 6 6 rfl) (RG_k 6 6 rfl) (by decide +kernel)
    refine lv_istore_n (lv' := [(3, .int x_10), (2, .int x_8), (0, .ref tv4), (1, .int p1)]) hx hb dJ1_indexOf_4cfef_21 rfl hl (Nat.le_of_ble_eq_true rfl) rfl (fun ls hl => ?_)
    refine lv_iload_n hx hb dJ1_indexOf_4cfef_22 rfl (lv_at hl 1 rfl) ?_
    refine lv_iload_n hx hb dJ1_indexOf_4cfef_23 rfl (lv_at hl 0 rfl) ?_
    refine lv_icmp_lt (tgt := 29) hx hb dJ1_indexOf_4cfef_24 rfl (fun c_12 => ?_) (fun c_12 => ?_)
    · refine lv_aload_n hx hb dJ1_indexOf_4cfef_29 rfl (lv_at hl 2 rfl) ?_
      refine lv_iload_n hx hb dJ1_indexOf_4cfef_30 rfl (lv_at hl 3 rfl) ?_
      refine lv_iload_n hx hb dJ1_indexOf_4cfef_31 rfl (lv_at hl 1 rfl) ?_
      refine lv_iload_n hx hb dJ1_indexOf_4cfef_32 rfl (lv_at hl 0 rfl) ?_
      as_aux_lemma =>
      obtain ⟨hPc, hDc, hFc, hqc⟩ := cl_cut (wc := []) hP hD hS hA [] (by decide +kernel) rfl
      have hKc := hK.sub (tys' := []) [] rfl
      refine va_calli (va_runS (As := [.ref tv4, .int p1, .int x_8, .int x_10]) (rest := []) ⟨hx, hb, hml, hown, hts⟩ (c_J1_indexOfChar_4cfef_4 l dC dI H.size tv4 p1 x_8 x_10 h_5 g_9 g_11) (va_cwS 4 hts gf_c_J1_indexOf_4cfef_4_c_J1_indexOfChar_4cfef_4 rfl rfl rfl md_J1_indexOfChar_4cfef ⟨Nat.le_of_ble_eq_true rfl, Nat.le_of_ble_eq_true rfl⟩) ⟨fun a U g mk q => by obtain ⟨q0, q1, qP, qK, qD, qE0⟩ := q; exact ⟨q0, q1, qP, va_K.moved (u := U) (U := U.calling g mk a) (Vm.Alike.refl U.vm) qK, qD, va_T.moved (u := U) (U := U.calling g mk a) (Vm.Alike.refl U.vm) qE0⟩, fun U hU hW => ⟨rfl, by rw [hU], by rw [hU]; exact hPc, va_K.moved hW.alike hKc, hDc.weaken (fun _ _ _ _ => trivial), va_T.moved hW.alike (by rw [hU]; exact (hE_36.kept hS.2.1).narrow hFc)⟩⟩ rfl rfl hl.1 rfl (lv_room (Nat.le_of_ble_eq_true rfl)) dJ1_indexOf_4cfef_33 ⟨Nat.le_of_ble_eq_true rfl, Nat.le_of_ble_eq_true rfl⟩) hS (fun q _ h => hFc q h) hFc (fun r_13 u t H1 locs ht hvm hw hB hz1 hk1 hS => ?_)
      obtain ⟨hP1, hK1, hD1⟩ := hB
      rw [ht] at hP1
      have hP := bv_still hP hk1
      generalize H1 = H at hP hS ⊢
      as_aux_lemma =>
      rcases hw with h_14 | h_15
      · rw [h_14]
        have hK9 := hK.sub (tys' := []) [] rfl
        exact W.iret (v := (-1)) hx hb hr (fun t ht hW => ⟨⟨(-1), (), rfl, (Or.inl rfl), by rw [ht]; exact hP, va_K.moved hW.alike hK9, hD⟩, hS.F ht⟩) hS.2.2 dJ1_indexOf_4cfef_36
      · have hK9 := hK.sub (tys' := []) [] rfl
        exact W.iret (v := r_13) hx hb hr (fun t ht hW => ⟨⟨r_13, (), rfl, (Or.inr ⟨h_15, h_5⟩), by rw [ht]; exact hP, va_K.moved hW.alike hK9, hD⟩, hS.F ht⟩) hS.2.2 dJ1_indexOf_4cfef_36
    · have d_16 := Int32.not_lt.mp c_12
      have g_17 : RG x_10 6 0 := RG_le1 g_11 g_9 d_16 (by decide +kernel)
      exact RG_dead (RG_le1 g_11 g_9 d_16 (b' := 0) (by decide +kernel)) (by decide +kernel)
noncomputable def wf_c_J0_indexOf_7cf53_4 : List Cond := .code yJ0_indexOf_7cf53 cJ0_indexOf_7cf53 3 (some .int) :: ([.methodLink RJ0 492 yJ0_isLatin1_aae02, .instanceMethod yJ0_isLatin1_aae02, .selects RJ0 yJ0_isLatin1_aae02 yJ0_isLatin1_aae02, .initialized RJ0, .code yJ0_isLatin1_aae02 cJ0_isLatin1_aae02 1 (some .boolean), .fieldLink RJ0 38 "java/lang/String" "COMPACT_STRINGS" "Z", .fieldLink RJ0 15 "java/lang/String" "coder" "B", .fieldLink RJ0 9 "java/lang/String" "value" "[B", .methodLink RJ0 505 yJ0_length_8abf5, .instanceMethod yJ0_length_8abf5, .selects RJ0 yJ0_length_8abf5 yJ0_length_8abf5, .code yJ0_length_8abf5 cJ0_length_8abf5 1 (some .int), .methodLink RJ0 335 yJ0_coder_7d493, .instanceMethod yJ0_coder_7d493, .selects RJ0 yJ0_coder_7d493 yJ0_coder_7d493, .code yJ0_coder_7d493 cJ0_coder_7d493 1 (some .byte), .methodLink RJ0 637 yJ1_indexOf_4cfef, .static yJ1_indexOf_4cfef, .initialized RJ1, .code yJ1_indexOf_4cfef cJ1_indexOf_4cfef 4 (some .int), .methodLink RJ1 88 yJ1_canEncode_9a6ad, .static yJ1_canEncode_9a6ad, .code yJ1_canEncode_9a6ad cJ1_canEncode_9a6ad 1 (some .boolean), .methodLink RJ1 92 Lib.Math.max.name, .static Lib.Math.max.name, .initialized "java/lang/Math", .code Lib.Math.max.name Lib.Math.max.code 2 (some .int), .methodLink RJ1 38 Lib.Math.min.name, .static Lib.Math.min.name, .code Lib.Math.min.name Lib.Math.min.code 2 (some .int), .methodLink RJ1 95 yJ1_indexOfChar_4cfef, .static yJ1_indexOfChar_4cfef, .code yJ1_indexOfChar_4cfef cJ1_indexOfChar_4cfef 6 (some .int)])
set_option maxRecDepth 20000 in
theorem gf_c_J0_indexOf_7cf53_4_c_J0_isLatin1_aae02_4 : GoodIn wf_c_J0_indexOf_7cf53_4 (wsV RJ0 492 RJ0 yJ0_isLatin1_aae02 wf_c_J0_isLatin1_aae02_4) := goodIn_app (gi_l [1, 2, 3, 4] rfl rfl) (gi_cons (j := 5) rfl rfl (gi_l [6, 7] rfl rfl))
set_option maxRecDepth 20000 in
theorem gf_c_J0_indexOf_7cf53_4_c_J0_length_8abf5_4 : GoodIn wf_c_J0_indexOf_7cf53_4 (wsV RJ0 505 RJ0 yJ0_length_8abf5 wf_c_J0_length_8abf5_4) := goodIn_app (gi_l [9, 10, 11, 4] rfl rfl) (gi_cons (j := 12) rfl rfl (gi_l [8, 13, 14, 15, 4, 16, 6, 7] rfl rfl))
set_option maxRecDepth 20000 in
theorem gf_c_J0_indexOf_7cf53_4_c_J1_indexOf_4cfef_4 : GoodIn wf_c_J0_indexOf_7cf53_4 (va_wsS RJ0 637 yJ1_indexOf_4cfef wf_c_J1_indexOf_4cfef_4) := goodIn_app (gi_l [17, 18, 19] rfl rfl) (gi_cons (j := 20) rfl rfl (gi_l [21, 22, 19, 23, 24, 25, 26, 27, 28, 29, 30, 31, 32, 33] rfl rfl))
set_option maxHeartbeats 4000000 in
set_option maxRecDepth 100000 in
theorem c_J0_indexOf_7cf53_4 (l : Launch) (dC : Nat → ClassId) (dI : Nat → Nat → Nat) (sz : Nat) (ts4 : Nat) (p1 : Int32) (tv4 : Nat) (g_p1 : RG p1 0 65535) : Met l yJ0_indexOf_7cf53 wf_c_J0_indexOf_7cf53_4 ({ frames := 2, cells := 0, slots := 0, locals := 48 }) (va_Pc [.ref ts4, .int p1, .int 0] (fun U => U.heap.size = sz ∧ va_P (dC, dI) vwCl [] U.heap ∧ va_K (dC, dI) vwCl [] U ∧ va_D (fun _ => True) [] ∧ va_Z "java/lang/String" "COMPACT_STRINGS" "Z" (.int 1) (va_A [] sz) U U.heap ∧ va_OF "java/lang/String" "coder" "B" (.int 0) ts4 (va_A [] sz) U U.heap ∧ va_O "java/lang/String" ts4 (va_A [] sz) U U.heap ∧ va_OF "java/lang/String" "value" "[B" (.ref tv4) ts4 (va_A [] sz) U U.heap ∧ va_T .byte tv4 6 (fun j => .int ([118, 108, 114, 100, 112, 104].getD j 0)) (va_A [] sz) U U.heap)) (va_Qi (fun (r : Int32) (u : Unit) => (r = (-1)) ∨ (RG r 0 5 ∧ RG p1 0 255)) (fun (u : Unit) t => va_P (dC, dI) vwCl [] t.heap ∧ va_K (dC, dI) vwCl [] t ∧ va_D (va_A [] sz) []) (va_A [] sz)) 0 0 (va_A [] sz) := by
  refine Met.ofW (cc := cJ0_indexOf_7cf53) (maxL := 3) (ret := (some .int)) (by decide +kernel) rfl ?_
  intro p e s m args below meth c s₁ B hml hv
  obtain ⟨rfl, hsz, hP, hK, hD0, hE_10, hE_34, hE_33, hE_35, hE_36⟩ := hv
  have hx := B.exec
  have hb := B.bytes
  have hr := B.returns
  have hts := atoms_spec (ws := wf_c_J0_indexOf_7cf53_4) B.pre
  have hown : s.vm.findClass RJ0 = some m.cls := findClass_of_methodNamed B.named
  have hlocks := B.notSynchronized
  subst hsz
  have hD := hD0.self (sz := s.heap.size)
  generalize hAe : va_A [] s.heap.size = A at hD hE_10 hE_34 hE_33 hE_35 hE_36 ⊢
  have hA : ∀ q : Nat, s.heap.size ≤ q → A q := fun q h => by rw [← hAe]; exact Or.inr h
  have hP : va_P (dC, dI) vwCl [] s.heap := hP
  have hl := lv_entry ([.ref ts4, .int p1, .int 0]) (n := 3) (Nat.le_of_ble_eq_true rfl)
  rw [lg_entry_eq]
  generalize (lg_sl ([.ref ts4, .int p1, .int 0]) ++ List.replicate (3 - (lg_sl ([.ref ts4, .int p1, .int 0])).length) Slot.unset).toArray = ls at hl ⊢
  have hl : lv_has ls 3 [(0, .ref ts4), (1, .int p1), (2, .int 0)] := hl
  obtain ⟨H, hHe⟩ : ∃ H : Heap, s.heap = H := ⟨_, rfl⟩
  have hS : va_S A s.heap H [] := by rw [hHe]; exact va_S.rf
  have hP : va_P (dC, dI) vwCl [] H := by rw [← hHe]; exact hP
  rw [hHe]
  refine lv_aload_n hx hb dJ0_indexOf_7cf53_0 rfl (lv_at hl 0 rfl) ?_
  as_aux_lemma =>
  obtain ⟨hPc, hDc, hFc, hqc⟩ := cl_cut (wc := []) hP hD hS hA [] (by decide +kernel) rfl
  have hKc := hK.sub (tys' := []) [] rfl
  have hrv := bv_Orecv hE_33 hS
  refine va_calli (va_runV (As := []) (rest := []) ⟨hx, hb, hml, hown, hts⟩ (c_J0_isLatin1_aae02_4 l dC dI H.size ts4) (cwV 0 hts gf_c_J0_indexOf_7cf53_4_c_J0_isLatin1_aae02_4 rfl rfl rfl mdV_J0_isLatin1_aae02 ⟨Nat.le_of_ble_eq_true rfl, Nat.le_of_ble_eq_true rfl⟩) ⟨fun a U g mk q => by obtain ⟨q0, q1, qP, qK, qD, qE0, qE1⟩ := q; exact ⟨q0, q1, qP, va_K.moved (u := U) (U := U.calling g mk a) (Vm.Alike.refl U.vm) qK, qD, va_Z.moved (u := U) (U := U.calling g mk a) (Vm.Alike.refl U.vm) qE0, va_OF.moved (u := U) (U := U.calling g mk a) (Vm.Alike.refl U.vm) qE1⟩, hrv, fun U hU hW => ⟨rfl, by rw [hU], by rw [hU]; exact hPc, va_K.moved hW.alike hKc, hDc.weaken (fun _ _ _ _ => trivial), va_Z.moved hW.alike (by rw [hU]; exact (hE_10.kept hS.2.1).narrow hFc), va_OF.moved hW.alike (by rw [hU]; exact (hE_34.kept hS.2.1).narrow hFc)⟩⟩ rfl rfl hl.1 rfl (lv_room (Nat.le_of_ble_eq_true rfl)) dJ0_indexOf_7cf53_1 ⟨Nat.le_of_ble_eq_true rfl, Nat.le_of_ble_eq_true rfl⟩) hS (fun q _ h => hFc q h) hFc (fun r_1 u t H1 locs ht hvm hw hB hz1 hk1 hS => ?_)
  obtain ⟨hP1, hK1, hD1⟩ := hB
  rw [ht] at hP1
  have hP := bv_still hP hk1
  generalize H1 = H at hP hS ⊢
  as_aux_lemma =>
  have h_2 := hw
  rw [h_2]
  refine lv_if_eq (tgt := 23) hx hb dJ0_indexOf_7cf53_4 rfl (fun c_3 => absurd c_3 (by decide +kernel)) (fun c_3 => ?_)
  refine lv_aload_n hx hb dJ0_indexOf_7cf53_7 rfl (lv_at hl 0 rfl) ?_
  refine vk_getf hx hb hE_35 hS hown (hts (.fieldLink RJ0 9 "java/lang/String" "value" "[B") (List.mem_of_getElem? (i := 8) rfl)) (fun _ h9 => h9) dJ0_indexOf_7cf53_8 ?_
  refine lv_iload_n hx hb dJ0_indexOf_7cf53_11 rfl (lv_at hl 1 rfl) ?_
  refine lv_iload_n hx hb dJ0_indexOf_7cf53_12 rfl (lv_at hl 2 rfl) ?_
  refine lv_aload_n hx hb dJ0_indexOf_7cf53_13 rfl (lv_at hl 0 rfl) ?_
  obtain ⟨hPc, hDc, hFc, hqc⟩ := cl_cut (wc := []) hP hD hS hA [] (by decide +kernel) rfl
  have hKc := hK.sub (tys' := []) [] rfl
  have hrv := bv_Orecv hE_33 hS
  refine va_calli (va_runV (As := []) (rest := [.int 0, .int p1, .ref tv4]) ⟨hx, hb, hml, hown, hts⟩ (c_J0_length_8abf5_4 l dC dI H.size ts4 tv4) (cwV 0 hts gf_c_J0_indexOf_7cf53_4_c_J0_length_8abf5_4 rfl rfl rfl mdV_J0_length_8abf5 ⟨Nat.le_of_ble_eq_true rfl, Nat.le_of_ble_eq_true rfl⟩) ⟨fun a U g mk q => by obtain ⟨q0, q1, qP, qK, qD, qE0, qE1, qE2, qE3, qE4⟩ := q; exact ⟨q0, q1, qP, va_K.moved (u := U) (U := U.calling g mk a) (Vm.Alike.refl U.vm) qK, qD, va_OF.moved (u := U) (U := U.calling g mk a) (Vm.Alike.refl U.vm) qE0, va_T.moved (u := U) (U := U.calling g mk a) (Vm.Alike.refl U.vm) qE1, va_Z.moved (u := U) (U := U.calling g mk a) (Vm.Alike.refl U.vm) qE2, va_OF.moved (u := U) (U := U.calling g mk a) (Vm.Alike.refl U.vm) qE3, va_O.moved (u := U) (U := U.calling g mk a) (Vm.Alike.refl U.vm) qE4⟩, hrv, fun U hU hW => ⟨rfl, by rw [hU], by rw [hU]; exact hPc, va_K.moved hW.alike hKc, hDc.weaken (fun _ _ _ _ => trivial), va_OF.moved hW.alike (by rw [hU]; exact (hE_35.kept hS.2.1).narrow hFc), va_T.moved hW.alike (by rw [hU]; exact (hE_36.kept hS.2.1).narrow hFc), va_Z.moved hW.alike (by rw [hU]; exact (hE_10.kept hS.2.1).narrow hFc), va_OF.moved hW.alike (by rw [hU]; exact (hE_34.kept hS.2.1).narrow hFc), va_O.moved hW.alike (by rw [hU]; exact (hE_33.kept hS.2.1).narrow hFc)⟩⟩ rfl rfl hl.1 rfl (lv_room (Nat.le_of_ble_eq_true rfl)) dJ0_indexOf_7cf53_14 ⟨Nat.le_of_ble_eq_true rfl, Nat.le_of_ble_eq_true rfl⟩) hS (fun q _ h => hFc q h) hFc (fun r_4 u t H1 locs ht hvm hw hB hz1 hk1 hS => ?_)
  obtain ⟨hP1, hK1, hD1⟩ := hB
  rw [ht] at hP1
  have hP := bv_still hP hk1
  generalize H1 = H at hP hS ⊢
  as_aux_lemma =>
  have h_5 := hw
  rw [h_5]
  obtain ⟨hPc, hDc, hFc, hqc⟩ := cl_cut (wc := []) hP hD hS hA [] (by decide +kernel) rfl
  have hKc := hK.sub (tys' := []) [] rfl
  refine va_calli (va_runS (As := [.ref tv4, .int p1, .int 0, .int 6]) (rest := []) ⟨hx, hb, hml, hown, hts⟩ (c_J1_indexOf_4cfef_4 l dC dI H.size tv4 p1 g_p1) (va_cwS 4 hts gf_c_J0_indexOf_7cf53_4_c_J1_indexOf_4cfef_4 rfl rfl rfl md_J1_indexOf_4cfef ⟨Nat.le_of_ble_eq_true rfl, Nat.le_of_ble_eq_true rfl⟩) ⟨fun a U g mk q => by obtain ⟨q0, q1, qP, qK, qD, qE0⟩ := q; exact ⟨q0, q1, qP, va_K.moved (u := U) (U := U.calling g mk a) (Vm.Alike.refl U.vm) qK, qD, va_T.moved (u := U) (U := U.calling g mk a) (Vm.Alike.refl U.vm) qE0⟩, fun U hU hW => ⟨rfl, by rw [hU], by rw [hU]; exact hPc, va_K.moved hW.alike hKc, hDc.weaken (fun _ _ _ _ => trivial), va_T.moved hW.alike (by rw [hU]; exact (hE_36.kept hS.2.1).narrow hFc)⟩⟩ rfl rfl hl.1 rfl (lv_room (Nat.le_of_ble_eq_true rfl)) dJ0_indexOf_7cf53_17 ⟨Nat.le_of_ble_eq_true rfl, Nat.le_of_ble_eq_true rfl⟩) hS (fun q _ h => hFc q h) hFc (fun r_6 u t H1 locs ht hvm hw hB hz1 hk1 hS => ?_)
  obtain ⟨hP1, hK1, hD1⟩ := hB
  rw [ht] at hP1
  have hP := bv_still hP hk1
  generalize H1 = H at hP hS ⊢
  as_aux_lemma =>
  rcases hw with h_7 | ⟨h_8, h_9⟩
  · rw [h_7]
    refine lv_goto (tgt := 36) hx hb dJ0_indexOf_7cf53_20 rfl ?_
    have hK9 := hK.sub (tys' := []) [] rfl
    exact W.iret (v := (-1)) hx hb hr (fun t ht hW => ⟨⟨(-1), (), rfl, (Or.inl rfl), by rw [ht]; exact hP, va_K.moved hW.alike hK9, hD⟩, hS.F ht⟩) hS.2.2 dJ0_indexOf_7cf53_36
  · refine lv_goto (tgt := 36) hx hb dJ0_indexOf_7cf53_20 rfl ?_
    have hK9 := hK.sub (tys' := []) [] rfl
    exact W.iret (v := r_6) hx hb hr (fun t ht hW => ⟨⟨r_6, (), rfl, (Or.inr ⟨h_8, h_9⟩), by rw [ht]; exact hP, va_K.moved hW.alike hK9, hD⟩, hS.F ht⟩) hS.2.2 dJ0_indexOf_7cf53_36
noncomputable def wf_c_J0_indexOf_0f7a4_4 : List Cond := .code yJ0_indexOf_0f7a4 cJ0_indexOf_0f7a4 2 (some .int) :: ([.methodLink RJ0 633 yJ0_indexOf_7cf53, .instanceMethod yJ0_indexOf_7cf53, .selects RJ0 yJ0_indexOf_7cf53 yJ0_indexOf_7cf53, .initialized RJ0, .code yJ0_indexOf_7cf53 cJ0_indexOf_7cf53 3 (some .int), .methodLink RJ0 492 yJ0_isLatin1_aae02, .instanceMethod yJ0_isLatin1_aae02, .selects RJ0 yJ0_isLatin1_aae02 yJ0_isLatin1_aae02, .code yJ0_isLatin1_aae02 cJ0_isLatin1_aae02 1 (some .boolean), .fieldLink RJ0 38 "java/lang/String" "COMPACT_STRINGS" "Z", .fieldLink RJ0 15 "java/lang/String" "coder" "B", .fieldLink RJ0 9 "java/lang/String" "value" "[B", .methodLink RJ0 505 yJ0_length_8abf5, .instanceMethod yJ0_length_8abf5, .selects RJ0 yJ0_length_8abf5 yJ0_length_8abf5, .code yJ0_length_8abf5 cJ0_length_8abf5 1 (some .int), .methodLink RJ0 335 yJ0_coder_7d493, .instanceMethod yJ0_coder_7d493, .selects RJ0 yJ0_coder_7d493 yJ0_coder_7d493, .code yJ0_coder_7d493 cJ0_coder_7d493 1 (some .byte), .methodLink RJ0 637 yJ1_indexOf_4cfef, .static yJ1_indexOf_4cfef, .initialized RJ1, .code yJ1_indexOf_4cfef cJ1_indexOf_4cfef 4 (some .int), .methodLink RJ1 88 yJ1_canEncode_9a6ad, .static yJ1_canEncode_9a6ad, .code yJ1_canEncode_9a6ad cJ1_canEncode_9a6ad 1 (some .boolean), .methodLink RJ1 92 Lib.Math.max.name, .static Lib.Math.max.name, .initialized "java/lang/Math", .code Lib.Math.max.name Lib.Math.max.code 2 (some .int), .methodLink RJ1 38 Lib.Math.min.name, .static Lib.Math.min.name, .code Lib.Math.min.name Lib.Math.min.code 2 (some .int), .methodLink RJ1 95 yJ1_indexOfChar_4cfef, .static yJ1_indexOfChar_4cfef, .code yJ1_indexOfChar_4cfef cJ1_indexOfChar_4cfef 6 (some .int)])
set_option maxRecDepth 20000 in
theorem gf_c_J0_indexOf_0f7a4_4_c_J0_indexOf_7cf53_4 : GoodIn wf_c_J0_indexOf_0f7a4_4 (wsV RJ0 633 RJ0 yJ0_indexOf_7cf53 wf_c_J0_indexOf_7cf53_4) := goodIn_app (gi_l [1, 2, 3, 4] rfl rfl) (gi_cons (j := 5) rfl rfl (gi_l [6, 7, 8, 4, 9, 10, 11, 12, 13, 14, 15, 16, 17, 18, 19, 20, 21, 22, 23, 24, 25, 26, 27, 28, 29, 30, 31, 32, 33, 34, 35, 36, 37] rfl rfl))
set_option maxHeartbeats 4000000 in
set_option maxRecDepth 100000 in
theorem c_J0_indexOf_0f7a4_4 (l : Launch) (dC : Nat → ClassId) (dI : Nat → Nat → Nat) (sz : Nat) (ts4 : Nat) (p1 : Int32) (tv4 : Nat) (g_p1 : RG p1 0 65535) : Met l yJ0_indexOf_0f7a4 wf_c_J0_indexOf_0f7a4_4 ({ frames := 3, cells := 0, slots := 0, locals := 70 }) (va_Pc [.ref ts4, .int p1] (fun U => U.heap.size = sz ∧ va_P (dC, dI) vwCl [] U.heap ∧ va_K (dC, dI) vwCl [] U ∧ va_D (fun _ => True) [] ∧ va_Z "java/lang/String" "COMPACT_STRINGS" "Z" (.int 1) (va_A [] sz) U U.heap ∧ va_OF "java/lang/String" "coder" "B" (.int 0) ts4 (va_A [] sz) U U.heap ∧ va_O "java/lang/String" ts4 (va_A [] sz) U U.heap ∧ va_OF "java/lang/String" "value" "[B" (.ref tv4) ts4 (va_A [] sz) U U.heap ∧ va_T .byte tv4 6 (fun j => .int ([118, 108, 114, 100, 112, 104].getD j 0)) (va_A [] sz) U U.heap)) (va_Qi (fun (r : Int32) (u : Unit) => (r = (-1)) ∨ (RG r 0 5 ∧ RG p1 0 255)) (fun (u : Unit) t => va_P (dC, dI) vwCl [] t.heap ∧ va_K (dC, dI) vwCl [] t ∧ va_D (va_A [] sz) []) (va_A [] sz)) 0 0 (va_A [] sz) := by
  refine Met.ofW (cc := cJ0_indexOf_0f7a4) (maxL := 2) (ret := (some .int)) (by decide +kernel) rfl ?_
  intro p e s m args below meth c s₁ B hml hv
  obtain ⟨rfl, hsz, hP, hK, hD0, hE_10, hE_34, hE_33, hE_35, hE_36⟩ := hv
  have hx := B.exec
  have hb := B.bytes
  have hr := B.returns
  have hts := atoms_spec (ws := wf_c_J0_indexOf_0f7a4_4) B.pre
  have hown : s.vm.findClass RJ0 = some m.cls := findClass_of_methodNamed B.named
  have hlocks := B.notSynchronized
  subst hsz
  have hD := hD0.self (sz := s.heap.size)
  generalize hAe : va_A [] s.heap.size = A at hD hE_10 hE_34 hE_33 hE_35 hE_36 ⊢
  have hA : ∀ q : Nat, s.heap.size ≤ q → A q := fun q h => by rw [← hAe]; exact Or.inr h
  have hP : va_P (dC, dI) vwCl [] s.heap := hP
  have hl := lv_entry ([.ref ts4, .int p1]) (n := 2) (Nat.le_of_ble_eq_true rfl)
  rw [lg_entry_eq]
  generalize (lg_sl ([.ref ts4, .int p1]) ++ List.replicate (2 - (lg_sl ([.ref ts4, .int p1])).length) Slot.unset).toArray = ls at hl ⊢
  have hl : lv_has ls 2 [(0, .ref ts4), (1, .int p1)] := hl
  obtain ⟨H, hHe⟩ : ∃ H : Heap, s.heap = H := ⟨_, rfl⟩
  have hS : va_S A s.heap H [] := by rw [hHe]; exact va_S.rf
  have hP : va_P (dC, dI) vwCl [] H := by rw [← hHe]; exact hP
  rw [hHe]
  refine lv_aload_n hx hb dJ0_indexOf_0f7a4_0 rfl (lv_at hl 0 rfl) ?_
  as_aux_lemma =>
  refine lv_iload_n hx hb dJ0_indexOf_0f7a4_1 rfl (lv_at hl 1 rfl) ?_
  refine lv_iconst (v := 0) hx hb dJ0_indexOf_0f7a4_2 kc_iconst_0 ?_
  obtain ⟨hPc, hDc, hFc, hqc⟩ := cl_cut (wc := []) hP hD hS hA [] (by decide +kernel) rfl
  have hKc := hK.sub (tys' := []) [] rfl
  have hrv := bv_Orecv hE_33 hS
  refine va_calli (va_runV (As := [.int p1, .int 0]) (rest := []) ⟨hx, hb, hml, hown, hts⟩ (c_J0_indexOf_7cf53_4 l dC dI H.size ts4 p1 tv4 g_p1) (cwV 2 hts gf_c_J0_indexOf_0f7a4_4_c_J0_indexOf_7cf53_4 rfl rfl rfl mdV_J0_indexOf_7cf53 ⟨Nat.le_of_ble_eq_true rfl, Nat.le_of_ble_eq_true rfl⟩) ⟨fun a U g mk q => by obtain ⟨q0, q1, qP, qK, qD, qE0, qE1, qE2, qE3, qE4⟩ := q; exact ⟨q0, q1, qP, va_K.moved (u := U) (U := U.calling g mk a) (Vm.Alike.refl U.vm) qK, qD, va_Z.moved (u := U) (U := U.calling g mk a) (Vm.Alike.refl U.vm) qE0, va_OF.moved (u := U) (U := U.calling g mk a) (Vm.Alike.refl U.vm) qE1, va_O.moved (u := U) (U := U.calling g mk a) (Vm.Alike.refl U.vm) qE2, va_OF.moved (u := U) (U := U.calling g mk a) (Vm.Alike.refl U.vm) qE3, va_T.moved (u := U) (U := U.calling g mk a) (Vm.Alike.refl U.vm) qE4⟩, hrv, fun U hU hW => ⟨rfl, by rw [hU], by rw [hU]; exact hPc, va_K.moved hW.alike hKc, hDc.weaken (fun _ _ _ _ => trivial), va_Z.moved hW.alike (by rw [hU]; exact (hE_10.kept hS.2.1).narrow hFc), va_OF.moved hW.alike (by rw [hU]; exact (hE_34.kept hS.2.1).narrow hFc), va_O.moved hW.alike (by rw [hU]; exact (hE_33.kept hS.2.1).narrow hFc), va_OF.moved hW.alike (by rw [hU]; exact (hE_35.kept hS.2.1).narrow hFc), va_T.moved hW.alike (by rw [hU]; exact (hE_36.kept hS.2.1).narrow hFc)⟩⟩ rfl rfl hl.1 rfl (lv_room (Nat.le_of_ble_eq_true rfl)) dJ0_indexOf_0f7a4_3 ⟨Nat.le_of_ble_eq_true rfl, Nat.le_of_ble_eq_true rfl⟩) hS (fun q _ h => hFc q h) hFc (fun r_1 u t H1 locs ht hvm hw hB hz1 hk1 hS => ?_)
  obtain ⟨hP1, hK1, hD1⟩ := hB
  rw [ht] at hP1
  have hP := bv_still hP hk1
  generalize H1 = H at hP hS ⊢
  as_aux_lemma =>
  rcases hw with h_2 | ⟨h_3, h_4⟩
  · rw [h_2]
    have hK9 := hK.sub (tys' := []) [] rfl
    exact W.iret (v := (-1)) hx hb hr (fun t ht hW => ⟨⟨(-1), (), rfl, (Or.inl rfl), by rw [ht]; exact hP, va_K.moved hW.alike hK9, hD⟩, hS.F ht⟩) hS.2.2 dJ0_indexOf_0f7a4_6
  · have hK9 := hK.sub (tys' := []) [] rfl
    exact W.iret (v := r_1) hx hb hr (fun t ht hW => ⟨⟨r_1, (), rfl, (Or.inr ⟨h_3, h_4⟩), by rw [ht]; exact hP, va_K.moved hW.alike hK9, hD⟩, hS.F ht⟩) hS.2.2 dJ0_indexOf_0f7a4_6
noncomputable def wd_c_X9_number_1 (a0 : Nat) (a1 : Nat) (a2 : Int32) (a3 : Int32) (a4 : Int32) (a5 : Nat) (a6 : ClassId) (a7 : Nat → Int32) : va_W := [(a0, .inr (9, [.ref a1, .int a2, .int a3, .int a4])), (a5, .inl (a6, 240, .inl a7))]
noncomputable def wf_c_X9_number_1 : List Cond := List.cons (.code yX9_number cX9_number 4 (some .int)) (@HAppend.hAppend (List Cond) (List Cond) (List Cond) _ [.fieldLink RX9 22 "BuoyVote$Tape" "at" "I", .fieldLink RX9 19 "BuoyVote$Tape" "length" "I", .fieldLink RX9 11 "BuoyVote$Tape" "bytes" "[I"] wsX90)
theorem iw_c_X9_number_1_X9 : ∀ w ∈ wsX90, w ∈ wf_c_X9_number_1 := fun w h => List.mem_cons_of_mem _ (List.mem_append_right _ h)
set_option maxHeartbeats 4000000 in
set_option maxRecDepth 100000 in
theorem c_X9_number_1 (l : Launch) (dC : Nat → ClassId) (dI : Nat → Nat → Nat) (sz : Nat) (h0 : Nat) (h0_0 : Nat) (h0_f1 : Int32) (h0_f2 : Int32) (h0_f3 : Int32) (h0_0k : ClassId) (h0_0c : Nat → Int32) (g_h0_f1 : RG h0_f1 0 240) (g_h0_f2 : RG h0_f2 0 240) (g_h0_f3 : RG h0_f3 (-1) 240) (a_h0_0c : AI h0_0c 0 255) : Met l yX9_number wf_c_X9_number_1 ({ frames := 0, cells := 0, slots := 0, locals := 0 }) (va_Pc [.ref h0, .int 4] (fun U => U.heap.size = sz ∧ va_P (dC, dI) vwCl (wd_c_X9_number_1 h0 h0_0 h0_f1 h0_f2 h0_f3 h0_0 h0_0k h0_0c) U.heap ∧ va_K (dC, dI) vwCl [(h0_0k, .int)] U ∧ va_D (fun _ => True) (wd_c_X9_number_1 h0 h0_0 h0_f1 h0_f2 h0_f3 h0_0 h0_0k h0_0c))) (va_Qi (fun (r : Int32) (u : (Int32)) => (r = (-1) ∧ RG u 0 240 ∧ h0_f2.toInt + 0 ≤ (u).toInt) ∨ (RG r 0 9999 ∧ RG u 1 240 ∧ RG h0_f1 1 240 ∧ RG h0_f2 0 239 ∧ h0_f2.toInt + 1 ≤ (u).toInt)) (fun (u : (Int32)) t => va_P (dC, dI) vwCl (wd_c_X9_number_1 h0 h0_0 h0_f1 u h0_f3 h0_0 h0_0k h0_0c) t.heap ∧ va_K (dC, dI) vwCl [] t ∧ va_D (va_A (wd_c_X9_number_1 h0 h0_0 h0_f1 h0_f2 h0_f3 h0_0 h0_0k h0_0c) sz) (wd_c_X9_number_1 h0 h0_0 h0_f1 u h0_f3 h0_0 h0_0k h0_0c)) (va_A (wd_c_X9_number_1 h0 h0_0 h0_f1 h0_f2 h0_f3 h0_0 h0_0k h0_0c) sz)) 0 0 (va_A (wd_c_X9_number_1 h0 h0_0 h0_f1 h0_f2 h0_f3 h0_0 h0_0k h0_0c) sz) := by
  refine Met.ofW (cc := cX9_number) (maxL := 4) (ret := (some .int)) (by decide +kernel) rfl ?_
  intro p e s m args below meth c s₁ B hml hv
  obtain ⟨rfl, hsz, hP, hK, hD0⟩ := hv
  have hx := B.exec
  have hb := B.bytes
  have hr := B.returns
  have hts := atoms_spec (ws := wf_c_X9_number_1) B.pre
  have hown : s.vm.findClass RX9 = some m.cls := findClass_of_methodNamed B.named
  have hlocks := B.notSynchronized
  subst hsz
  have hD := hD0.self (sz := s.heap.size)
  generalize hAe : va_A (wd_c_X9_number_1 h0 h0_0 h0_f1 h0_f2 h0_f3 h0_0 h0_0k h0_0c) s.heap.size = A at hD ⊢
  have hA : ∀ q : Nat, s.heap.size ≤ q → A q := fun q h => by rw [← hAe]; exact Or.inr h
  have hP : va_P (dC, dI) vwCl (wd_c_X9_number_1 h0 h0_0 h0_f1 h0_f2 h0_f3 h0_0 h0_0k h0_0c) s.heap := hP
  have hl := lv_entry ([.ref h0, .int 4]) (n := 4) (Nat.le_of_ble_eq_true rfl)
  rw [lg_entry_eq]
  generalize (lg_sl ([.ref h0, .int 4]) ++ List.replicate (4 - (lg_sl ([.ref h0, .int 4])).length) Slot.unset).toArray = ls at hl ⊢
  have hl : lv_has ls 4 [(0, .ref h0), (1, .int 4)] := hl
  obtain ⟨H, hHe⟩ : ∃ H : Heap, s.heap = H := ⟨_, rfl⟩
  have hS : va_S A s.heap H [] := by rw [hHe]; exact va_S.rf
  have hP : va_P (dC, dI) vwCl (wd_c_X9_number_1 h0 h0_0 h0_f1 h0_f2 h0_f3 h0_0 h0_0k h0_0c) H := by rw [← hHe]; exact hP
  rw [hHe]
  refine lv_iconst (v := (-1)) hx hb dX9_number_0 kc_iconst_m1 ?_
  as_aux_lemma =>
  refine lv_istore_n (lv' := [(2, .int (-1)), (0, .ref h0), (1, .int 4)]) hx hb dX9_number_1 rfl hl (Nat.le_of_ble_eq_true rfl) rfl (fun ls hl => ?_)
  refine lv_iconst (v := 0) hx hb dX9_number_2 kc_iconst_0 ?_
  refine lv_istore_n (lv' := [(3, .int 0), (2, .int (-1)), (0, .ref h0), (1, .int 4)]) hx hb dX9_number_3 rfl hl (Nat.le_of_ble_eq_true rfl) rfl (fun ls hl => ?_)
  refine lv_aload_n hx hb dX9_number_4 rfl (lv_at hl 2 rfl) ?_
  refine va_get (D := (dC, dI)) (ci := 9) (v := .int h0_f2) (C := RX9) (T := TX9) (N := 4) hx hb hts iw_c_X9_number_1_X9 hown hK hP 0 rfl rfl 2 (by decide +kernel) (hts (.fieldLink RX9 22 "BuoyVote$Tape" "at" "I") (List.mem_of_getElem? (i := 1) rfl)) (fun _ h9 => h9) rfl dX9_number_5 ?_
  refine lv_aload_n hx hb dX9_number_8 rfl (lv_at hl 2 rfl) ?_
  refine va_get (D := (dC, dI)) (ci := 9) (v := .int h0_f1) (C := RX9) (T := TX9) (N := 4) hx hb hts iw_c_X9_number_1_X9 hown hK hP 0 rfl rfl 1 (by decide +kernel) (hts (.fieldLink RX9 19 "BuoyVote$Tape" "length" "I") (List.mem_of_getElem? (i := 2) rfl)) (fun _ h9 => h9) rfl dX9_number_9 ?_
  refine lv_icmp_ge (tgt := 92) hx hb dX9_number_12 rfl (fun c_1 => ?_) (fun c_1 => ?_)
  · refine lv_iload_n hx hb dX9_number_92 rfl (lv_at hl 1 rfl) ?_
    have hK9 := hK.sub (tys' := []) [] rfl
    exact W.iret (v := (-1)) hx hb hr (fun t ht hW => ⟨⟨(-1), h0_f2, rfl, (Or.inl ⟨rfl, g_h0_f2, (by show h0_f2.toInt + 0 ≤ h0_f2.toInt; omega)⟩), by rw [ht]; exact hP, va_K.moved hW.alike hK9, hD⟩, hS.F ht⟩) hS.2.2 dX9_number_93
  · have d_2 := Int32.not_le.mp c_1
    have g_3 : RG h0_f2 0 239 := RG_lt1 g_h0_f2 g_h0_f1 d_2 (by decide +kernel)
    have g_4 : RG h0_f1 1 240 := RG_lt2 g_h0_f2 g_h0_f1 d_2 (by decide +kernel)
    refine lv_aload_n hx hb dX9_number_15 rfl (lv_at hl 2 rfl) ?_
    as_aux_lemma =>
    refine va_get (D := (dC, dI)) (ci := 9) (v := .ref h0_0) (C := RX9) (T := TX9) (N := 4) hx hb hts iw_c_X9_number_1_X9 hown hK hP 0 rfl rfl 0 (by decide +kernel) (hts (.fieldLink RX9 11 "BuoyVote$Tape" "bytes" "[I") (List.mem_of_getElem? (i := 3) rfl)) (fun _ h9 => h9) rfl dX9_number_16 ?_
    refine lv_aload_n hx hb dX9_number_19 rfl (lv_at hl 2 rfl) ?_
    refine va_get (D := (dC, dI)) (ci := 9) (v := .int h0_f2) (C := RX9) (T := TX9) (N := 4) hx hb hts iw_c_X9_number_1_X9 hown hK hP 0 rfl rfl 2 (by decide +kernel) (hts (.fieldLink RX9 22 "BuoyVote$Tape" "at" "I") (List.mem_of_getElem? (i := 1) rfl)) (fun _ h9 => h9) rfl dX9_number_20 ?_
    refine va_iald hx hb hK hP 1 0 rfl rfl (RG_in g_3 (by decide +kernel)) dX9_number_23 ?_
    refine lv_topi (fun x_5 ex_5 => ?_)
    have g_6 : RG x_5 0 255 := AI_rd a_h0_0c ex_5
    refine lv_bipush (v := 48) hx hb dX9_number_24 kc_bipush_48 ?_
    refine lv_icmp_lt (tgt := 92) hx hb dX9_number_26 rfl (fun c_7 => ?_) (fun c_7 => ?_)
    · have g_8 : RG x_5 0 47 := RG_lt1 g_6 (RG_k 48 48 rfl) c_7 (by decide +kernel)
      refine lv_iload_n hx hb dX9_number_92 rfl (lv_at hl 1 rfl) ?_
      have hK9 := hK.sub (tys' := []) [] rfl
      exact W.iret (v := (-1)) hx hb hr (fun t ht hW => ⟨⟨(-1), h0_f2, rfl, (Or.inl ⟨rfl, (RG_w g_3 (by decide +kernel)), (by show h0_f2.toInt + 0 ≤ h0_f2.toInt; omega)⟩), by rw [ht]; exact hP, va_K.moved hW.alike hK9, hD⟩, hS.F ht⟩) hS.2.2 dX9_number_93
    · have d_9 := Int32.not_lt.mp c_7
      have g_10 : RG x_5 48 255 := RG_le2 (RG_k 48 48 rfl) g_6 d_9 (by decide +kernel)
      refine lv_aload_n hx hb dX9_number_29 rfl (lv_at hl 2 rfl) ?_
      as_aux_lemma =>
      refine va_get (D := (dC, dI)) (ci := 9) (v := .ref h0_0) (C := RX9) (T := TX9) (N := 4) hx hb hts iw_c_X9_number_1_X9 hown hK hP 0 rfl rfl 0 (by decide +kernel) (hts (.fieldLink RX9 11 "BuoyVote$Tape" "bytes" "[I") (List.mem_of_getElem? (i := 3) rfl)) (fun _ h9 => h9) rfl dX9_number_30 ?_
      refine lv_aload_n hx hb dX9_number_33 rfl (lv_at hl 2 rfl) ?_
      refine va_get (D := (dC, dI)) (ci := 9) (v := .int h0_f2) (C := RX9) (T := TX9) (N := 4) hx hb hts iw_c_X9_number_1_X9 hown hK hP 0 rfl rfl 2 (by decide +kernel) (hts (.fieldLink RX9 22 "BuoyVote$Tape" "at" "I") (List.mem_of_getElem? (i := 1) rfl)) (fun _ h9 => h9) rfl dX9_number_34 ?_
      refine va_iald hx hb hK hP 1 0 rfl rfl (RG_in g_3 (by decide +kernel)) dX9_number_37 ?_
      refine lv_topi (fun x_11 ex_11 => ?_)
      obtain rfl : x_5 = x_11 := (ex_11.trans ex_5.symm).symm
      refine lv_bipush (v := 57) hx hb dX9_number_38 kc_bipush_57 ?_
      refine lv_icmp_gt (tgt := 92) hx hb dX9_number_40 rfl (fun c_12 => ?_) (fun c_12 => ?_)
      · have g_13 : RG x_5 58 255 := RG_lt2 (RG_k 57 57 rfl) g_10 c_12 (by decide +kernel)
        refine lv_iload_n hx hb dX9_number_92 rfl (lv_at hl 1 rfl) ?_
        have hK9 := hK.sub (tys' := []) [] rfl
        exact W.iret (v := (-1)) hx hb hr (fun t ht hW => ⟨⟨(-1), h0_f2, rfl, (Or.inl ⟨rfl, (RG_w g_3 (by decide +kernel)), (by show h0_f2.toInt + 0 ≤ h0_f2.toInt; omega)⟩), by rw [ht]; exact hP, va_K.moved hW.alike hK9, hD⟩, hS.F ht⟩) hS.2.2 dX9_number_93
      · have d_14 := Int32.not_lt.mp c_12
        have g_15 : RG x_5 48 57 := RG_le1 g_10 (RG_k 57 57 rfl) d_14 (by decide +kernel)
        refine lv_iload_n hx hb dX9_number_43 rfl (lv_at hl 0 rfl) ?_
        as_aux_lemma =>
        refine lv_iload_n hx hb dX9_number_44 rfl (lv_at hl 3 rfl) ?_
        refine lv_icmp_lt (tgt := 50) hx hb dX9_number_45 rfl (fun c_16 => ?_) (fun c_16 => absurd c_16 (by decide +kernel))
        refine lv_iload_n hx hb dX9_number_50 rfl (lv_at hl 0 rfl) ?_
        refine lv_if_ne (tgt := 58) hx hb dX9_number_51 rfl (fun c_17 => absurd c_17 (by decide +kernel)) (fun c_17 => ?_)
        refine lv_iconst (v := 0) hx hb dX9_number_54 kc_iconst_0 ?_
        refine lv_goto (tgt := 62) hx hb dX9_number_55 rfl ?_
        refine lv_aload_n hx hb dX9_number_62 rfl (lv_at hl 2 rfl) ?_
        refine va_get (D := (dC, dI)) (ci := 9) (v := .ref h0_0) (C := RX9) (T := TX9) (N := 4) hx hb hts iw_c_X9_number_1_X9 hown hK hP 0 rfl rfl 0 (by decide +kernel) (hts (.fieldLink RX9 11 "BuoyVote$Tape" "bytes" "[I") (List.mem_of_getElem? (i := 3) rfl)) (fun _ h9 => h9) rfl dX9_number_63 ?_
        refine lv_aload_n hx hb dX9_number_66 rfl (lv_at hl 2 rfl) ?_
        refine va_get (D := (dC, dI)) (ci := 9) (v := .int h0_f2) (C := RX9) (T := TX9) (N := 4) hx hb hts iw_c_X9_number_1_X9 hown hK hP 0 rfl rfl 2 (by decide +kernel) (hts (.fieldLink RX9 22 "BuoyVote$Tape" "at" "I") (List.mem_of_getElem? (i := 1) rfl)) (fun _ h9 => h9) rfl dX9_number_67 ?_
        refine va_iald hx hb hK hP 1 0 rfl rfl (RG_in g_3 (by decide +kernel)) dX9_number_70 ?_
        refine lv_topi (fun x_18 ex_18 => ?_)
        obtain rfl : x_5 = x_18 := (ex_18.trans ex_5.symm).symm
        refine lv_iadd hx hb dX9_number_71 ?_
        as_aux_lemma =>
        refine lv_topi (fun x_19 ex_19 => ?_)
        have g_20 : RG x_19 48 57 := RG_add ex_19 (RG_k 0 0 rfl) g_15 (by decide +kernel)
        refine lv_bipush (v := 48) hx hb dX9_number_72 kc_bipush_48 ?_
        refine lv_isub hx hb dX9_number_74 ?_
        refine lv_topi (fun x_21 ex_21 => ?_)
        have g_22 : RG x_21 0 9 := RG_sub ex_21 g_20 (RG_k 48 48 rfl) (by decide +kernel)
        refine lv_istore_n (lv' := [(2, .int x_21), (3, .int 0), (0, .ref h0), (1, .int 4)]) hx hb dX9_number_75 rfl hl (Nat.le_of_ble_eq_true rfl) rfl (fun ls hl => ?_)
        refine lv_aload_n hx hb dX9_number_76 rfl (lv_at hl 2 rfl) ?_
        refine lv_dup hx hb dX9_number_77 rfl ?_
        refine va_get (D := (dC, dI)) (ci := 9) (v := .int h0_f2) (C := RX9) (T := TX9) (N := 4) hx hb hts iw_c_X9_number_1_X9 hown hK hP 0 rfl rfl 2 (by decide +kernel) (hts (.fieldLink RX9 22 "BuoyVote$Tape" "at" "I") (List.mem_of_getElem? (i := 1) rfl)) (fun _ h9 => h9) rfl dX9_number_78 ?_
        refine lv_iconst (v := 1) hx hb dX9_number_81 kc_iconst_1 ?_
        refine lv_iadd hx hb dX9_number_82 ?_
        refine lv_topi (fun x_23 ex_23 => ?_)
        have g_24 : RG x_23 1 240 := RG_add ex_23 g_3 (RG_k 1 1 rfl) (by decide +kernel)
        have q_25 : x_23.toInt = h0_f2.toInt + 1 := eq_add ex_23 g_3 (q := 1) rfl (by decide +kernel)
        refine va_put (D := (dC, dI)) (ci := 9) (v := .int x_23) (ty := .int) (C := RX9) (T := TX9) (N := 4) hx hb hts iw_c_X9_number_1_X9 tyX9 tyX9_ok nmX9 hown hK hP hD hS 0 rfl rfl 2 (by decide +kernel) (hts (.fieldLink RX9 22 "BuoyVote$Tape" "at" "I") (List.mem_of_getElem? (i := 1) rfl)) (fun _ h9 => h9) rfl (by decide +kernel) rfl rfl (Nat.le_of_ble_eq_true rfl) dX9_number_83 (fun H locs hP hD hS => ?_)
        as_aux_lemma =>
        have hP : va_P (dC, dI) vwCl (wd_c_X9_number_1 h0 h0_0 h0_f1 x_23 h0_f3 h0_0 h0_0k h0_0c) H := hP
        have hD : va_D A (wd_c_X9_number_1 h0 h0_0 h0_f1 x_23 h0_f3 h0_0 h0_0k h0_0c) := hD
        refine lv_iinc (v := 1) (lv' := [(3, .int 1), (2, .int x_21), (0, .ref h0), (1, .int 4)]) hx hb dX9_number_86 hl (k := 1) rfl (by decide +kernel) (Nat.le_of_ble_eq_true rfl) rfl (fun ls hl => ?_)
        refine lv_goto (tgt := 4) hx hb dX9_number_89 rfl ?_
        refine lv_aload_n hx hb dX9_number_4 rfl (lv_at hl 2 rfl) ?_
        refine va_get (D := (dC, dI)) (ci := 9) (v := .int x_23) (C := RX9) (T := TX9) (N := 4) hx hb hts iw_c_X9_number_1_X9 hown hK hP 0 rfl rfl 2 (by decide +kernel) (hts (.fieldLink RX9 22 "BuoyVote$Tape" "at" "I") (List.mem_of_getElem? (i := 1) rfl)) (fun _ h9 => h9) rfl dX9_number_5 ?_
        refine lv_aload_n hx hb dX9_number_8 rfl (lv_at hl 2 rfl) ?_
        refine va_get (D := (dC, dI)) (ci := 9) (v := .int h0_f1) (C := RX9) (T := TX9) (N := 4) hx hb hts iw_c_X9_number_1_X9 hown hK hP 0 rfl rfl 1 (by decide +kernel) (hts (.fieldLink RX9 19 "BuoyVote$Tape" "length" "I") (List.mem_of_getElem? (i := 2) rfl)) (fun _ h9 => h9) rfl dX9_number_9 ?_
        refine lv_icmp_ge (tgt := 92) hx hb dX9_number_12 rfl (fun c_26 => ?_) (fun c_26 => ?_)
        · refine lv_iload_n hx hb dX9_number_92 rfl (lv_at hl 1 rfl) ?_
          have hK9 := hK.sub (tys' := []) [] rfl
          exact W.iret (v := x_21) hx hb hr (fun t ht hW => ⟨⟨x_21, x_23, rfl, (Or.inr ⟨(RG_w g_22 (by decide +kernel)), g_24, g_4, g_3, (by have := q_25; show h0_f2.toInt + 1 ≤ x_23.toInt; omega)⟩), by rw [ht]; exact hP, va_K.moved hW.alike hK9, hD⟩, hS.F ht⟩) hS.2.2 dX9_number_93
        · have d_27 := Int32.not_le.mp c_26
          have g_28 : RG x_23 1 239 := RG_lt1 g_24 g_4 d_27 (by decide +kernel)
          have g_29 : RG h0_f2 0 238 := RG_addb ex_23 (q := 1) rfl g_3 g_28 (by decide +kernel)
          have g_30 : RG h0_f1 2 240 := RG_lt2 g_24 g_4 d_27 (by decide +kernel)
          refine lv_aload_n hx hb dX9_number_15 rfl (lv_at hl 2 rfl) ?_
          as_aux_lemma =>
          refine va_get (D := (dC, dI)) (ci := 9) (v := .ref h0_0) (C := RX9) (T := TX9) (N := 4) hx hb hts iw_c_X9_number_1_X9 hown hK hP 0 rfl rfl 0 (by decide +kernel) (hts (.fieldLink RX9 11 "BuoyVote$Tape" "bytes" "[I") (List.mem_of_getElem? (i := 3) rfl)) (fun _ h9 => h9) rfl dX9_number_16 ?_
          refine lv_aload_n hx hb dX9_number_19 rfl (lv_at hl 2 rfl) ?_
          refine va_get (D := (dC, dI)) (ci := 9) (v := .int x_23) (C := RX9) (T := TX9) (N := 4) hx hb hts iw_c_X9_number_1_X9 hown hK hP 0 rfl rfl 2 (by decide +kernel) (hts (.fieldLink RX9 22 "BuoyVote$Tape" "at" "I") (List.mem_of_getElem? (i := 1) rfl)) (fun _ h9 => h9) rfl dX9_number_20 ?_
          refine va_iald hx hb hK hP 1 0 rfl rfl (RG_in g_28 (by decide +kernel)) dX9_number_23 ?_
          refine lv_topi (fun x_31 ex_31 => ?_)
          have g_32 : RG x_31 0 255 := AI_rd a_h0_0c ex_31
          refine lv_bipush (v := 48) hx hb dX9_number_24 kc_bipush_48 ?_
          refine lv_icmp_lt (tgt := 92) hx hb dX9_number_26 rfl (fun c_33 => ?_) (fun c_33 => ?_)
          · have g_34 : RG x_31 0 47 := RG_lt1 g_32 (RG_k 48 48 rfl) c_33 (by decide +kernel)
            refine lv_iload_n hx hb dX9_number_92 rfl (lv_at hl 1 rfl) ?_
            have hK9 := hK.sub (tys' := []) [] rfl
            exact W.iret (v := x_21) hx hb hr (fun t ht hW => ⟨⟨x_21, x_23, rfl, (Or.inr ⟨(RG_w g_22 (by decide +kernel)), (RG_w g_28 (by decide +kernel)), (RG_w g_30 (by decide +kernel)), (RG_w g_29 (by decide +kernel)), (by have := q_25; show h0_f2.toInt + 1 ≤ x_23.toInt; omega)⟩), by rw [ht]; exact hP, va_K.moved hW.alike hK9, hD⟩, hS.F ht⟩) hS.2.2 dX9_number_93
          · have d_35 := Int32.not_lt.mp c_33
            have g_36 : RG x_31 48 255 := RG_le2 (RG_k 48 48 rfl) g_32 d_35 (by decide +kernel)
            refine lv_aload_n hx hb dX9_number_29 rfl (lv_at hl 2 rfl) ?_
            as_aux_lemma =>
            refine va_get (D := (dC, dI)) (ci := 9) (v := .ref h0_0) (C := RX9) (T := TX9) (N := 4) hx hb hts iw_c_X9_number_1_X9 hown hK hP 0 rfl rfl 0 (by decide +kernel) (hts (.fieldLink RX9 11 "BuoyVote$Tape" "bytes" "[I") (List.mem_of_getElem? (i := 3) rfl)) (fun _ h9 => h9) rfl dX9_number_30 ?_
            refine lv_aload_n hx hb dX9_number_33 rfl (lv_at hl 2 rfl) ?_
            refine va_get (D := (dC, dI)) (ci := 9) (v := .int x_23) (C := RX9) (T := TX9) (N := 4) hx hb hts iw_c_X9_number_1_X9 hown hK hP 0 rfl rfl 2 (by decide +kernel) (hts (.fieldLink RX9 22 "BuoyVote$Tape" "at" "I") (List.mem_of_getElem? (i := 1) rfl)) (fun _ h9 => h9) rfl dX9_number_34 ?_
            refine va_iald hx hb hK hP 1 0 rfl rfl (RG_in g_28 (by decide +kernel)) dX9_number_37 ?_
            refine lv_topi (fun x_37 ex_37 => ?_)
            obtain rfl : x_31 = x_37 := (ex_37.trans ex_31.symm).symm
            refine lv_bipush (v := 57) hx hb dX9_number_38 kc_bipush_57 ?_
            refine lv_icmp_gt (tgt := 92) hx hb dX9_number_40 rfl (fun c_38 => ?_) (fun c_38 => ?_)
            · have g_39 : RG x_31 58 255 := RG_lt2 (RG_k 57 57 rfl) g_36 c_38 (by decide +kernel)
              refine lv_iload_n hx hb dX9_number_92 rfl (lv_at hl 1 rfl) ?_
              have hK9 := hK.sub (tys' := []) [] rfl
              exact W.iret (v := x_21) hx hb hr (fun t ht hW => ⟨⟨x_21, x_23, rfl, (Or.inr ⟨(RG_w g_22 (by decide +kernel)), (RG_w g_28 (by decide +kernel)), (RG_w g_30 (by decide +kernel)), (RG_w g_29 (by decide +kernel)), (by have := q_25; show h0_f2.toInt + 1 ≤ x_23.toInt; omega)⟩), by rw [ht]; exact hP, va_K.moved hW.alike hK9, hD⟩, hS.F ht⟩) hS.2.2 dX9_number_93
            · have d_40 := Int32.not_lt.mp c_38
              have g_41 : RG x_31 48 57 := RG_le1 g_36 (RG_k 57 57 rfl) d_40 (by decide +kernel)
              refine lv_iload_n hx hb dX9_number_43 rfl (lv_at hl 0 rfl) ?_
              as_aux_lemma =>
              refine lv_iload_n hx hb dX9_number_44 rfl (lv_at hl 3 rfl) ?_
              refine lv_icmp_lt (tgt := 50) hx hb dX9_number_45 rfl (fun c_42 => ?_) (fun c_42 => absurd c_42 (by decide +kernel))
              refine lv_iload_n hx hb dX9_number_50 rfl (lv_at hl 0 rfl) ?_
              refine lv_if_ne (tgt := 58) hx hb dX9_number_51 rfl (fun c_43 => ?_) (fun c_43 => absurd c_43 (by decide +kernel))
              refine lv_iload_n hx hb dX9_number_58 rfl (lv_at hl 1 rfl) ?_
              refine lv_bipush (v := 10) hx hb dX9_number_59 kc_bipush_10 ?_
              refine lv_imul hx hb dX9_number_61 ?_
              refine lv_topi (fun x_44 ex_44 => ?_)
              have g_45 : RG x_44 0 90 := RG_mulc ex_44 (q := 10) rfl g_22 (by decide +kernel)
              refine lv_aload_n hx hb dX9_number_62 rfl (lv_at hl 2 rfl) ?_
              refine va_get (D := (dC, dI)) (ci := 9) (v := .ref h0_0) (C := RX9) (T := TX9) (N := 4) hx hb hts iw_c_X9_number_1_X9 hown hK hP 0 rfl rfl 0 (by decide +kernel) (hts (.fieldLink RX9 11 "BuoyVote$Tape" "bytes" "[I") (List.mem_of_getElem? (i := 3) rfl)) (fun _ h9 => h9) rfl dX9_number_63 ?_
              refine lv_aload_n hx hb dX9_number_66 rfl (lv_at hl 2 rfl) ?_
              refine va_get (D := (dC, dI)) (ci := 9) (v := .int x_23) (C := RX9) (T := TX9) (N := 4) hx hb hts iw_c_X9_number_1_X9 hown hK hP 0 rfl rfl 2 (by decide +kernel) (hts (.fieldLink RX9 22 "BuoyVote$Tape" "at" "I") (List.mem_of_getElem? (i := 1) rfl)) (fun _ h9 => h9) rfl dX9_number_67 ?_
              refine va_iald hx hb hK hP 1 0 rfl rfl (RG_in g_28 (by decide +kernel)) dX9_number_70 ?_
              as_aux_lemma =>
              refine lv_topi (fun x_46 ex_46 => ?_)
              obtain rfl : x_31 = x_46 := (ex_46.trans ex_31.symm).symm
              refine lv_iadd hx hb dX9_number_71 ?_
              refine lv_topi (fun x_47 ex_47 => ?_)
              have g_48 : RG x_47 48 147 := RG_add ex_47 g_45 g_41 (by decide +kernel)
              refine lv_bipush (v := 48) hx hb dX9_number_72 kc_bipush_48 ?_
              refine lv_isub hx hb dX9_number_74 ?_
              refine lv_topi (fun x_49 ex_49 => ?_)
              have g_50 : RG x_49 0 99 := RG_sub ex_49 g_48 (RG_k 48 48 rfl) (by decide +kernel)
              refine lv_istore_n (lv' := [(2, .int x_49), (3, .int 1), (0, .ref h0), (1, .int 4)]) hx hb dX9_number_75 rfl hl (Nat.le_of_ble_eq_true rfl) rfl (fun ls hl => ?_)
              refine lv_aload_n hx hb dX9_number_76 rfl (lv_at hl 2 rfl) ?_
              refine lv_dup hx hb dX9_number_77 rfl ?_
              refine va_get (D := (dC, dI)) (ci := 9) (v := .int x_23) (C := RX9) (T := TX9) (N := 4) hx hb hts iw_c_X9_number_1_X9 hown hK hP 0 rfl rfl 2 (by decide +kernel) (hts (.fieldLink RX9 22 "BuoyVote$Tape" "at" "I") (List.mem_of_getElem? (i := 1) rfl)) (fun _ h9 => h9) rfl dX9_number_78 ?_
              refine lv_iconst (v := 1) hx hb dX9_number_81 kc_iconst_1 ?_
              as_aux_lemma =>
              refine lv_iadd hx hb dX9_number_82 ?_
              refine lv_topi (fun x_51 ex_51 => ?_)
              have g_52 : RG x_51 2 240 := RG_add ex_51 g_28 (RG_k 1 1 rfl) (by decide +kernel)
              have q_53 : x_51.toInt = x_23.toInt + 1 := eq_add ex_51 g_28 (q := 1) rfl (by decide +kernel)
              refine va_put (D := (dC, dI)) (ci := 9) (v := .int x_51) (ty := .int) (C := RX9) (T := TX9) (N := 4) hx hb hts iw_c_X9_number_1_X9 tyX9 tyX9_ok nmX9 hown hK hP hD hS 0 rfl rfl 2 (by decide +kernel) (hts (.fieldLink RX9 22 "BuoyVote$Tape" "at" "I") (List.mem_of_getElem? (i := 1) rfl)) (fun _ h9 => h9) rfl (by decide +kernel) rfl rfl (Nat.le_of_ble_eq_true rfl) dX9_number_83 (fun H locs hP hD hS => ?_)
              have hP : va_P (dC, dI) vwCl (wd_c_X9_number_1 h0 h0_0 h0_f1 x_51 h0_f3 h0_0 h0_0k h0_0c) H := hP
              have hD : va_D A (wd_c_X9_number_1 h0 h0_0 h0_f1 x_51 h0_f3 h0_0 h0_0k h0_0c) := hD
              refine lv_iinc (v := 2) (lv' := [(3, .int 2), (2, .int x_49), (0, .ref h0), (1, .int 4)]) hx hb dX9_number_86 hl (k := 1) rfl (by decide +kernel) (Nat.le_of_ble_eq_true rfl) rfl (fun ls hl => ?_)
              refine lv_goto (tgt := 4) hx hb dX9_number_89 rfl ?_
              refine lv_aload_n hx hb dX9_number_4 rfl (lv_at hl 2 rfl) ?_
              refine va_get (D := (dC, dI)) (ci := 9) (v := .int x_51) (C := RX9) (T := TX9) (N := 4) hx hb hts iw_c_X9_number_1_X9 hown hK hP 0 rfl rfl 2 (by decide +kernel) (hts (.fieldLink RX9 22 "BuoyVote$Tape" "at" "I") (List.mem_of_getElem? (i := 1) rfl)) (fun _ h9 => h9) rfl dX9_number_5 ?_
              refine lv_aload_n hx hb dX9_number_8 rfl (lv_at hl 2 rfl) ?_
              refine va_get (D := (dC, dI)) (ci := 9) (v := .int h0_f1) (C := RX9) (T := TX9) (N := 4) hx hb hts iw_c_X9_number_1_X9 hown hK hP 0 rfl rfl 1 (by decide +kernel) (hts (.fieldLink RX9 19 "BuoyVote$Tape" "length" "I") (List.mem_of_getElem? (i := 2) rfl)) (fun _ h9 => h9) rfl dX9_number_9 ?_
              refine lv_icmp_ge (tgt := 92) hx hb dX9_number_12 rfl (fun c_54 => ?_) (fun c_54 => ?_)
              · refine lv_iload_n hx hb dX9_number_92 rfl (lv_at hl 1 rfl) ?_
                have hK9 := hK.sub (tys' := []) [] rfl
                exact W.iret (v := x_49) hx hb hr (fun t ht hW => ⟨⟨x_49, x_51, rfl, (Or.inr ⟨(RG_w g_50 (by decide +kernel)), (RG_w g_52 (by decide +kernel)), (RG_w g_30 (by decide +kernel)), (RG_w g_29 (by decide +kernel)), (by have := q_25; have := q_53; show h0_f2.toInt + 1 ≤ x_51.toInt; omega)⟩), by rw [ht]; exact hP, va_K.moved hW.alike hK9, hD⟩, hS.F ht⟩) hS.2.2 dX9_number_93
              · have d_55 := Int32.not_le.mp c_54
                have g_56 : RG x_51 2 239 := RG_lt1 g_52 g_30 d_55 (by decide +kernel)
                have g_57 : RG x_23 1 238 := RG_addb ex_51 (q := 1) rfl g_28 g_56 (by decide +kernel)
                have g_58 : RG h0_f2 0 237 := RG_addb ex_23 (q := 1) rfl g_29 g_57 (by decide +kernel)
                have g_59 : RG h0_f1 3 240 := RG_lt2 g_52 g_30 d_55 (by decide +kernel)
                refine lv_aload_n hx hb dX9_number_15 rfl (lv_at hl 2 rfl) ?_
                as_aux_lemma =>
                refine va_get (D := (dC, dI)) (ci := 9) (v := .ref h0_0) (C := RX9) (T := TX9) (N := 4) hx hb hts iw_c_X9_number_1_X9 hown hK hP 0 rfl rfl 0 (by decide +kernel) (hts (.fieldLink RX9 11 "BuoyVote$Tape" "bytes" "[I") (List.mem_of_getElem? (i := 3) rfl)) (fun _ h9 => h9) rfl dX9_number_16 ?_
                refine lv_aload_n hx hb dX9_number_19 rfl (lv_at hl 2 rfl) ?_
                refine va_get (D := (dC, dI)) (ci := 9) (v := .int x_51) (C := RX9) (T := TX9) (N := 4) hx hb hts iw_c_X9_number_1_X9 hown hK hP 0 rfl rfl 2 (by decide +kernel) (hts (.fieldLink RX9 22 "BuoyVote$Tape" "at" "I") (List.mem_of_getElem? (i := 1) rfl)) (fun _ h9 => h9) rfl dX9_number_20 ?_
                refine va_iald hx hb hK hP 1 0 rfl rfl (RG_in g_56 (by decide +kernel)) dX9_number_23 ?_
                refine lv_topi (fun x_60 ex_60 => ?_)
                have g_61 : RG x_60 0 255 := AI_rd a_h0_0c ex_60
                refine lv_bipush (v := 48) hx hb dX9_number_24 kc_bipush_48 ?_
                refine lv_icmp_lt (tgt := 92) hx hb dX9_number_26 rfl (fun c_62 => ?_) (fun c_62 => ?_)
                · have g_63 : RG x_60 0 47 := RG_lt1 g_61 (RG_k 48 48 rfl) c_62 (by decide +kernel)
                  refine lv_iload_n hx hb dX9_number_92 rfl (lv_at hl 1 rfl) ?_
                  have hK9 := hK.sub (tys' := []) [] rfl
                  exact W.iret (v := x_49) hx hb hr (fun t ht hW => ⟨⟨x_49, x_51, rfl, (Or.inr ⟨(RG_w g_50 (by decide +kernel)), (RG_w g_56 (by decide +kernel)), (RG_w g_59 (by decide +kernel)), (RG_w g_58 (by decide +kernel)), (by have := q_25; have := q_53; show h0_f2.toInt + 1 ≤ x_51.toInt; omega)⟩), by rw [ht]; exact hP, va_K.moved hW.alike hK9, hD⟩, hS.F ht⟩) hS.2.2 dX9_number_93
                · have d_64 := Int32.not_lt.mp c_62
                  have g_65 : RG x_60 48 255 := RG_le2 (RG_k 48 48 rfl) g_61 d_64 (by decide +kernel)
                  refine lv_aload_n hx hb dX9_number_29 rfl (lv_at hl 2 rfl) ?_
                  as_aux_lemma =>
                  refine va_get (D := (dC, dI)) (ci := 9) (v := .ref h0_0) (C := RX9) (T := TX9) (N := 4) hx hb hts iw_c_X9_number_1_X9 hown hK hP 0 rfl rfl 0 (by decide +kernel) (hts (.fieldLink RX9 11 "BuoyVote$Tape" "bytes" "[I") (List.mem_of_getElem? (i := 3) rfl)) (fun _ h9 => h9) rfl dX9_number_30 ?_
                  refine lv_aload_n hx hb dX9_number_33 rfl (lv_at hl 2 rfl) ?_
                  refine va_get (D := (dC, dI)) (ci := 9) (v := .int x_51) (C := RX9) (T := TX9) (N := 4) hx hb hts iw_c_X9_number_1_X9 hown hK hP 0 rfl rfl 2 (by decide +kernel) (hts (.fieldLink RX9 22 "BuoyVote$Tape" "at" "I") (List.mem_of_getElem? (i := 1) rfl)) (fun _ h9 => h9) rfl dX9_number_34 ?_
                  refine va_iald hx hb hK hP 1 0 rfl rfl (RG_in g_56 (by decide +kernel)) dX9_number_37 ?_
                  refine lv_topi (fun x_66 ex_66 => ?_)
                  obtain rfl : x_60 = x_66 := (ex_66.trans ex_60.symm).symm
                  refine lv_bipush (v := 57) hx hb dX9_number_38 kc_bipush_57 ?_
                  refine lv_icmp_gt (tgt := 92) hx hb dX9_number_40 rfl (fun c_67 => ?_) (fun c_67 => ?_)
                  · have g_68 : RG x_60 58 255 := RG_lt2 (RG_k 57 57 rfl) g_65 c_67 (by decide +kernel)
                    refine lv_iload_n hx hb dX9_number_92 rfl (lv_at hl 1 rfl) ?_
                    have hK9 := hK.sub (tys' := []) [] rfl
                    exact W.iret (v := x_49) hx hb hr (fun t ht hW => ⟨⟨x_49, x_51, rfl, (Or.inr ⟨(RG_w g_50 (by decide +kernel)), (RG_w g_56 (by decide +kernel)), (RG_w g_59 (by decide +kernel)), (RG_w g_58 (by decide +kernel)), (by have := q_25; have := q_53; show h0_f2.toInt + 1 ≤ x_51.toInt; omega)⟩), by rw [ht]; exact hP, va_K.moved hW.alike hK9, hD⟩, hS.F ht⟩) hS.2.2 dX9_number_93
                  · have d_69 := Int32.not_lt.mp c_67
                    have g_70 : RG x_60 48 57 := RG_le1 g_65 (RG_k 57 57 rfl) d_69 (by decide +kernel)
                    refine lv_iload_n hx hb dX9_number_43 rfl (lv_at hl 0 rfl) ?_
                    as_aux_lemma =>
                    refine lv_iload_n hx hb dX9_number_44 rfl (lv_at hl 3 rfl) ?_
                    refine lv_icmp_lt (tgt := 50) hx hb dX9_number_45 rfl (fun c_71 => ?_) (fun c_71 => absurd c_71 (by decide +kernel))
                    refine lv_iload_n hx hb dX9_number_50 rfl (lv_at hl 0 rfl) ?_
                    refine lv_if_ne (tgt := 58) hx hb dX9_number_51 rfl (fun c_72 => ?_) (fun c_72 => absurd c_72 (by decide +kernel))
                    refine lv_iload_n hx hb dX9_number_58 rfl (lv_at hl 1 rfl) ?_
                    refine lv_bipush (v := 10) hx hb dX9_number_59 kc_bipush_10 ?_
                    refine lv_imul hx hb dX9_number_61 ?_
                    refine lv_topi (fun x_73 ex_73 => ?_)
                    have g_74 : RG x_73 0 990 := RG_mulc ex_73 (q := 10) rfl g_50 (by decide +kernel)
                    refine lv_aload_n hx hb dX9_number_62 rfl (lv_at hl 2 rfl) ?_
                    refine va_get (D := (dC, dI)) (ci := 9) (v := .ref h0_0) (C := RX9) (T := TX9) (N := 4) hx hb hts iw_c_X9_number_1_X9 hown hK hP 0 rfl rfl 0 (by decide +kernel) (hts (.fieldLink RX9 11 "BuoyVote$Tape" "bytes" "[I") (List.mem_of_getElem? (i := 3) rfl)) (fun _ h9 => h9) rfl dX9_number_63 ?_
                    refine lv_aload_n hx hb dX9_number_66 rfl (lv_at hl 2 rfl) ?_
                    refine va_get (D := (dC, dI)) (ci := 9) (v := .int x_51) (C := RX9) (T := TX9) (N := 4) hx hb hts iw_c_X9_number_1_X9 hown hK hP 0 rfl rfl 2 (by decide +kernel) (hts (.fieldLink RX9 22 "BuoyVote$Tape" "at" "I") (List.mem_of_getElem? (i := 1) rfl)) (fun _ h9 => h9) rfl dX9_number_67 ?_
                    refine va_iald hx hb hK hP 1 0 rfl rfl (RG_in g_56 (by decide +kernel)) dX9_number_70 ?_
                    as_aux_lemma =>
                    refine lv_topi (fun x_75 ex_75 => ?_)
                    obtain rfl : x_60 = x_75 := (ex_75.trans ex_60.symm).symm
                    refine lv_iadd hx hb dX9_number_71 ?_
                    refine lv_topi (fun x_76 ex_76 => ?_)
                    have g_77 : RG x_76 48 1047 := RG_add ex_76 g_74 g_70 (by decide +kernel)
                    refine lv_bipush (v := 48) hx hb dX9_number_72 kc_bipush_48 ?_
                    refine lv_isub hx hb dX9_number_74 ?_
                    refine lv_topi (fun x_78 ex_78 => ?_)
                    have g_79 : RG x_78 0 999 := RG_sub ex_78 g_77 (RG_k 48 48 rfl) (by decide +kernel)
                    refine lv_istore_n (lv' := [(2, .int x_78), (3, .int 2), (0, .ref h0), (1, .int 4)]) hx hb dX9_number_75 rfl hl (Nat.le_of_ble_eq_true rfl) rfl (fun ls hl => ?_)
                    refine lv_aload_n hx hb dX9_number_76 rfl (lv_at hl 2 rfl) ?_
                    refine lv_dup hx hb dX9_number_77 rfl ?_
                    refine va_get (D := (dC, dI)) (ci := 9) (v := .int x_51) (C := RX9) (T := TX9) (N := 4) hx hb hts iw_c_X9_number_1_X9 hown hK hP 0 rfl rfl 2 (by decide +kernel) (hts (.fieldLink RX9 22 "BuoyVote$Tape" "at" "I") (List.mem_of_getElem? (i := 1) rfl)) (fun _ h9 => h9) rfl dX9_number_78 ?_
                    refine lv_iconst (v := 1) hx hb dX9_number_81 kc_iconst_1 ?_
                    as_aux_lemma =>
                    refine lv_iadd hx hb dX9_number_82 ?_
                    refine lv_topi (fun x_80 ex_80 => ?_)
                    have g_81 : RG x_80 3 240 := RG_add ex_80 g_56 (RG_k 1 1 rfl) (by decide +kernel)
                    have q_82 : x_80.toInt = x_51.toInt + 1 := eq_add ex_80 g_56 (q := 1) rfl (by decide +kernel)
                    refine va_put (D := (dC, dI)) (ci := 9) (v := .int x_80) (ty := .int) (C := RX9) (T := TX9) (N := 4) hx hb hts iw_c_X9_number_1_X9 tyX9 tyX9_ok nmX9 hown hK hP hD hS 0 rfl rfl 2 (by decide +kernel) (hts (.fieldLink RX9 22 "BuoyVote$Tape" "at" "I") (List.mem_of_getElem? (i := 1) rfl)) (fun _ h9 => h9) rfl (by decide +kernel) rfl rfl (Nat.le_of_ble_eq_true rfl) dX9_number_83 (fun H locs hP hD hS => ?_)
                    have hP : va_P (dC, dI) vwCl (wd_c_X9_number_1 h0 h0_0 h0_f1 x_80 h0_f3 h0_0 h0_0k h0_0c) H := hP
                    have hD : va_D A (wd_c_X9_number_1 h0 h0_0 h0_f1 x_80 h0_f3 h0_0 h0_0k h0_0c) := hD
                    refine lv_iinc (v := 3) (lv' := [(3, .int 3), (2, .int x_78), (0, .ref h0), (1, .int 4)]) hx hb dX9_number_86 hl (k := 1) rfl (by decide +kernel) (Nat.le_of_ble_eq_true rfl) rfl (fun ls hl => ?_)
                    refine lv_goto (tgt := 4) hx hb dX9_number_89 rfl ?_
                    refine lv_aload_n hx hb dX9_number_4 rfl (lv_at hl 2 rfl) ?_
                    refine va_get (D := (dC, dI)) (ci := 9) (v := .int x_80) (C := RX9) (T := TX9) (N := 4) hx hb hts iw_c_X9_number_1_X9 hown hK hP 0 rfl rfl 2 (by decide +kernel) (hts (.fieldLink RX9 22 "BuoyVote$Tape" "at" "I") (List.mem_of_getElem? (i := 1) rfl)) (fun _ h9 => h9) rfl dX9_number_5 ?_
                    refine lv_aload_n hx hb dX9_number_8 rfl (lv_at hl 2 rfl) ?_
                    refine va_get (D := (dC, dI)) (ci := 9) (v := .int h0_f1) (C := RX9) (T := TX9) (N := 4) hx hb hts iw_c_X9_number_1_X9 hown hK hP 0 rfl rfl 1 (by decide +kernel) (hts (.fieldLink RX9 19 "BuoyVote$Tape" "length" "I") (List.mem_of_getElem? (i := 2) rfl)) (fun _ h9 => h9) rfl dX9_number_9 ?_
                    refine lv_icmp_ge (tgt := 92) hx hb dX9_number_12 rfl (fun c_83 => ?_) (fun c_83 => ?_)
                    · refine lv_iload_n hx hb dX9_number_92 rfl (lv_at hl 1 rfl) ?_
                      have hK9 := hK.sub (tys' := []) [] rfl
                      exact W.iret (v := x_78) hx hb hr (fun t ht hW => ⟨⟨x_78, x_80, rfl, (Or.inr ⟨(RG_w g_79 (by decide +kernel)), (RG_w g_81 (by decide +kernel)), (RG_w g_59 (by decide +kernel)), (RG_w g_58 (by decide +kernel)), (by have := q_25; have := q_53; have := q_82; show h0_f2.toInt + 1 ≤ x_80.toInt; omega)⟩), by rw [ht]; exact hP, va_K.moved hW.alike hK9, hD⟩, hS.F ht⟩) hS.2.2 dX9_number_93
                    · have d_84 := Int32.not_le.mp c_83
                      have g_85 : RG x_80 3 239 := RG_lt1 g_81 g_59 d_84 (by decide +kernel)
                      have g_86 : RG x_51 2 238 := RG_addb ex_80 (q := 1) rfl g_56 g_85 (by decide +kernel)
                      have g_87 : RG x_23 1 237 := RG_addb ex_51 (q := 1) rfl g_57 g_86 (by decide +kernel)
                      have g_88 : RG h0_f2 0 236 := RG_addb ex_23 (q := 1) rfl g_58 g_87 (by decide +kernel)
                      have g_89 : RG h0_f1 4 240 := RG_lt2 g_81 g_59 d_84 (by decide +kernel)
                      refine lv_aload_n hx hb dX9_number_15 rfl (lv_at hl 2 rfl) ?_
                      as_aux_lemma =>
                      refine va_get (D := (dC, dI)) (ci := 9) (v := .ref h0_0) (C := RX9) (T := TX9) (N := 4) hx hb hts iw_c_X9_number_1_X9 hown hK hP 0 rfl rfl 0 (by decide +kernel) (hts (.fieldLink RX9 11 "BuoyVote$Tape" "bytes" "[I") (List.mem_of_getElem? (i := 3) rfl)) (fun _ h9 => h9) rfl dX9_number_16 ?_
                      refine lv_aload_n hx hb dX9_number_19 rfl (lv_at hl 2 rfl) ?_
                      refine va_get (D := (dC, dI)) (ci := 9) (v := .int x_80) (C := RX9) (T := TX9) (N := 4) hx hb hts iw_c_X9_number_1_X9 hown hK hP 0 rfl rfl 2 (by decide +kernel) (hts (.fieldLink RX9 22 "BuoyVote$Tape" "at" "I") (List.mem_of_getElem? (i := 1) rfl)) (fun _ h9 => h9) rfl dX9_number_20 ?_
                      refine va_iald hx hb hK hP 1 0 rfl rfl (RG_in g_85 (by decide +kernel)) dX9_number_23 ?_
                      refine lv_topi (fun x_90 ex_90 => ?_)
                      have g_91 : RG x_90 0 255 := AI_rd a_h0_0c ex_90
                      refine lv_bipush (v := 48) hx hb dX9_number_24 kc_bipush_48 ?_
                      refine lv_icmp_lt (tgt := 92) hx hb dX9_number_26 rfl (fun c_92 => ?_) (fun c_92 => ?_)
                      · have g_93 : RG x_90 0 47 := RG_lt1 g_91 (RG_k 48 48 rfl) c_92 (by decide +kernel)
                        refine lv_iload_n hx hb dX9_number_92 rfl (lv_at hl 1 rfl) ?_
                        have hK9 := hK.sub (tys' := []) [] rfl
                        exact W.iret (v := x_78) hx hb hr (fun t ht hW => ⟨⟨x_78, x_80, rfl, (Or.inr ⟨(RG_w g_79 (by decide +kernel)), (RG_w g_85 (by decide +kernel)), (RG_w g_89 (by decide +kernel)), (RG_w g_88 (by decide +kernel)), (by have := q_25; have := q_53; have := q_82; show h0_f2.toInt + 1 ≤ x_80.toInt; omega)⟩), by rw [ht]; exact hP, va_K.moved hW.alike hK9, hD⟩, hS.F ht⟩) hS.2.2 dX9_number_93
                      · have d_94 := Int32.not_lt.mp c_92
                        have g_95 : RG x_90 48 255 := RG_le2 (RG_k 48 48 rfl) g_91 d_94 (by decide +kernel)
                        refine lv_aload_n hx hb dX9_number_29 rfl (lv_at hl 2 rfl) ?_
                        as_aux_lemma =>
                        refine va_get (D := (dC, dI)) (ci := 9) (v := .ref h0_0) (C := RX9) (T := TX9) (N := 4) hx hb hts iw_c_X9_number_1_X9 hown hK hP 0 rfl rfl 0 (by decide +kernel) (hts (.fieldLink RX9 11 "BuoyVote$Tape" "bytes" "[I") (List.mem_of_getElem? (i := 3) rfl)) (fun _ h9 => h9) rfl dX9_number_30 ?_
                        refine lv_aload_n hx hb dX9_number_33 rfl (lv_at hl 2 rfl) ?_
                        refine va_get (D := (dC, dI)) (ci := 9) (v := .int x_80) (C := RX9) (T := TX9) (N := 4) hx hb hts iw_c_X9_number_1_X9 hown hK hP 0 rfl rfl 2 (by decide +kernel) (hts (.fieldLink RX9 22 "BuoyVote$Tape" "at" "I") (List.mem_of_getElem? (i := 1) rfl)) (fun _ h9 => h9) rfl dX9_number_34 ?_
                        refine va_iald hx hb hK hP 1 0 rfl rfl (RG_in g_85 (by decide +kernel)) dX9_number_37 ?_
                        refine lv_topi (fun x_96 ex_96 => ?_)
                        obtain rfl : x_90 = x_96 := (ex_96.trans ex_90.symm).symm
                        refine lv_bipush (v := 57) hx hb dX9_number_38 kc_bipush_57 ?_
                        refine lv_icmp_gt (tgt := 92) hx hb dX9_number_40 rfl (fun c_97 => ?_) (fun c_97 => ?_)
                        · have g_98 : RG x_90 58 255 := RG_lt2 (RG_k 57 57 rfl) g_95 c_97 (by decide +kernel)
                          refine lv_iload_n hx hb dX9_number_92 rfl (lv_at hl 1 rfl) ?_
                          have hK9 := hK.sub (tys' := []) [] rfl
                          exact W.iret (v := x_78) hx hb hr (fun t ht hW => ⟨⟨x_78, x_80, rfl, (Or.inr ⟨(RG_w g_79 (by decide +kernel)), (RG_w g_85 (by decide +kernel)), (RG_w g_89 (by decide +kernel)), (RG_w g_88 (by decide +kernel)), (by have := q_25; have := q_53; have := q_82; show h0_f2.toInt + 1 ≤ x_80.toInt; omega)⟩), by rw [ht]; exact hP, va_K.moved hW.alike hK9, hD⟩, hS.F ht⟩) hS.2.2 dX9_number_93
                        · have d_99 := Int32.not_lt.mp c_97
                          have g_100 : RG x_90 48 57 := RG_le1 g_95 (RG_k 57 57 rfl) d_99 (by decide +kernel)
                          refine lv_iload_n hx hb dX9_number_43 rfl (lv_at hl 0 rfl) ?_
                          as_aux_lemma =>
                          refine lv_iload_n hx hb dX9_number_44 rfl (lv_at hl 3 rfl) ?_
                          refine lv_icmp_lt (tgt := 50) hx hb dX9_number_45 rfl (fun c_101 => ?_) (fun c_101 => absurd c_101 (by decide +kernel))
                          refine lv_iload_n hx hb dX9_number_50 rfl (lv_at hl 0 rfl) ?_
                          refine lv_if_ne (tgt := 58) hx hb dX9_number_51 rfl (fun c_102 => ?_) (fun c_102 => absurd c_102 (by decide +kernel))
                          refine lv_iload_n hx hb dX9_number_58 rfl (lv_at hl 1 rfl) ?_
                          refine lv_bipush (v := 10) hx hb dX9_number_59 kc_bipush_10 ?_
                          refine lv_imul hx hb dX9_number_61 ?_
                          refine lv_topi (fun x_103 ex_103 => ?_)
                          have g_104 : RG x_103 0 9990 := RG_mulc ex_103 (q := 10) rfl g_79 (by decide +kernel)
                          refine lv_aload_n hx hb dX9_number_62 rfl (lv_at hl 2 rfl) ?_
                          refine va_get (D := (dC, dI)) (ci := 9) (v := .ref h0_0) (C := RX9) (T := TX9) (N := 4) hx hb hts iw_c_X9_number_1_X9 hown hK hP 0 rfl rfl 0 (by decide +kernel) (hts (.fieldLink RX9 11 "BuoyVote$Tape" "bytes" "[I") (List.mem_of_getElem? (i := 3) rfl)) (fun _ h9 => h9) rfl dX9_number_63 ?_
                          refine lv_aload_n hx hb dX9_number_66 rfl (lv_at hl 2 rfl) ?_
                          refine va_get (D := (dC, dI)) (ci := 9) (v := .int x_80) (C := RX9) (T := TX9) (N := 4) hx hb hts iw_c_X9_number_1_X9 hown hK hP 0 rfl rfl 2 (by decide +kernel) (hts (.fieldLink RX9 22 "BuoyVote$Tape" "at" "I") (List.mem_of_getElem? (i := 1) rfl)) (fun _ h9 => h9) rfl dX9_number_67 ?_
                          refine va_iald hx hb hK hP 1 0 rfl rfl (RG_in g_85 (by decide +kernel)) dX9_number_70 ?_
                          as_aux_lemma =>
                          refine lv_topi (fun x_105 ex_105 => ?_)
                          obtain rfl : x_90 = x_105 := (ex_105.trans ex_90.symm).symm
                          refine lv_iadd hx hb dX9_number_71 ?_
                          refine lv_topi (fun x_106 ex_106 => ?_)
                          have g_107 : RG x_106 48 10047 := RG_add ex_106 g_104 g_100 (by decide +kernel)
                          refine lv_bipush (v := 48) hx hb dX9_number_72 kc_bipush_48 ?_
                          refine lv_isub hx hb dX9_number_74 ?_
                          refine lv_topi (fun x_108 ex_108 => ?_)
                          have g_109 : RG x_108 0 9999 := RG_sub ex_108 g_107 (RG_k 48 48 rfl) (by decide +kernel)
                          refine lv_istore_n (lv' := [(2, .int x_108), (3, .int 3), (0, .ref h0), (1, .int 4)]) hx hb dX9_number_75 rfl hl (Nat.le_of_ble_eq_true rfl) rfl (fun ls hl => ?_)
                          refine lv_aload_n hx hb dX9_number_76 rfl (lv_at hl 2 rfl) ?_
                          refine lv_dup hx hb dX9_number_77 rfl ?_
                          refine va_get (D := (dC, dI)) (ci := 9) (v := .int x_80) (C := RX9) (T := TX9) (N := 4) hx hb hts iw_c_X9_number_1_X9 hown hK hP 0 rfl rfl 2 (by decide +kernel) (hts (.fieldLink RX9 22 "BuoyVote$Tape" "at" "I") (List.mem_of_getElem? (i := 1) rfl)) (fun _ h9 => h9) rfl dX9_number_78 ?_
                          refine lv_iconst (v := 1) hx hb dX9_number_81 kc_iconst_1 ?_
                          as_aux_lemma =>
                          refine lv_iadd hx hb dX9_number_82 ?_
                          refine lv_topi (fun x_110 ex_110 => ?_)
                          have g_111 : RG x_110 4 240 := RG_add ex_110 g_85 (RG_k 1 1 rfl) (by decide +kernel)
                          have q_112 : x_110.toInt = x_80.toInt + 1 := eq_add ex_110 g_85 (q := 1) rfl (by decide +kernel)
                          refine va_put (D := (dC, dI)) (ci := 9) (v := .int x_110) (ty := .int) (C := RX9) (T := TX9) (N := 4) hx hb hts iw_c_X9_number_1_X9 tyX9 tyX9_ok nmX9 hown hK hP hD hS 0 rfl rfl 2 (by decide +kernel) (hts (.fieldLink RX9 22 "BuoyVote$Tape" "at" "I") (List.mem_of_getElem? (i := 1) rfl)) (fun _ h9 => h9) rfl (by decide +kernel) rfl rfl (Nat.le_of_ble_eq_true rfl) dX9_number_83 (fun H locs hP hD hS => ?_)
                          have hP : va_P (dC, dI) vwCl (wd_c_X9_number_1 h0 h0_0 h0_f1 x_110 h0_f3 h0_0 h0_0k h0_0c) H := hP
                          have hD : va_D A (wd_c_X9_number_1 h0 h0_0 h0_f1 x_110 h0_f3 h0_0 h0_0k h0_0c) := hD
                          refine lv_iinc (v := 4) (lv' := [(3, .int 4), (2, .int x_108), (0, .ref h0), (1, .int 4)]) hx hb dX9_number_86 hl (k := 1) rfl (by decide +kernel) (Nat.le_of_ble_eq_true rfl) rfl (fun ls hl => ?_)
                          refine lv_goto (tgt := 4) hx hb dX9_number_89 rfl ?_
                          refine lv_aload_n hx hb dX9_number_4 rfl (lv_at hl 2 rfl) ?_
                          refine va_get (D := (dC, dI)) (ci := 9) (v := .int x_110) (C := RX9) (T := TX9) (N := 4) hx hb hts iw_c_X9_number_1_X9 hown hK hP 0 rfl rfl 2 (by decide +kernel) (hts (.fieldLink RX9 22 "BuoyVote$Tape" "at" "I") (List.mem_of_getElem? (i := 1) rfl)) (fun _ h9 => h9) rfl dX9_number_5 ?_
                          refine lv_aload_n hx hb dX9_number_8 rfl (lv_at hl 2 rfl) ?_
                          refine va_get (D := (dC, dI)) (ci := 9) (v := .int h0_f1) (C := RX9) (T := TX9) (N := 4) hx hb hts iw_c_X9_number_1_X9 hown hK hP 0 rfl rfl 1 (by decide +kernel) (hts (.fieldLink RX9 19 "BuoyVote$Tape" "length" "I") (List.mem_of_getElem? (i := 2) rfl)) (fun _ h9 => h9) rfl dX9_number_9 ?_
                          refine lv_icmp_ge (tgt := 92) hx hb dX9_number_12 rfl (fun c_113 => ?_) (fun c_113 => ?_)
                          · refine lv_iload_n hx hb dX9_number_92 rfl (lv_at hl 1 rfl) ?_
                            have hK9 := hK.sub (tys' := []) [] rfl
                            exact W.iret (v := x_108) hx hb hr (fun t ht hW => ⟨⟨x_108, x_110, rfl, (Or.inr ⟨g_109, (RG_w g_111 (by decide +kernel)), (RG_w g_89 (by decide +kernel)), (RG_w g_88 (by decide +kernel)), (by have := q_25; have := q_53; have := q_82; have := q_112; show h0_f2.toInt + 1 ≤ x_110.toInt; omega)⟩), by rw [ht]; exact hP, va_K.moved hW.alike hK9, hD⟩, hS.F ht⟩) hS.2.2 dX9_number_93
                          · have d_114 := Int32.not_le.mp c_113
                            have g_115 : RG x_110 4 239 := RG_lt1 g_111 g_89 d_114 (by decide +kernel)
                            have g_116 : RG x_80 3 238 := RG_addb ex_110 (q := 1) rfl g_85 g_115 (by decide +kernel)
                            have g_117 : RG x_51 2 237 := RG_addb ex_80 (q := 1) rfl g_86 g_116 (by decide +kernel)
                            have g_118 : RG x_23 1 236 := RG_addb ex_51 (q := 1) rfl g_87 g_117 (by decide +kernel)
                            have g_119 : RG h0_f2 0 235 := RG_addb ex_23 (q := 1) rfl g_88 g_118 (by decide +kernel)
                            have g_120 : RG h0_f1 5 240 := RG_lt2 g_111 g_89 d_114 (by decide +kernel)
                            refine lv_aload_n hx hb dX9_number_15 rfl (lv_at hl 2 rfl) ?_
                            as_aux_lemma =>
                            refine va_get (D := (dC, dI)) (ci := 9) (v := .ref h0_0) (C := RX9) (T := TX9) (N := 4) hx hb hts iw_c_X9_number_1_X9 hown hK hP 0 rfl rfl 0 (by decide +kernel) (hts (.fieldLink RX9 11 "BuoyVote$Tape" "bytes" "[I") (List.mem_of_getElem? (i := 3) rfl)) (fun _ h9 => h9) rfl dX9_number_16 ?_
                            refine lv_aload_n hx hb dX9_number_19 rfl (lv_at hl 2 rfl) ?_
                            refine va_get (D := (dC, dI)) (ci := 9) (v := .int x_110) (C := RX9) (T := TX9) (N := 4) hx hb hts iw_c_X9_number_1_X9 hown hK hP 0 rfl rfl 2 (by decide +kernel) (hts (.fieldLink RX9 22 "BuoyVote$Tape" "at" "I") (List.mem_of_getElem? (i := 1) rfl)) (fun _ h9 => h9) rfl dX9_number_20 ?_
                            refine va_iald hx hb hK hP 1 0 rfl rfl (RG_in g_115 (by decide +kernel)) dX9_number_23 ?_
                            refine lv_topi (fun x_121 ex_121 => ?_)
                            have g_122 : RG x_121 0 255 := AI_rd a_h0_0c ex_121
                            refine lv_bipush (v := 48) hx hb dX9_number_24 kc_bipush_48 ?_
                            refine lv_icmp_lt (tgt := 92) hx hb dX9_number_26 rfl (fun c_123 => ?_) (fun c_123 => ?_)
                            · have g_124 : RG x_121 0 47 := RG_lt1 g_122 (RG_k 48 48 rfl) c_123 (by decide +kernel)
                              refine lv_iload_n hx hb dX9_number_92 rfl (lv_at hl 1 rfl) ?_
                              have hK9 := hK.sub (tys' := []) [] rfl
                              exact W.iret (v := x_108) hx hb hr (fun t ht hW => ⟨⟨x_108, x_110, rfl, (Or.inr ⟨g_109, (RG_w g_115 (by decide +kernel)), (RG_w g_120 (by decide +kernel)), (RG_w g_119 (by decide +kernel)), (by have := q_25; have := q_53; have := q_82; have := q_112; show h0_f2.toInt + 1 ≤ x_110.toInt; omega)⟩), by rw [ht]; exact hP, va_K.moved hW.alike hK9, hD⟩, hS.F ht⟩) hS.2.2 dX9_number_93
                            · have d_125 := Int32.not_lt.mp c_123
                              have g_126 : RG x_121 48 255 := RG_le2 (RG_k 48 48 rfl) g_122 d_125 (by decide +kernel)
                              refine lv_aload_n hx hb dX9_number_29 rfl (lv_at hl 2 rfl) ?_
                              as_aux_lemma =>
                              refine va_get (D := (dC, dI)) (ci := 9) (v := .ref h0_0) (C := RX9) (T := TX9) (N := 4) hx hb hts iw_c_X9_number_1_X9 hown hK hP 0 rfl rfl 0 (by decide +kernel) (hts (.fieldLink RX9 11 "BuoyVote$Tape" "bytes" "[I") (List.mem_of_getElem? (i := 3) rfl)) (fun _ h9 => h9) rfl dX9_number_30 ?_
                              refine lv_aload_n hx hb dX9_number_33 rfl (lv_at hl 2 rfl) ?_
                              refine va_get (D := (dC, dI)) (ci := 9) (v := .int x_110) (C := RX9) (T := TX9) (N := 4) hx hb hts iw_c_X9_number_1_X9 hown hK hP 0 rfl rfl 2 (by decide +kernel) (hts (.fieldLink RX9 22 "BuoyVote$Tape" "at" "I") (List.mem_of_getElem? (i := 1) rfl)) (fun _ h9 => h9) rfl dX9_number_34 ?_
                              refine va_iald hx hb hK hP 1 0 rfl rfl (RG_in g_115 (by decide +kernel)) dX9_number_37 ?_
                              refine lv_topi (fun x_127 ex_127 => ?_)
                              obtain rfl : x_121 = x_127 := (ex_127.trans ex_121.symm).symm
                              refine lv_bipush (v := 57) hx hb dX9_number_38 kc_bipush_57 ?_
                              refine lv_icmp_gt (tgt := 92) hx hb dX9_number_40 rfl (fun c_128 => ?_) (fun c_128 => ?_)
                              · have g_129 : RG x_121 58 255 := RG_lt2 (RG_k 57 57 rfl) g_126 c_128 (by decide +kernel)
                                refine lv_iload_n hx hb dX9_number_92 rfl (lv_at hl 1 rfl) ?_
                                have hK9 := hK.sub (tys' := []) [] rfl
                                exact W.iret (v := x_108) hx hb hr (fun t ht hW => ⟨⟨x_108, x_110, rfl, (Or.inr ⟨g_109, (RG_w g_115 (by decide +kernel)), (RG_w g_120 (by decide +kernel)), (RG_w g_119 (by decide +kernel)), (by have := q_25; have := q_53; have := q_82; have := q_112; show h0_f2.toInt + 1 ≤ x_110.toInt; omega)⟩), by rw [ht]; exact hP, va_K.moved hW.alike hK9, hD⟩, hS.F ht⟩) hS.2.2 dX9_number_93
                              · have d_130 := Int32.not_lt.mp c_128
                                have g_131 : RG x_121 48 57 := RG_le1 g_126 (RG_k 57 57 rfl) d_130 (by decide +kernel)
                                refine lv_iload_n hx hb dX9_number_43 rfl (lv_at hl 0 rfl) ?_
                                as_aux_lemma =>
                                refine lv_iload_n hx hb dX9_number_44 rfl (lv_at hl 3 rfl) ?_
                                refine lv_icmp_lt (tgt := 50) hx hb dX9_number_45 rfl (fun c_132 => absurd c_132 (by decide +kernel)) (fun c_132 => ?_)
                                refine lv_iconst (v := (-1)) hx hb dX9_number_48 kc_iconst_m1 ?_
                                have hK9 := hK.sub (tys' := []) [] rfl
                                exact W.iret (v := (-1)) hx hb hr (fun t ht hW => ⟨⟨(-1), x_110, rfl, (Or.inl ⟨rfl, (RG_w g_115 (by decide +kernel)), (by have := q_25; have := q_53; have := q_82; have := q_112; show h0_f2.toInt + 0 ≤ x_110.toInt; omega)⟩), by rw [ht]; exact hP, va_K.moved hW.alike hK9, hD⟩, hS.F ht⟩) hS.2.2 dX9_number_49
noncomputable def wd_c_X4_emit (a0 : Nat) (a1 : Nat) (a2 : Int32) (a3 : Nat) (a4 : Nat) (a5 : ClassId) (a6 : Nat → Int32) : va_W := [(a0, .inr (4, [.ref a1, .int a2, .ref a3])), (a4, .inl (a5, 240, .inl a6))]
noncomputable def wf_c_X4_emit : List Cond := List.cons (.code yX4_emit cX4_emit 2 none) (@HAppend.hAppend (List Cond) (List Cond) (List Cond) _ [.fieldLink RX4 20 "BuoyVote$Law" "length" "I", .fieldLink RX4 11 "BuoyVote$Law" "code" "[I"] wsX40)
theorem iw_c_X4_emit_X4 : ∀ w ∈ wsX40, w ∈ wf_c_X4_emit := fun w h => List.mem_cons_of_mem _ (List.mem_append_right _ h)
set_option maxHeartbeats 4000000 in
set_option maxRecDepth 100000 in
theorem c_X4_emit (l : Launch) (dC : Nat → ClassId) (dI : Nat → Nat → Nat) (sz : Nat) (h0 : Nat) (p1 : Int32) (h0_0 : Nat) (h0_f1 : Int32) (h0_2 : Nat) (h0_0k : ClassId) (h0_0c : Nat → Int32) (g_h0_f1 : RG h0_f1 0 240) : Met l yX4_emit wf_c_X4_emit ({ frames := 0, cells := 0, slots := 0, locals := 0 }) (va_Pc [.ref h0, .int p1] (fun U => U.heap.size = sz ∧ va_P (dC, dI) vwCl (wd_c_X4_emit h0 h0_0 h0_f1 h0_2 h0_0 h0_0k h0_0c) U.heap ∧ va_K (dC, dI) vwCl [(h0_0k, .int)] U ∧ va_D (fun _ => True) (wd_c_X4_emit h0 h0_0 h0_f1 h0_2 h0_0 h0_0k h0_0c))) (va_Qv (fun (u : (Int32) × (Nat → Int32)) => (RG u.1 1 240)) (fun (u : (Int32) × (Nat → Int32)) t => va_P (dC, dI) vwCl (wd_c_X4_emit h0 h0_0 (u.1) h0_2 h0_0 h0_0k (u.2)) t.heap ∧ va_K (dC, dI) vwCl [] t ∧ va_D (va_A (wd_c_X4_emit h0 h0_0 h0_f1 h0_2 h0_0 h0_0k h0_0c) sz) (wd_c_X4_emit h0 h0_0 (u.1) h0_2 h0_0 h0_0k (u.2))) (va_A (wd_c_X4_emit h0 h0_0 h0_f1 h0_2 h0_0 h0_0k h0_0c) sz)) 0 0 (va_A (wd_c_X4_emit h0 h0_0 h0_f1 h0_2 h0_0 h0_0k h0_0c) sz) := by
  refine Met.ofW (cc := cX4_emit) (maxL := 2) (ret := none) (by decide +kernel) rfl ?_
  intro p e s m args below meth c s₁ B hml hv
  obtain ⟨rfl, hsz, hP, hK, hD0⟩ := hv
  have hx := B.exec
  have hb := B.bytes
  have hr := B.returns
  have hts := atoms_spec (ws := wf_c_X4_emit) B.pre
  have hown : s.vm.findClass RX4 = some m.cls := findClass_of_methodNamed B.named
  have hlocks := B.notSynchronized
  subst hsz
  have hD := hD0.self (sz := s.heap.size)
  generalize hAe : va_A (wd_c_X4_emit h0 h0_0 h0_f1 h0_2 h0_0 h0_0k h0_0c) s.heap.size = A at hD ⊢
  have hA : ∀ q : Nat, s.heap.size ≤ q → A q := fun q h => by rw [← hAe]; exact Or.inr h
  have hP : va_P (dC, dI) vwCl (wd_c_X4_emit h0 h0_0 h0_f1 h0_2 h0_0 h0_0k h0_0c) s.heap := hP
  have hl := lv_entry ([.ref h0, .int p1]) (n := 2) (Nat.le_of_ble_eq_true rfl)
  rw [lg_entry_eq]
  generalize (lg_sl ([.ref h0, .int p1]) ++ List.replicate (2 - (lg_sl ([.ref h0, .int p1])).length) Slot.unset).toArray = ls at hl ⊢
  have hl : lv_has ls 2 [(0, .ref h0), (1, .int p1)] := hl
  obtain ⟨H, hHe⟩ : ∃ H : Heap, s.heap = H := ⟨_, rfl⟩
  have hS : va_S A s.heap H [] := by rw [hHe]; exact va_S.rf
  have hP : va_P (dC, dI) vwCl (wd_c_X4_emit h0 h0_0 h0_f1 h0_2 h0_0 h0_0k h0_0c) H := by rw [← hHe]; exact hP
  rw [hHe]
  refine lv_aload_n hx hb dX4_emit_0 rfl (lv_at hl 0 rfl) ?_
  as_aux_lemma =>
  refine va_get (D := (dC, dI)) (ci := 4) (v := .int h0_f1) (C := RX4) (T := TX4) (N := 3) hx hb hts iw_c_X4_emit_X4 hown hK hP 0 rfl rfl 1 (by decide +kernel) (hts (.fieldLink RX4 20 "BuoyVote$Law" "length" "I") (List.mem_of_getElem? (i := 1) rfl)) (fun _ h9 => h9) rfl dX4_emit_1 ?_
  refine lv_aload_n hx hb dX4_emit_4 rfl (lv_at hl 0 rfl) ?_
  refine va_get (D := (dC, dI)) (ci := 4) (v := .ref h0_0) (C := RX4) (T := TX4) (N := 3) hx hb hts iw_c_X4_emit_X4 hown hK hP 0 rfl rfl 0 (by decide +kernel) (hts (.fieldLink RX4 11 "BuoyVote$Law" "code" "[I") (List.mem_of_getElem? (i := 2) rfl)) (fun _ h9 => h9) rfl dX4_emit_5 ?_
  refine va_alen (v := 240) hx hb hK hP 1 0 rfl rfl rfl dX4_emit_8 ?_
  refine lv_icmp_ge (tgt := 32) hx hb dX4_emit_9 rfl (fun c_1 => ?_) (fun c_1 => ?_)
  · have g_2 : RG h0_f1 240 240 := RG_le2 (RG_k 240 240 rfl) g_h0_f1 c_1 (by decide +kernel)
    have hK9 := hK.sub (tys' := []) [] rfl
    exact W.vret hx hb hr (fun t ht hW => ⟨⟨(h0_f1, h0_0c), rfl, (RG_w g_2 (by decide +kernel)), by rw [ht]; exact hP, va_K.moved hW.alike hK9, hD⟩, hS.F ht⟩) hS.2.2 dX4_emit_32
  · have d_3 := Int32.not_le.mp c_1
    have g_4 : RG h0_f1 0 239 := RG_lt1 g_h0_f1 (RG_k 240 240 rfl) d_3 (by decide +kernel)
    refine lv_aload_n hx hb dX4_emit_12 rfl (lv_at hl 0 rfl) ?_
    refine va_get (D := (dC, dI)) (ci := 4) (v := .ref h0_0) (C := RX4) (T := TX4) (N := 3) hx hb hts iw_c_X4_emit_X4 hown hK hP 0 rfl rfl 0 (by decide +kernel) (hts (.fieldLink RX4 11 "BuoyVote$Law" "code" "[I") (List.mem_of_getElem? (i := 2) rfl)) (fun _ h9 => h9) rfl dX4_emit_13 ?_
    refine lv_aload_n hx hb dX4_emit_16 rfl (lv_at hl 0 rfl) ?_
    refine va_get (D := (dC, dI)) (ci := 4) (v := .int h0_f1) (C := RX4) (T := TX4) (N := 3) hx hb hts iw_c_X4_emit_X4 hown hK hP 0 rfl rfl 1 (by decide +kernel) (hts (.fieldLink RX4 20 "BuoyVote$Law" "length" "I") (List.mem_of_getElem? (i := 1) rfl)) (fun _ h9 => h9) rfl dX4_emit_17 ?_
    as_aux_lemma =>
    refine lv_iload_n hx hb dX4_emit_20 rfl (lv_at hl 1 rfl) ?_
    refine va_iast hx hb hK hP hD hS 1 0 rfl rfl (RG_in g_4 (by decide +kernel)) dX4_emit_21 (fun H locs hP hD hS => ?_)
    have hP : va_P (dC, dI) vwCl (wd_c_X4_emit h0 h0_0 h0_f1 h0_2 h0_0 h0_0k (upd h0_0c (h0_f1 : Int32).toNatClampNeg p1)) H := hP
    have hD : va_D A (wd_c_X4_emit h0 h0_0 h0_f1 h0_2 h0_0 h0_0k (upd h0_0c (h0_f1 : Int32).toNatClampNeg p1)) := hD
    have l_6 : (upd h0_0c (h0_f1 : Int32).toNatClampNeg p1) (h0_f1 : Int32).toNatClampNeg = p1 := pk_us
    generalize (upd h0_0c (h0_f1 : Int32).toNatClampNeg p1) = w_5 at hP hD l_6
    have hP : va_P (dC, dI) vwCl (wd_c_X4_emit h0 h0_0 h0_f1 h0_2 h0_0 h0_0k w_5) H := hP
    have hD : va_D A (wd_c_X4_emit h0 h0_0 h0_f1 h0_2 h0_0 h0_0k w_5) := hD
    refine lv_aload_n hx hb dX4_emit_22 rfl (lv_at hl 0 rfl) ?_
    refine lv_dup hx hb dX4_emit_23 rfl ?_
    refine va_get (D := (dC, dI)) (ci := 4) (v := .int h0_f1) (C := RX4) (T := TX4) (N := 3) hx hb hts iw_c_X4_emit_X4 hown hK hP 0 rfl rfl 1 (by decide +kernel) (hts (.fieldLink RX4 20 "BuoyVote$Law" "length" "I") (List.mem_of_getElem? (i := 1) rfl)) (fun _ h9 => h9) rfl dX4_emit_24 ?_
    refine lv_iconst (v := 1) hx hb dX4_emit_27 kc_iconst_1 ?_
    refine lv_iadd hx hb dX4_emit_28 ?_
    refine lv_topi (fun x_7 ex_7 => ?_)
    as_aux_lemma =>
    have g_8 : RG x_7 1 240 := RG_add ex_7 g_4 (RG_k 1 1 rfl) (by decide +kernel)
    refine va_put (D := (dC, dI)) (ci := 4) (v := .int x_7) (ty := .int) (C := RX4) (T := TX4) (N := 3) hx hb hts iw_c_X4_emit_X4 tyX4 tyX4_ok nmX4 hown hK hP hD hS 0 rfl rfl 1 (by decide +kernel) (hts (.fieldLink RX4 20 "BuoyVote$Law" "length" "I") (List.mem_of_getElem? (i := 1) rfl)) (fun _ h9 => h9) rfl (by decide +kernel) rfl rfl (Nat.le_of_ble_eq_true rfl) dX4_emit_29 (fun H locs hP hD hS => ?_)
    have hP : va_P (dC, dI) vwCl (wd_c_X4_emit h0 h0_0 x_7 h0_2 h0_0 h0_0k w_5) H := hP
    have hD : va_D A (wd_c_X4_emit h0 h0_0 x_7 h0_2 h0_0 h0_0k w_5) := hD
    have hK9 := hK.sub (tys' := []) [] rfl
    exact W.vret hx hb hr (fun t ht hW => ⟨⟨(x_7, w_5), rfl, g_8, by rw [ht]; exact hP, va_K.moved hW.alike hK9, hD⟩, hS.F ht⟩) hS.2.2 dX4_emit_32
noncomputable def wd_c_X4_emit_1 (a0 : Nat) (a1 : Nat) (a2 : Int32) (a3 : Nat) (a4 : Nat) (a5 : ClassId) (a6 : Nat → Int32) : va_W := [(a0, .inr (4, [.ref a1, .int a2, .ref a3])), (a4, .inl (a5, 240, .inl a6))]
noncomputable def wf_c_X4_emit_1 : List Cond := List.cons (.code yX4_emit cX4_emit 2 none) (@HAppend.hAppend (List Cond) (List Cond) (List Cond) _ [.fieldLink RX4 20 "BuoyVote$Law" "length" "I", .fieldLink RX4 11 "BuoyVote$Law" "code" "[I"] wsX40)
theorem iw_c_X4_emit_1_X4 : ∀ w ∈ wsX40, w ∈ wf_c_X4_emit_1 := fun w h => List.mem_cons_of_mem _ (List.mem_append_right _ h)
set_option maxHeartbeats 4000000 in
set_option maxRecDepth 100000 in
theorem c_X4_emit_1 (l : Launch) (dC : Nat → ClassId) (dI : Nat → Nat → Nat) (sz : Nat) (h0 : Nat) (p1 : Int32) (h0_0 : Nat) (h0_f1 : Int32) (h0_2 : Nat) (h0_0k : ClassId) (h0_0c : Nat → Int32) (g_p1 : RG p1 (-1) 2147483647) (g_h0_f1 : RG h0_f1 0 240) : Met l yX4_emit wf_c_X4_emit_1 ({ frames := 0, cells := 0, slots := 0, locals := 0 }) (va_Pc [.ref h0, .int p1] (fun U => U.heap.size = sz ∧ va_P (dC, dI) vwCl (wd_c_X4_emit_1 h0 h0_0 h0_f1 h0_2 h0_0 h0_0k h0_0c) U.heap ∧ va_K (dC, dI) vwCl [(h0_0k, .int)] U ∧ va_D (fun _ => True) (wd_c_X4_emit_1 h0 h0_0 h0_f1 h0_2 h0_0 h0_0k h0_0c))) (va_Qv (fun (u : (Int32) × (Nat → Int32)) => (RG u.1 1 240)) (fun (u : (Int32) × (Nat → Int32)) t => va_P (dC, dI) vwCl (wd_c_X4_emit_1 h0 h0_0 (u.1) h0_2 h0_0 h0_0k (u.2)) t.heap ∧ va_K (dC, dI) vwCl [] t ∧ va_D (va_A (wd_c_X4_emit_1 h0 h0_0 h0_f1 h0_2 h0_0 h0_0k h0_0c) sz) (wd_c_X4_emit_1 h0 h0_0 (u.1) h0_2 h0_0 h0_0k (u.2))) (va_A (wd_c_X4_emit_1 h0 h0_0 h0_f1 h0_2 h0_0 h0_0k h0_0c) sz)) 0 0 (va_A (wd_c_X4_emit_1 h0 h0_0 h0_f1 h0_2 h0_0 h0_0k h0_0c) sz) := by
  refine Met.ofW (cc := cX4_emit) (maxL := 2) (ret := none) (by decide +kernel) rfl ?_
  intro p e s m args below meth c s₁ B hml hv
  obtain ⟨rfl, hsz, hP, hK, hD0⟩ := hv
  have hx := B.exec
  have hb := B.bytes
  have hr := B.returns
  have hts := atoms_spec (ws := wf_c_X4_emit_1) B.pre
  have hown : s.vm.findClass RX4 = some m.cls := findClass_of_methodNamed B.named
  have hlocks := B.notSynchronized
  subst hsz
  have hD := hD0.self (sz := s.heap.size)
  generalize hAe : va_A (wd_c_X4_emit_1 h0 h0_0 h0_f1 h0_2 h0_0 h0_0k h0_0c) s.heap.size = A at hD ⊢
  have hA : ∀ q : Nat, s.heap.size ≤ q → A q := fun q h => by rw [← hAe]; exact Or.inr h
  have hP : va_P (dC, dI) vwCl (wd_c_X4_emit_1 h0 h0_0 h0_f1 h0_2 h0_0 h0_0k h0_0c) s.heap := hP
  have hl := lv_entry ([.ref h0, .int p1]) (n := 2) (Nat.le_of_ble_eq_true rfl)
  rw [lg_entry_eq]
  generalize (lg_sl ([.ref h0, .int p1]) ++ List.replicate (2 - (lg_sl ([.ref h0, .int p1])).length) Slot.unset).toArray = ls at hl ⊢
  have hl : lv_has ls 2 [(0, .ref h0), (1, .int p1)] := hl
  obtain ⟨H, hHe⟩ : ∃ H : Heap, s.heap = H := ⟨_, rfl⟩
  have hS : va_S A s.heap H [] := by rw [hHe]; exact va_S.rf
  have hP : va_P (dC, dI) vwCl (wd_c_X4_emit_1 h0 h0_0 h0_f1 h0_2 h0_0 h0_0k h0_0c) H := by rw [← hHe]; exact hP
  rw [hHe]
  refine lv_aload_n hx hb dX4_emit_0 rfl (lv_at hl 0 rfl) ?_
  as_aux_lemma =>
  refine va_get (D := (dC, dI)) (ci := 4) (v := .int h0_f1) (C := RX4) (T := TX4) (N := 3) hx hb hts iw_c_X4_emit_1_X4 hown hK hP 0 rfl rfl 1 (by decide +kernel) (hts (.fieldLink RX4 20 "BuoyVote$Law" "length" "I") (List.mem_of_getElem? (i := 1) rfl)) (fun _ h9 => h9) rfl dX4_emit_1 ?_
  refine lv_aload_n hx hb dX4_emit_4 rfl (lv_at hl 0 rfl) ?_
  refine va_get (D := (dC, dI)) (ci := 4) (v := .ref h0_0) (C := RX4) (T := TX4) (N := 3) hx hb hts iw_c_X4_emit_1_X4 hown hK hP 0 rfl rfl 0 (by decide +kernel) (hts (.fieldLink RX4 11 "BuoyVote$Law" "code" "[I") (List.mem_of_getElem? (i := 2) rfl)) (fun _ h9 => h9) rfl dX4_emit_5 ?_
  refine va_alen (v := 240) hx hb hK hP 1 0 rfl rfl rfl dX4_emit_8 ?_
  refine lv_icmp_ge (tgt := 32) hx hb dX4_emit_9 rfl (fun c_1 => ?_) (fun c_1 => ?_)
  · have g_2 : RG h0_f1 240 240 := RG_le2 (RG_k 240 240 rfl) g_h0_f1 c_1 (by decide +kernel)
    have hK9 := hK.sub (tys' := []) [] rfl
    exact W.vret hx hb hr (fun t ht hW => ⟨⟨(h0_f1, h0_0c), rfl, (RG_w g_2 (by decide +kernel)), by rw [ht]; exact hP, va_K.moved hW.alike hK9, hD⟩, hS.F ht⟩) hS.2.2 dX4_emit_32
  · have d_3 := Int32.not_le.mp c_1
    have g_4 : RG h0_f1 0 239 := RG_lt1 g_h0_f1 (RG_k 240 240 rfl) d_3 (by decide +kernel)
    refine lv_aload_n hx hb dX4_emit_12 rfl (lv_at hl 0 rfl) ?_
    refine va_get (D := (dC, dI)) (ci := 4) (v := .ref h0_0) (C := RX4) (T := TX4) (N := 3) hx hb hts iw_c_X4_emit_1_X4 hown hK hP 0 rfl rfl 0 (by decide +kernel) (hts (.fieldLink RX4 11 "BuoyVote$Law" "code" "[I") (List.mem_of_getElem? (i := 2) rfl)) (fun _ h9 => h9) rfl dX4_emit_13 ?_
    refine lv_aload_n hx hb dX4_emit_16 rfl (lv_at hl 0 rfl) ?_
    refine va_get (D := (dC, dI)) (ci := 4) (v := .int h0_f1) (C := RX4) (T := TX4) (N := 3) hx hb hts iw_c_X4_emit_1_X4 hown hK hP 0 rfl rfl 1 (by decide +kernel) (hts (.fieldLink RX4 20 "BuoyVote$Law" "length" "I") (List.mem_of_getElem? (i := 1) rfl)) (fun _ h9 => h9) rfl dX4_emit_17 ?_
    as_aux_lemma =>
    refine lv_iload_n hx hb dX4_emit_20 rfl (lv_at hl 1 rfl) ?_
    refine va_iast hx hb hK hP hD hS 1 0 rfl rfl (RG_in g_4 (by decide +kernel)) dX4_emit_21 (fun H locs hP hD hS => ?_)
    have hP : va_P (dC, dI) vwCl (wd_c_X4_emit_1 h0 h0_0 h0_f1 h0_2 h0_0 h0_0k (upd h0_0c (h0_f1 : Int32).toNatClampNeg p1)) H := hP
    have hD : va_D A (wd_c_X4_emit_1 h0 h0_0 h0_f1 h0_2 h0_0 h0_0k (upd h0_0c (h0_f1 : Int32).toNatClampNeg p1)) := hD
    have l_6 : (upd h0_0c (h0_f1 : Int32).toNatClampNeg p1) (h0_f1 : Int32).toNatClampNeg = p1 := pk_us
    generalize (upd h0_0c (h0_f1 : Int32).toNatClampNeg p1) = w_5 at hP hD l_6
    have hP : va_P (dC, dI) vwCl (wd_c_X4_emit_1 h0 h0_0 h0_f1 h0_2 h0_0 h0_0k w_5) H := hP
    have hD : va_D A (wd_c_X4_emit_1 h0 h0_0 h0_f1 h0_2 h0_0 h0_0k w_5) := hD
    refine lv_aload_n hx hb dX4_emit_22 rfl (lv_at hl 0 rfl) ?_
    refine lv_dup hx hb dX4_emit_23 rfl ?_
    refine va_get (D := (dC, dI)) (ci := 4) (v := .int h0_f1) (C := RX4) (T := TX4) (N := 3) hx hb hts iw_c_X4_emit_1_X4 hown hK hP 0 rfl rfl 1 (by decide +kernel) (hts (.fieldLink RX4 20 "BuoyVote$Law" "length" "I") (List.mem_of_getElem? (i := 1) rfl)) (fun _ h9 => h9) rfl dX4_emit_24 ?_
    refine lv_iconst (v := 1) hx hb dX4_emit_27 kc_iconst_1 ?_
    refine lv_iadd hx hb dX4_emit_28 ?_
    refine lv_topi (fun x_7 ex_7 => ?_)
    as_aux_lemma =>
    have g_8 : RG x_7 1 240 := RG_add ex_7 g_4 (RG_k 1 1 rfl) (by decide +kernel)
    refine va_put (D := (dC, dI)) (ci := 4) (v := .int x_7) (ty := .int) (C := RX4) (T := TX4) (N := 3) hx hb hts iw_c_X4_emit_1_X4 tyX4 tyX4_ok nmX4 hown hK hP hD hS 0 rfl rfl 1 (by decide +kernel) (hts (.fieldLink RX4 20 "BuoyVote$Law" "length" "I") (List.mem_of_getElem? (i := 1) rfl)) (fun _ h9 => h9) rfl (by decide +kernel) rfl rfl (Nat.le_of_ble_eq_true rfl) dX4_emit_29 (fun H locs hP hD hS => ?_)
    have hP : va_P (dC, dI) vwCl (wd_c_X4_emit_1 h0 h0_0 x_7 h0_2 h0_0 h0_0k w_5) H := hP
    have hD : va_D A (wd_c_X4_emit_1 h0 h0_0 x_7 h0_2 h0_0 h0_0k w_5) := hD
    have hK9 := hK.sub (tys' := []) [] rfl
    exact W.vret hx hb hr (fun t ht hW => ⟨⟨(x_7, w_5), rfl, g_8, by rw [ht]; exact hP, va_K.moved hW.alike hK9, hD⟩, hS.F ht⟩) hS.2.2 dX4_emit_32
noncomputable def wd_c_X4_readAtom_6 (a0 : Nat) (a1 : Nat) (a2 : Int32) (a3 : Int32) (a4 : Int32) (a5 : Nat) (a6 : ClassId) (a7 : Nat → Int32) (a8 : Nat) (a9 : Nat) (a10 : Int32) (a11 : Nat) (a12 : Nat) (a13 : ClassId) (a14 : Nat → Int32) : va_W := [(a0, .inr (9, [.ref a1, .int a2, .int a3, .int a4])), (a5, .inl (a6, 240, .inl a7)), (a8, .inr (4, [.ref a9, .int a10, .ref a11])), (a12, .inl (a13, 240, .inl a14))]
noncomputable def wf_c_X4_readAtom_6 : List Cond := List.cons (.code yX4_readAtom cX4_readAtom 6 none) (@HAppend.hAppend (List Cond) (List Cond) (List Cond) _ (@HAppend.hAppend (List Cond) (List Cond) (List Cond) _ [.methodLink RX4 41 yX9_peek, .instanceMethod yX9_peek, .selects RX9 yX9_peek yX9_peek, .initialized RX9, .code yX9_peek cX9_peek 1 (some .int), .fieldLink RX9 22 "BuoyVote$Tape" "at" "I", .fieldLink RX9 19 "BuoyVote$Tape" "length" "I", .fieldLink RX9 11 "BuoyVote$Tape" "bytes" "[I", .methodLink RX4 93 yJ0_indexOf_0f7a4, .instanceMethod yJ0_indexOf_0f7a4, .selects RJ0 yJ0_indexOf_0f7a4 yJ0_indexOf_0f7a4, .initialized RJ0, .code yJ0_indexOf_0f7a4 cJ0_indexOf_0f7a4 2 (some .int), .methodLink RJ0 633 yJ0_indexOf_7cf53, .instanceMethod yJ0_indexOf_7cf53, .selects RJ0 yJ0_indexOf_7cf53 yJ0_indexOf_7cf53, .code yJ0_indexOf_7cf53 cJ0_indexOf_7cf53 3 (some .int), .methodLink RJ0 492 yJ0_isLatin1_aae02, .instanceMethod yJ0_isLatin1_aae02, .selects RJ0 yJ0_isLatin1_aae02 yJ0_isLatin1_aae02, .code yJ0_isLatin1_aae02 cJ0_isLatin1_aae02 1 (some .boolean), .fieldLink RJ0 38 "java/lang/String" "COMPACT_STRINGS" "Z", .fieldLink RJ0 15 "java/lang/String" "coder" "B", .fieldLink RJ0 9 "java/lang/String" "value" "[B", .methodLink RJ0 505 yJ0_length_8abf5, .instanceMethod yJ0_length_8abf5, .selects RJ0 yJ0_length_8abf5 yJ0_length_8abf5, .code yJ0_length_8abf5 cJ0_length_8abf5 1 (some .int), .methodLink RJ0 335 yJ0_coder_7d493, .instanceMethod yJ0_coder_7d493, .selects RJ0 yJ0_coder_7d493 yJ0_coder_7d493, .code yJ0_coder_7d493 cJ0_coder_7d493 1 (some .byte), .methodLink RJ0 637 yJ1_indexOf_4cfef, .static yJ1_indexOf_4cfef, .initialized RJ1, .code yJ1_indexOf_4cfef cJ1_indexOf_4cfef 4 (some .int), .methodLink RJ1 88 yJ1_canEncode_9a6ad, .static yJ1_canEncode_9a6ad, .code yJ1_canEncode_9a6ad cJ1_canEncode_9a6ad 1 (some .boolean), .methodLink RJ1 92 Lib.Math.max.name, .static Lib.Math.max.name, .initialized "java/lang/Math", .code Lib.Math.max.name Lib.Math.max.code 2 (some .int), .methodLink RJ1 38 Lib.Math.min.name, .static Lib.Math.min.name, .code Lib.Math.min.name Lib.Math.min.code 2 (some .int), .methodLink RJ1 95 yJ1_indexOfChar_4cfef, .static yJ1_indexOfChar_4cfef, .code yJ1_indexOfChar_4cfef cJ1_indexOfChar_4cfef 6 (some .int), .methodLink RX4 99 yX9_number, .instanceMethod yX9_number, .selects RX9 yX9_number yX9_number, .code yX9_number cX9_number 4 (some .int), .methodLink RX4 82 yX9_refuseHere, .instanceMethod yX9_refuseHere, .selects RX9 yX9_refuseHere yX9_refuseHere, .code yX9_refuseHere cX9_refuseHere 1 none, .methodLink RX9 25 yX9_refuse, .instanceMethod yX9_refuse, .selects RX9 yX9_refuse yX9_refuse, .code yX9_refuse cX9_refuse 2 none, .fieldLink RX9 15 "BuoyVote$Tape" "wrong" "I", .methodLink RX4 79 yX9_skip, .instanceMethod yX9_skip, .selects RX9 yX9_skip yX9_skip, .code yX9_skip cX9_skip 1 none, .methodLink RX4 60 yX4_emit, .instanceMethod yX4_emit, .selects RX4 yX4_emit yX4_emit, .initialized RX4, .code yX4_emit cX4_emit 2 none, .fieldLink RX4 20 "BuoyVote$Law" "length" "I", .fieldLink RX4 11 "BuoyVote$Law" "code" "[I"] wsX90) wsX40)
theorem iw_c_X4_readAtom_6_X9 : ∀ w ∈ wsX90, w ∈ wf_c_X4_readAtom_6 := fun w h => List.mem_cons_of_mem _ (List.mem_append_left _ (List.mem_append_right _ h))
theorem iw_c_X4_readAtom_6_X4 : ∀ w ∈ wsX40, w ∈ wf_c_X4_readAtom_6 := fun w h => List.mem_cons_of_mem _ (List.mem_append_right _ h)
set_option maxRecDepth 20000 in
theorem gf_c_X4_readAtom_6_c_X4_emit_1 : GoodIn wf_c_X4_readAtom_6 (wsV RX4 60 RX4 yX4_emit wf_c_X4_emit_1) := goodIn_app (gi_l [67, 68, 69, 70] rfl rfl) (gi_cons (j := 71) rfl rfl (goodIn_app (gi_l [72, 73] rfl rfl) (goodIn_sub iw_c_X4_readAtom_6_X4 gw_X4)))
set_option maxRecDepth 20000 in
theorem gf_c_X4_readAtom_6_c_X9_number_1 : GoodIn wf_c_X4_readAtom_6 (wsV RX4 99 RX9 yX9_number wf_c_X9_number_1) := goodIn_app (gi_l [50, 51, 52, 4] rfl rfl) (gi_cons (j := 53) rfl rfl (goodIn_app (gi_l [6, 7, 8] rfl rfl) (goodIn_sub iw_c_X4_readAtom_6_X9 gw_X9)))
set_option maxRecDepth 20000 in
theorem gf_c_X4_readAtom_6_c_X9_refuseHere : GoodIn wf_c_X4_readAtom_6 (wsV RX4 82 RX9 yX9_refuseHere wf_c_X9_refuseHere) := goodIn_app (gi_l [54, 55, 56, 4] rfl rfl) (gi_cons (j := 57) rfl rfl (goodIn_app (gi_l [6, 58, 59, 60, 4, 61, 62] rfl rfl) (goodIn_sub iw_c_X4_readAtom_6_X9 gw_X9)))
set_option maxRecDepth 20000 in
theorem gf_c_X4_readAtom_6_c_X9_skip : GoodIn wf_c_X4_readAtom_6 (wsV RX4 79 RX9 yX9_skip wf_c_X9_skip) := goodIn_app (gi_l [63, 64, 65, 4] rfl rfl) (gi_cons (j := 66) rfl rfl (goodIn_app (gi_l [6] rfl rfl) (goodIn_sub iw_c_X4_readAtom_6_X9 gw_X9)))
set_option maxRecDepth 20000 in
theorem gf_c_X4_readAtom_6_c_X4_emit : GoodIn wf_c_X4_readAtom_6 (wsV RX4 60 RX4 yX4_emit wf_c_X4_emit) := goodIn_app (gi_l [67, 68, 69, 70] rfl rfl) (gi_cons (j := 71) rfl rfl (goodIn_app (gi_l [72, 73] rfl rfl) (goodIn_sub iw_c_X4_readAtom_6_X4 gw_X4)))
set_option maxRecDepth 20000 in
theorem gf_c_X4_readAtom_6_c_X9_peek : GoodIn wf_c_X4_readAtom_6 (wsV RX4 41 RX9 yX9_peek wf_c_X9_peek) := goodIn_app (gi_l [1, 2, 3, 4] rfl rfl) (gi_cons (j := 5) rfl rfl (goodIn_app (gi_l [6, 7, 8] rfl rfl) (goodIn_sub iw_c_X4_readAtom_6_X9 gw_X9)))
set_option maxRecDepth 20000 in
theorem gf_c_X4_readAtom_6_c_J0_indexOf_0f7a4_4 : GoodIn wf_c_X4_readAtom_6 (wsV RX4 93 RJ0 yJ0_indexOf_0f7a4 wf_c_J0_indexOf_0f7a4_4) := goodIn_app (gi_l [9, 10, 11, 12] rfl rfl) (gi_cons (j := 13) rfl rfl (gi_l [14, 15, 16, 12, 17, 18, 19, 20, 21, 22, 23, 24, 25, 26, 27, 28, 29, 30, 31, 32, 33, 34, 35, 36, 37, 38, 39, 40, 41, 42, 43, 44, 45, 46, 47, 48, 49] rfl rfl))
set_option maxHeartbeats 4000000 in
set_option maxRecDepth 100000 in
theorem c_X4_readAtom_6 (l : Launch) (dC : Nat → ClassId) (dI : Nat → Nat → Nat) (sz : Nat) (h0 : Nat) (h1 : Nat) (h1_0 : Nat) (h1_f1 : Int32) (h1_f2 : Int32) (h1_f3 : Int32) (h1_0k : ClassId) (h1_0c : Nat → Int32) (h0_0 : Nat) (h0_f1 : Int32) (h0_2 : Nat) (h0_0k : ClassId) (h0_0c : Nat → Int32) (ts4 : Nat) (tv4 : Nat) (g_h1_f1 : RG h1_f1 0 240) (g_h1_f2 : RG h1_f2 0 240) (g_h1_f3 : RG h1_f3 (-1) 240) (a_h1_0c : AI h1_0c 0 255) (g_h0_f1 : RG h0_f1 0 240) : Met l yX4_readAtom wf_c_X4_readAtom_6 ({ frames := 4, cells := 0, slots := 0, locals := 91 }) (va_Pc [.ref h0, .ref h1, .int 6] (fun U => U.heap.size = sz ∧ va_P (dC, dI) vwCl (wd_c_X4_readAtom_6 h1 h1_0 h1_f1 h1_f2 h1_f3 h1_0 h1_0k h1_0c h0 h0_0 h0_f1 h0_2 h0_0 h0_0k h0_0c) U.heap ∧ va_K (dC, dI) vwCl [(h1_0k, .int), (h0_0k, .int)] U ∧ va_D (fun _ => True) (wd_c_X4_readAtom_6 h1 h1_0 h1_f1 h1_f2 h1_f3 h1_0 h1_0k h1_0c h0 h0_0 h0_f1 h0_2 h0_0 h0_0k h0_0c) ∧ vk_R RX4 91 "vlrdph" ts4 U ∧ va_Z "java/lang/String" "COMPACT_STRINGS" "Z" (.int 1) (va_A (wd_c_X4_readAtom_6 h1 h1_0 h1_f1 h1_f2 h1_f3 h1_0 h1_0k h1_0c h0 h0_0 h0_f1 h0_2 h0_0 h0_0k h0_0c) sz) U U.heap ∧ va_OF "java/lang/String" "coder" "B" (.int 0) ts4 (va_A (wd_c_X4_readAtom_6 h1 h1_0 h1_f1 h1_f2 h1_f3 h1_0 h1_0k h1_0c h0 h0_0 h0_f1 h0_2 h0_0 h0_0k h0_0c) sz) U U.heap ∧ va_O "java/lang/String" ts4 (va_A (wd_c_X4_readAtom_6 h1 h1_0 h1_f1 h1_f2 h1_f3 h1_0 h1_0k h1_0c h0 h0_0 h0_f1 h0_2 h0_0 h0_0k h0_0c) sz) U U.heap ∧ va_OF "java/lang/String" "value" "[B" (.ref tv4) ts4 (va_A (wd_c_X4_readAtom_6 h1 h1_0 h1_f1 h1_f2 h1_f3 h1_0 h1_0k h1_0c h0 h0_0 h0_f1 h0_2 h0_0 h0_0k h0_0c) sz) U U.heap ∧ va_T .byte tv4 6 (fun j => .int ([118, 108, 114, 100, 112, 104].getD j 0)) (va_A (wd_c_X4_readAtom_6 h1 h1_0 h1_f1 h1_f2 h1_f3 h1_0 h1_0k h1_0c h0 h0_0 h0_f1 h0_2 h0_0 h0_0k h0_0c) sz) U U.heap)) (va_Qv (fun (u : (Int32) × (Int32) × (Int32) × (Nat → Int32)) => (RG u.1 0 240 ∧ RG u.2.1 (-1) 240 ∧ RG u.2.2.1 0 240)) (fun (u : (Int32) × (Int32) × (Int32) × (Nat → Int32)) t => va_P (dC, dI) vwCl (wd_c_X4_readAtom_6 h1 h1_0 h1_f1 (u.1) (u.2.1) h1_0 h1_0k h1_0c h0 h0_0 (u.2.2.1) h0_2 h0_0 h0_0k (u.2.2.2)) t.heap ∧ va_K (dC, dI) vwCl [] t ∧ va_D (va_A (wd_c_X4_readAtom_6 h1 h1_0 h1_f1 h1_f2 h1_f3 h1_0 h1_0k h1_0c h0 h0_0 h0_f1 h0_2 h0_0 h0_0k h0_0c) sz) (wd_c_X4_readAtom_6 h1 h1_0 h1_f1 (u.1) (u.2.1) h1_0 h1_0k h1_0c h0 h0_0 (u.2.2.1) h0_2 h0_0 h0_0k (u.2.2.2))) (va_A (wd_c_X4_readAtom_6 h1 h1_0 h1_f1 h1_f2 h1_f3 h1_0 h1_0k h1_0c h0 h0_0 h0_f1 h0_2 h0_0 h0_0k h0_0c) sz)) 0 0 (va_A (wd_c_X4_readAtom_6 h1 h1_0 h1_f1 h1_f2 h1_f3 h1_0 h1_0k h1_0c h0 h0_0 h0_f1 h0_2 h0_0 h0_0k h0_0c) sz) := by
  refine Met.ofW (cc := cX4_readAtom) (maxL := 6) (ret := none) (by decide +kernel) rfl ?_
  intro p e s m args below meth c s₁ B hml hv
  obtain ⟨rfl, hsz, hP, hK, hD0, hE_32, hE_10, hE_34, hE_33, hE_35, hE_36⟩ := hv
  have hx := B.exec
  have hb := B.bytes
  have hr := B.returns
  have hts := atoms_spec (ws := wf_c_X4_readAtom_6) B.pre
  have hown : s.vm.findClass RX4 = some m.cls := findClass_of_methodNamed B.named
  have hlocks := B.notSynchronized
  subst hsz
  have hD := hD0.self (sz := s.heap.size)
  generalize hAe : va_A (wd_c_X4_readAtom_6 h1 h1_0 h1_f1 h1_f2 h1_f3 h1_0 h1_0k h1_0c h0 h0_0 h0_f1 h0_2 h0_0 h0_0k h0_0c) s.heap.size = A at hD hE_10 hE_34 hE_33 hE_35 hE_36 ⊢
  have hA : ∀ q : Nat, s.heap.size ≤ q → A q := fun q h => by rw [← hAe]; exact Or.inr h
  have hP : va_P (dC, dI) vwCl (wd_c_X4_readAtom_6 h1 h1_0 h1_f1 h1_f2 h1_f3 h1_0 h1_0k h1_0c h0 h0_0 h0_f1 h0_2 h0_0 h0_0k h0_0c) s.heap := hP
  have hl := lv_entry ([.ref h0, .ref h1, .int 6]) (n := 6) (Nat.le_of_ble_eq_true rfl)
  rw [lg_entry_eq]
  generalize (lg_sl ([.ref h0, .ref h1, .int 6]) ++ List.replicate (6 - (lg_sl ([.ref h0, .ref h1, .int 6])).length) Slot.unset).toArray = ls at hl ⊢
  have hl : lv_has ls 6 [(0, .ref h0), (1, .ref h1), (2, .int 6)] := hl
  obtain ⟨H, hHe⟩ : ∃ H : Heap, s.heap = H := ⟨_, rfl⟩
  have hS : va_S A s.heap H [] := by rw [hHe]; exact va_S.rf
  have hP : va_P (dC, dI) vwCl (wd_c_X4_readAtom_6 h1 h1_0 h1_f1 h1_f2 h1_f3 h1_0 h1_0k h1_0c h0 h0_0 h0_f1 h0_2 h0_0 h0_0k h0_0c) H := by rw [← hHe]; exact hP
  rw [hHe]
  refine wj (fun G hG hU => ?_)
  as_aux_lemma =>
  have J65 : ∀ (j65_l5 : Int32) (j65_h1_f2 : Int32) (j65_h1_f3 : Int32) (g_h0_f1 : RG h0_f1 0 240) (g_h1_f1 : RG h1_f1 0 240) (g_h1_f2 : RG h1_f2 0 240) (g_h1_f3 : RG h1_f3 (-1) 240) (g_j65_h1_f2 : RG j65_h1_f2 0 240) (g_j65_h1_f3 : RG j65_h1_f3 (-1) 240) (g_j65_l5 : RG j65_l5 (-1) 9999) (H : Heap) (locs : List Loc) (ls : Array Slot) (hP : va_P (dC, dI) vwCl (wd_c_X4_readAtom_6 h1 h1_0 h1_f1 j65_h1_f2 j65_h1_f3 h1_0 h1_0k h1_0c h0 h0_0 h0_f1 h0_2 h0_0 h0_0k h0_0c) H) (hD : va_D A (wd_c_X4_readAtom_6 h1 h1_0 h1_f1 j65_h1_f2 j65_h1_f3 h1_0 h1_0k h1_0c h0 h0_0 h0_f1 h0_2 h0_0 h0_0k h0_0c)) (hS : va_S A s.heap H locs) (hl : lv_has ls 6 [(5, .int j65_l5), (0, .ref h0)]), G H locs (F0 m 65 ls []) := by
    as_aux_lemma =>
    intro j65_l5 j65_h1_f2 j65_h1_f3 g_h0_f1 g_h1_f1 g_h1_f2 g_h1_f3 g_j65_h1_f2 g_j65_h1_f3 g_j65_l5 H locs ls hP hD hS hl
    refine hG _ _ _ ?_
    refine lv_aload_n hx hb dX4_readAtom_65 rfl (lv_at hl 1 rfl) ?_
    refine lv_iload hx hb dX4_readAtom_66 (lv_at hl 0 rfl) ?_
    obtain ⟨hPc, hDc, hFc, hqc⟩ := cl_cut (wc := (wd_c_X4_emit_1 h0 h0_0 h0_f1 h0_2 h0_0 h0_0k h0_0c)) hP hD hS hA [2, 3] (by decide +kernel) rfl
    have hKc := hK.sub (tys' := [(h0_0k, .int)]) [1] rfl
    have hrv := va_recv hKc hPc (ci := 4) (q0 := 0) rfl rfl
    refine va_callv (va_runV (As := [.int j65_l5]) (rest := []) ⟨hx, hb, hml, hown, hts⟩ (c_X4_emit_1 l dC dI H.size h0 j65_l5 h0_0 h0_f1 h0_2 h0_0k h0_0c (RG_w g_j65_l5 (by decide +kernel)) g_h0_f1) (cwV 1 hts gf_c_X4_readAtom_6_c_X4_emit_1 rfl rfl rfl mdV_X4_emit ⟨Nat.le_of_ble_eq_true rfl, Nat.le_of_ble_eq_true rfl⟩) ⟨fun a U g mk q => by obtain ⟨q0, q1, qP, qK, qD⟩ := q; exact ⟨q0, q1, qP, va_K.moved (u := U) (U := U.calling g mk a) (Vm.Alike.refl U.vm) qK, qD⟩, hrv, fun U hU hW => ⟨rfl, by rw [hU], by rw [hU]; exact hPc, va_K.moved hW.alike hKc, hDc.weaken (fun _ _ _ _ => trivial)⟩⟩ rfl rfl hl.1 rfl (lv_room (Nat.le_of_ble_eq_true rfl)) dX4_readAtom_68 ⟨Nat.le_of_ble_eq_true rfl, Nat.le_of_ble_eq_true rfl⟩) hS (fun q _ h => hFc q h) hFc (fun u t H1 locs ht hvm hw hB hz1 hk1 hS => ?_)
    obtain ⟨x_2, w_3⟩ := u
    obtain ⟨hP1, hK1, hD1⟩ := hB
    rw [ht] at hP1
    obtain ⟨hP, hD⟩ := cl_put (w1 := (wd_c_X4_emit_1 h0 h0_0 x_2 h0_2 h0_0 h0_0k w_3)) (nw := (wd_c_X4_readAtom_6 h1 h1_0 h1_f1 j65_h1_f2 j65_h1_f3 h1_0 h1_0k h1_0c h0 h0_0 x_2 h0_2 h0_0 h0_0k w_3)) hP hD [2, 3] [0, 1, 4, 5] 4 rfl hqc (by decide +kernel) rfl hk1 hFc hP1 hD1
    generalize H1 = H at hP hS ⊢
    as_aux_lemma =>
    have h_4 := hw
    refine lv_goto (tgt := 105) hx hb dX4_readAtom_71 rfl ?_
    have hK9 := hK.sub (tys' := []) [] rfl
    exact W.vret hx hb hr (fun t ht hW => ⟨⟨(j65_h1_f2, j65_h1_f3, x_2, w_3), rfl, ⟨g_j65_h1_f2, g_j65_h1_f3, (RG_w h_4 (by decide +kernel))⟩, by rw [ht]; exact hP, va_K.moved hW.alike hK9, hD⟩, hS.F ht⟩) hS.2.2 dX4_readAtom_105
  have J20 : ∀ (j20_h1_f2 : Int32) (g_h0_f1 : RG h0_f1 0 240) (g_h1_f1 : RG h1_f1 0 240) (g_h1_f2 : RG h1_f2 0 240) (g_h1_f3 : RG h1_f3 (-1) 240) (g_j20_h1_f2 : RG j20_h1_f2 0 240) (H : Heap) (locs : List Loc) (ls : Array Slot) (hP : va_P (dC, dI) vwCl (wd_c_X4_readAtom_6 h1 h1_0 h1_f1 j20_h1_f2 h1_f3 h1_0 h1_0k h1_0c h0 h0_0 h0_f1 h0_2 h0_0 h0_0k h0_0c) H) (hD : va_D A (wd_c_X4_readAtom_6 h1 h1_0 h1_f1 j20_h1_f2 h1_f3 h1_0 h1_0k h1_0c h0 h0_0 h0_f1 h0_2 h0_0 h0_0k h0_0c)) (hS : va_S A s.heap H locs) (hl : lv_has ls 6 [(3, .int (-1)), (0, .ref h0), (1, .ref h1), (2, .int 6)]), G H locs (F0 m 20 ls [.int (-1)]) := by
    as_aux_lemma =>
    intro j20_h1_f2 g_h0_f1 g_h1_f1 g_h1_f2 g_h1_f3 g_j20_h1_f2 H locs ls hP hD hS hl
    refine hG _ _ _ ?_
    refine lv_istore (lv' := [(4, .int (-1)), (3, .int (-1)), (0, .ref h0), (1, .ref h1), (2, .int 6)]) hx hb dX4_readAtom_20 hl (Nat.le_of_ble_eq_true rfl) rfl (fun ls hl => ?_)
    refine lv_iload hx hb dX4_readAtom_22 (lv_at hl 0 rfl) ?_
    refine lv_if_lt (tgt := 42) hx hb dX4_readAtom_24 rfl (fun c_5 => ?_) (fun c_5 => absurd c_5 (by decide +kernel))
    refine lv_iload_n hx hb dX4_readAtom_42 rfl (lv_at hl 1 rfl) ?_
    refine lv_bipush (v := 91) hx hb dX4_readAtom_43 kc_bipush_91 ?_
    refine lv_icmp_eq (tgt := 74) hx hb dX4_readAtom_45 rfl (fun c_6 => absurd c_6 (by decide +kernel)) (fun c_6 => ?_)
    refine lv_aload_n hx hb dX4_readAtom_48 rfl (lv_at hl 3 rfl) ?_
    refine lv_iconst (v := 4) hx hb dX4_readAtom_49 kc_iconst_4 ?_
    obtain ⟨hPc, hDc, hFc, hqc⟩ := cl_cut (wc := (wd_c_X9_number_1 h1 h1_0 h1_f1 j20_h1_f2 h1_f3 h1_0 h1_0k h1_0c)) hP hD hS hA [0, 1] (by decide +kernel) rfl
    have hKc := hK.sub (tys' := [(h1_0k, .int)]) [0] rfl
    have hrv := va_recv hKc hPc (ci := 9) (q0 := 0) rfl rfl
    refine va_calli (va_runV (As := [.int 4]) (rest := []) ⟨hx, hb, hml, hown, hts⟩ (c_X9_number_1 l dC dI H.size h1 h1_0 h1_f1 j20_h1_f2 h1_f3 h1_0k h1_0c g_h1_f1 g_j20_h1_f2 g_h1_f3 a_h1_0c) (cwV 1 hts gf_c_X4_readAtom_6_c_X9_number_1 rfl rfl rfl mdV_X9_number ⟨Nat.le_of_ble_eq_true rfl, Nat.le_of_ble_eq_true rfl⟩) ⟨fun a U g mk q => by obtain ⟨q0, q1, qP, qK, qD⟩ := q; exact ⟨q0, q1, qP, va_K.moved (u := U) (U := U.calling g mk a) (Vm.Alike.refl U.vm) qK, qD⟩, hrv, fun U hU hW => ⟨rfl, by rw [hU], by rw [hU]; exact hPc, va_K.moved hW.alike hKc, hDc.weaken (fun _ _ _ _ => trivial)⟩⟩ rfl rfl hl.1 rfl (lv_room (Nat.le_of_ble_eq_true rfl)) dX4_readAtom_50 ⟨Nat.le_of_ble_eq_true rfl, Nat.le_of_ble_eq_true rfl⟩) hS (fun q _ h => hFc q h) hFc (fun r_7 x_8 t H1 locs ht hvm hw hB hz1 hk1 hS => ?_)
    as_aux_lemma =>
    obtain ⟨hP1, hK1, hD1⟩ := hB
    rw [ht] at hP1
    obtain ⟨hP, hD⟩ := cl_put (w1 := (wd_c_X9_number_1 h1 h1_0 h1_f1 x_8 h1_f3 h1_0 h1_0k h1_0c)) (nw := (wd_c_X4_readAtom_6 h1 h1_0 h1_f1 x_8 h1_f3 h1_0 h1_0k h1_0c h0 h0_0 h0_f1 h0_2 h0_0 h0_0k h0_0c)) hP hD [0, 1] [4, 5, 2, 3] 4 rfl hqc (by decide +kernel) rfl hk1 hFc hP1 hD1
    generalize H1 = H at hP hS ⊢
    as_aux_lemma =>
    rcases hw with ⟨h_9, h_10, h_11⟩ | ⟨h_12, h_13, h_14, h_15, h_16⟩
    · rw [h_9]
      refine lv_istore (lv' := [(5, .int (-1)), (4, .int (-1)), (3, .int (-1)), (0, .ref h0), (1, .ref h1), (2, .int 6)]) hx hb dX4_readAtom_53 hl (Nat.le_of_ble_eq_true rfl) rfl (fun ls hl => ?_)
      refine lv_iload hx hb dX4_readAtom_55 (lv_at hl 0 rfl) ?_
      refine lv_iconst (v := (-1)) hx hb dX4_readAtom_57 kc_iconst_m1 ?_
      refine lv_icmp_ne (tgt := 65) hx hb dX4_readAtom_58 rfl (fun c_17 => absurd c_17 (by decide +kernel)) (fun c_17 => ?_)
      refine lv_aload_n hx hb dX4_readAtom_61 rfl (lv_at hl 4 rfl) ?_
      obtain ⟨hPc, hDc, hFc, hqc⟩ := cl_cut (wc := (wd_c_X9_refuseHere h1 h1_0 h1_f1 x_8 h1_f3)) hP hD hS hA [0] (by decide +kernel) rfl
      have hKc := hK.sub (tys' := []) [] rfl
      have hrv := va_recv hKc hPc (ci := 9) (q0 := 0) rfl rfl
      refine va_callv (va_runV (As := []) (rest := []) ⟨hx, hb, hml, hown, hts⟩ (c_X9_refuseHere l dC dI H.size h1 h1_0 h1_f1 x_8 h1_f3 g_h1_f1 h_10 g_h1_f3) (cwV 0 hts gf_c_X4_readAtom_6_c_X9_refuseHere rfl rfl rfl mdV_X9_refuseHere ⟨Nat.le_of_ble_eq_true rfl, Nat.le_of_ble_eq_true rfl⟩) ⟨fun a U g mk q => by obtain ⟨q0, q1, qP, qK, qD⟩ := q; exact ⟨q0, q1, qP, va_K.moved (u := U) (U := U.calling g mk a) (Vm.Alike.refl U.vm) qK, qD⟩, hrv, fun U hU hW => ⟨rfl, by rw [hU], by rw [hU]; exact hPc, va_K.moved hW.alike hKc, hDc.weaken (fun _ _ _ _ => trivial)⟩⟩ rfl rfl hl.1 rfl (lv_room (Nat.le_of_ble_eq_true rfl)) dX4_readAtom_62 ⟨Nat.le_of_ble_eq_true rfl, Nat.le_of_ble_eq_true rfl⟩) hS (fun q _ h => hFc q h) hFc (fun x_19 t H1 locs ht hvm hw hB hz1 hk1 hS => ?_)
      obtain ⟨hP1, hK1, hD1⟩ := hB
      rw [ht] at hP1
      obtain ⟨hP, hD⟩ := cl_put (w1 := (wd_c_X9_refuseHere h1 h1_0 h1_f1 x_8 x_19)) (nw := (wd_c_X4_readAtom_6 h1 h1_0 h1_f1 x_8 x_19 h1_0 h1_0k h1_0c h0 h0_0 h0_f1 h0_2 h0_0 h0_0k h0_0c)) hP hD [0] [4, 1, 2, 3] 4 rfl hqc (by decide +kernel) rfl hk1 hFc hP1 hD1
      generalize H1 = H at hP hS ⊢
      as_aux_lemma =>
      have h_20 := hw
      exact hU _ _ _ (J65 (-1) x_8 x_19 g_h0_f1 g_h1_f1 g_h1_f2 g_h1_f3 h_10 (RG_w h_20 (by decide +kernel)) (RG_w (RG_k (-1) (-1) rfl) (by decide +kernel)) _ _ _ hP hD hS (lv_sub hl [0, 3] rfl))
    · refine lv_istore (lv' := [(5, .int r_7), (4, .int (-1)), (3, .int (-1)), (0, .ref h0), (1, .ref h1), (2, .int 6)]) hx hb dX4_readAtom_53 hl (Nat.le_of_ble_eq_true rfl) rfl (fun ls hl => ?_)
      refine lv_iload hx hb dX4_readAtom_55 (lv_at hl 0 rfl) ?_
      refine lv_iconst (v := (-1)) hx hb dX4_readAtom_57 kc_iconst_m1 ?_
      refine lv_icmp_ne (tgt := 65) hx hb dX4_readAtom_58 rfl (fun c_21 => ?_) (fun c_21 => ?_)
      · exact hU _ _ _ (J65 r_7 x_8 h1_f3 g_h0_f1 (RG_w h_14 (by decide +kernel)) g_h1_f2 g_h1_f3 (RG_w h_13 (by decide +kernel)) g_h1_f3 (RG_w h_12 (by decide +kernel)) _ _ _ hP hD hS (lv_sub hl [0, 3] rfl))
      · exact RG_dead (RG_eq1 h_12 (RG_k (-1) (-1) rfl) c_21 (a' := 0) (b' := (-1)) (by decide +kernel)) (by decide +kernel)
  have J65b : ∀ (j65b_l5 : Int32) (j65b_h1_f2 : Int32) (j65b_h1_f3 : Int32) (g_h0_f1 : RG h0_f1 0 240) (g_h1_f1 : RG h1_f1 1 240) (g_h1_f2 : RG h1_f2 0 240) (g_h1_f3 : RG h1_f3 (-1) 240) (g_j65b_h1_f2 : RG j65b_h1_f2 0 240) (g_j65b_h1_f3 : RG j65b_h1_f3 (-1) 240) (g_j65b_l5 : RG j65b_l5 (-1) 9999) (H : Heap) (locs : List Loc) (ls : Array Slot) (hP : va_P (dC, dI) vwCl (wd_c_X4_readAtom_6 h1 h1_0 h1_f1 j65b_h1_f2 j65b_h1_f3 h1_0 h1_0k h1_0c h0 h0_0 h0_f1 h0_2 h0_0 h0_0k h0_0c) H) (hD : va_D A (wd_c_X4_readAtom_6 h1 h1_0 h1_f1 j65b_h1_f2 j65b_h1_f3 h1_0 h1_0k h1_0c h0 h0_0 h0_f1 h0_2 h0_0 h0_0k h0_0c)) (hS : va_S A s.heap H locs) (hl : lv_has ls 6 [(5, .int j65b_l5), (0, .ref h0)]), G H locs (F0 m 65 ls []) := by
    as_aux_lemma =>
    intro j65b_l5 j65b_h1_f2 j65b_h1_f3 g_h0_f1 g_h1_f1 g_h1_f2 g_h1_f3 g_j65b_h1_f2 g_j65b_h1_f3 g_j65b_l5 H locs ls hP hD hS hl
    refine hG _ _ _ ?_
    refine lv_aload_n hx hb dX4_readAtom_65 rfl (lv_at hl 1 rfl) ?_
    refine lv_iload hx hb dX4_readAtom_66 (lv_at hl 0 rfl) ?_
    obtain ⟨hPc, hDc, hFc, hqc⟩ := cl_cut (wc := (wd_c_X4_emit_1 h0 h0_0 h0_f1 h0_2 h0_0 h0_0k h0_0c)) hP hD hS hA [2, 3] (by decide +kernel) rfl
    have hKc := hK.sub (tys' := [(h0_0k, .int)]) [1] rfl
    have hrv := va_recv hKc hPc (ci := 4) (q0 := 0) rfl rfl
    refine va_callv (va_runV (As := [.int j65b_l5]) (rest := []) ⟨hx, hb, hml, hown, hts⟩ (c_X4_emit_1 l dC dI H.size h0 j65b_l5 h0_0 h0_f1 h0_2 h0_0k h0_0c (RG_w g_j65b_l5 (by decide +kernel)) g_h0_f1) (cwV 1 hts gf_c_X4_readAtom_6_c_X4_emit_1 rfl rfl rfl mdV_X4_emit ⟨Nat.le_of_ble_eq_true rfl, Nat.le_of_ble_eq_true rfl⟩) ⟨fun a U g mk q => by obtain ⟨q0, q1, qP, qK, qD⟩ := q; exact ⟨q0, q1, qP, va_K.moved (u := U) (U := U.calling g mk a) (Vm.Alike.refl U.vm) qK, qD⟩, hrv, fun U hU hW => ⟨rfl, by rw [hU], by rw [hU]; exact hPc, va_K.moved hW.alike hKc, hDc.weaken (fun _ _ _ _ => trivial)⟩⟩ rfl rfl hl.1 rfl (lv_room (Nat.le_of_ble_eq_true rfl)) dX4_readAtom_68 ⟨Nat.le_of_ble_eq_true rfl, Nat.le_of_ble_eq_true rfl⟩) hS (fun q _ h => hFc q h) hFc (fun u t H1 locs ht hvm hw hB hz1 hk1 hS => ?_)
    obtain ⟨x_23, w_24⟩ := u
    obtain ⟨hP1, hK1, hD1⟩ := hB
    rw [ht] at hP1
    obtain ⟨hP, hD⟩ := cl_put (w1 := (wd_c_X4_emit_1 h0 h0_0 x_23 h0_2 h0_0 h0_0k w_24)) (nw := (wd_c_X4_readAtom_6 h1 h1_0 h1_f1 j65b_h1_f2 j65b_h1_f3 h1_0 h1_0k h1_0c h0 h0_0 x_23 h0_2 h0_0 h0_0k w_24)) hP hD [2, 3] [0, 1, 4, 5] 4 rfl hqc (by decide +kernel) rfl hk1 hFc hP1 hD1
    generalize H1 = H at hP hS ⊢
    as_aux_lemma =>
    have h_25 := hw
    refine lv_goto (tgt := 105) hx hb dX4_readAtom_71 rfl ?_
    have hK9 := hK.sub (tys' := []) [] rfl
    exact W.vret hx hb hr (fun t ht hW => ⟨⟨(j65b_h1_f2, j65b_h1_f3, x_23, w_24), rfl, ⟨g_j65b_h1_f2, g_j65b_h1_f3, (RG_w h_25 (by decide +kernel))⟩, by rw [ht]; exact hP, va_K.moved hW.alike hK9, hD⟩, hS.F ht⟩) hS.2.2 dX4_readAtom_105
  have J20b : ∀ (j20b_l3 : Int32) (j20b_h1_f2 : Int32) (g_h0_f1 : RG h0_f1 0 240) (g_h1_f1 : RG h1_f1 1 240) (g_h1_f2 : RG h1_f2 0 240) (g_h1_f3 : RG h1_f3 (-1) 240) (g_j20b_h1_f2 : RG j20b_h1_f2 0 239) (g_j20b_l3 : RG j20b_l3 0 255) (H : Heap) (locs : List Loc) (ls : Array Slot) (hP : va_P (dC, dI) vwCl (wd_c_X4_readAtom_6 h1 h1_0 h1_f1 j20b_h1_f2 h1_f3 h1_0 h1_0k h1_0c h0 h0_0 h0_f1 h0_2 h0_0 h0_0k h0_0c) H) (hD : va_D A (wd_c_X4_readAtom_6 h1 h1_0 h1_f1 j20b_h1_f2 h1_f3 h1_0 h1_0k h1_0c h0 h0_0 h0_f1 h0_2 h0_0 h0_0k h0_0c)) (hS : va_S A s.heap H locs) (hl : lv_has ls 6 [(3, .int j20b_l3), (0, .ref h0), (1, .ref h1), (2, .int 6)]), G H locs (F0 m 20 ls [.int (-1)]) := by
    as_aux_lemma =>
    intro j20b_l3 j20b_h1_f2 g_h0_f1 g_h1_f1 g_h1_f2 g_h1_f3 g_j20b_h1_f2 g_j20b_l3 H locs ls hP hD hS hl
    refine hG _ _ _ ?_
    refine lv_istore (lv' := [(4, .int (-1)), (3, .int j20b_l3), (0, .ref h0), (1, .ref h1), (2, .int 6)]) hx hb dX4_readAtom_20 hl (Nat.le_of_ble_eq_true rfl) rfl (fun ls hl => ?_)
    refine lv_iload hx hb dX4_readAtom_22 (lv_at hl 0 rfl) ?_
    refine lv_if_lt (tgt := 42) hx hb dX4_readAtom_24 rfl (fun c_26 => ?_) (fun c_26 => absurd c_26 (by decide +kernel))
    refine lv_iload_n hx hb dX4_readAtom_42 rfl (lv_at hl 1 rfl) ?_
    refine lv_bipush (v := 91) hx hb dX4_readAtom_43 kc_bipush_91 ?_
    refine lv_icmp_eq (tgt := 74) hx hb dX4_readAtom_45 rfl (fun c_27 => ?_) (fun c_27 => ?_)
    · have g_28 : RG j20b_l3 91 91 := RG_eq1 g_j20b_l3 (RG_k 91 91 rfl) c_27 (by decide +kernel)
      refine lv_iload_n hx hb dX4_readAtom_74 rfl (lv_at hl 4 rfl) ?_
      refine lv_bipush (v := 6) hx hb dX4_readAtom_75 kc_bipush_6 ?_
      refine lv_icmp_lt (tgt := 87) hx hb dX4_readAtom_77 rfl (fun c_29 => absurd c_29 (by decide +kernel)) (fun c_29 => ?_)
      refine lv_aload_n hx hb dX4_readAtom_80 rfl (lv_at hl 3 rfl) ?_
      obtain ⟨hPc, hDc, hFc, hqc⟩ := cl_cut (wc := (wd_c_X9_refuseHere h1 h1_0 h1_f1 j20b_h1_f2 h1_f3)) hP hD hS hA [0] (by decide +kernel) rfl
      have hKc := hK.sub (tys' := []) [] rfl
      have hrv := va_recv hKc hPc (ci := 9) (q0 := 0) rfl rfl
      refine va_callv (va_runV (As := []) (rest := []) ⟨hx, hb, hml, hown, hts⟩ (c_X9_refuseHere l dC dI H.size h1 h1_0 h1_f1 j20b_h1_f2 h1_f3 (RG_w g_h1_f1 (by decide +kernel)) (RG_w g_j20b_h1_f2 (by decide +kernel)) g_h1_f3) (cwV 0 hts gf_c_X4_readAtom_6_c_X9_refuseHere rfl rfl rfl mdV_X9_refuseHere ⟨Nat.le_of_ble_eq_true rfl, Nat.le_of_ble_eq_true rfl⟩) ⟨fun a U g mk q => by obtain ⟨q0, q1, qP, qK, qD⟩ := q; exact ⟨q0, q1, qP, va_K.moved (u := U) (U := U.calling g mk a) (Vm.Alike.refl U.vm) qK, qD⟩, hrv, fun U hU hW => ⟨rfl, by rw [hU], by rw [hU]; exact hPc, va_K.moved hW.alike hKc, hDc.weaken (fun _ _ _ _ => trivial)⟩⟩ rfl rfl hl.1 rfl (lv_room (Nat.le_of_ble_eq_true rfl)) dX4_readAtom_81 ⟨Nat.le_of_ble_eq_true rfl, Nat.le_of_ble_eq_true rfl⟩) hS (fun q _ h => hFc q h) hFc (fun x_31 t H1 locs ht hvm hw hB hz1 hk1 hS => ?_)
      as_aux_lemma =>
      obtain ⟨hP1, hK1, hD1⟩ := hB
      rw [ht] at hP1
      obtain ⟨hP, hD⟩ := cl_put (w1 := (wd_c_X9_refuseHere h1 h1_0 h1_f1 j20b_h1_f2 x_31)) (nw := (wd_c_X4_readAtom_6 h1 h1_0 h1_f1 j20b_h1_f2 x_31 h1_0 h1_0k h1_0c h0 h0_0 h0_f1 h0_2 h0_0 h0_0k h0_0c)) hP hD [0] [4, 1, 2, 3] 4 rfl hqc (by decide +kernel) rfl hk1 hFc hP1 hD1
      generalize H1 = H at hP hS ⊢
      as_aux_lemma =>
      have h_32 := hw
      refine lv_goto (tgt := 105) hx hb dX4_readAtom_84 rfl ?_
      have hK9 := hK.sub (tys' := []) [] rfl
      exact W.vret hx hb hr (fun t ht hW => ⟨⟨(j20b_h1_f2, x_31, h0_f1, h0_0c), rfl, ⟨(RG_w g_j20b_h1_f2 (by decide +kernel)), (RG_w h_32 (by decide +kernel)), g_h0_f1⟩, by rw [ht]; exact hP, va_K.moved hW.alike hK9, hD⟩, hS.F ht⟩) hS.2.2 dX4_readAtom_105
    · refine lv_aload_n hx hb dX4_readAtom_48 rfl (lv_at hl 3 rfl) ?_
      refine lv_iconst (v := 4) hx hb dX4_readAtom_49 kc_iconst_4 ?_
      obtain ⟨hPc, hDc, hFc, hqc⟩ := cl_cut (wc := (wd_c_X9_number_1 h1 h1_0 h1_f1 j20b_h1_f2 h1_f3 h1_0 h1_0k h1_0c)) hP hD hS hA [0, 1] (by decide +kernel) rfl
      have hKc := hK.sub (tys' := [(h1_0k, .int)]) [0] rfl
      have hrv := va_recv hKc hPc (ci := 9) (q0 := 0) rfl rfl
      refine va_calli (va_runV (As := [.int 4]) (rest := []) ⟨hx, hb, hml, hown, hts⟩ (c_X9_number_1 l dC dI H.size h1 h1_0 h1_f1 j20b_h1_f2 h1_f3 h1_0k h1_0c (RG_w g_h1_f1 (by decide +kernel)) (RG_w g_j20b_h1_f2 (by decide +kernel)) g_h1_f3 a_h1_0c) (cwV 1 hts gf_c_X4_readAtom_6_c_X9_number_1 rfl rfl rfl mdV_X9_number ⟨Nat.le_of_ble_eq_true rfl, Nat.le_of_ble_eq_true rfl⟩) ⟨fun a U g mk q => by obtain ⟨q0, q1, qP, qK, qD⟩ := q; exact ⟨q0, q1, qP, va_K.moved (u := U) (U := U.calling g mk a) (Vm.Alike.refl U.vm) qK, qD⟩, hrv, fun U hU hW => ⟨rfl, by rw [hU], by rw [hU]; exact hPc, va_K.moved hW.alike hKc, hDc.weaken (fun _ _ _ _ => trivial)⟩⟩ rfl rfl hl.1 rfl (lv_room (Nat.le_of_ble_eq_true rfl)) dX4_readAtom_50 ⟨Nat.le_of_ble_eq_true rfl, Nat.le_of_ble_eq_true rfl⟩) hS (fun q _ h => hFc q h) hFc (fun r_33 x_34 t H1 locs ht hvm hw hB hz1 hk1 hS => ?_)
      obtain ⟨hP1, hK1, hD1⟩ := hB
      rw [ht] at hP1
      obtain ⟨hP, hD⟩ := cl_put (w1 := (wd_c_X9_number_1 h1 h1_0 h1_f1 x_34 h1_f3 h1_0 h1_0k h1_0c)) (nw := (wd_c_X4_readAtom_6 h1 h1_0 h1_f1 x_34 h1_f3 h1_0 h1_0k h1_0c h0 h0_0 h0_f1 h0_2 h0_0 h0_0k h0_0c)) hP hD [0, 1] [4, 5, 2, 3] 4 rfl hqc (by decide +kernel) rfl hk1 hFc hP1 hD1
      generalize H1 = H at hP hS ⊢
      as_aux_lemma =>
      rcases hw with ⟨h_35, h_36, h_37⟩ | ⟨h_38, h_39, h_40, h_41, h_42⟩
      · rw [h_35]
        refine lv_istore (lv' := [(5, .int (-1)), (4, .int (-1)), (3, .int j20b_l3), (0, .ref h0), (1, .ref h1), (2, .int 6)]) hx hb dX4_readAtom_53 hl (Nat.le_of_ble_eq_true rfl) rfl (fun ls hl => ?_)
        refine lv_iload hx hb dX4_readAtom_55 (lv_at hl 0 rfl) ?_
        refine lv_iconst (v := (-1)) hx hb dX4_readAtom_57 kc_iconst_m1 ?_
        refine lv_icmp_ne (tgt := 65) hx hb dX4_readAtom_58 rfl (fun c_43 => absurd c_43 (by decide +kernel)) (fun c_43 => ?_)
        refine lv_aload_n hx hb dX4_readAtom_61 rfl (lv_at hl 4 rfl) ?_
        obtain ⟨hPc, hDc, hFc, hqc⟩ := cl_cut (wc := (wd_c_X9_refuseHere h1 h1_0 h1_f1 x_34 h1_f3)) hP hD hS hA [0] (by decide +kernel) rfl
        have hKc := hK.sub (tys' := []) [] rfl
        have hrv := va_recv hKc hPc (ci := 9) (q0 := 0) rfl rfl
        refine va_callv (va_runV (As := []) (rest := []) ⟨hx, hb, hml, hown, hts⟩ (c_X9_refuseHere l dC dI H.size h1 h1_0 h1_f1 x_34 h1_f3 (RG_w g_h1_f1 (by decide +kernel)) h_36 g_h1_f3) (cwV 0 hts gf_c_X4_readAtom_6_c_X9_refuseHere rfl rfl rfl mdV_X9_refuseHere ⟨Nat.le_of_ble_eq_true rfl, Nat.le_of_ble_eq_true rfl⟩) ⟨fun a U g mk q => by obtain ⟨q0, q1, qP, qK, qD⟩ := q; exact ⟨q0, q1, qP, va_K.moved (u := U) (U := U.calling g mk a) (Vm.Alike.refl U.vm) qK, qD⟩, hrv, fun U hU hW => ⟨rfl, by rw [hU], by rw [hU]; exact hPc, va_K.moved hW.alike hKc, hDc.weaken (fun _ _ _ _ => trivial)⟩⟩ rfl rfl hl.1 rfl (lv_room (Nat.le_of_ble_eq_true rfl)) dX4_readAtom_62 ⟨Nat.le_of_ble_eq_true rfl, Nat.le_of_ble_eq_true rfl⟩) hS (fun q _ h => hFc q h) hFc (fun x_45 t H1 locs ht hvm hw hB hz1 hk1 hS => ?_)
        obtain ⟨hP1, hK1, hD1⟩ := hB
        rw [ht] at hP1
        obtain ⟨hP, hD⟩ := cl_put (w1 := (wd_c_X9_refuseHere h1 h1_0 h1_f1 x_34 x_45)) (nw := (wd_c_X4_readAtom_6 h1 h1_0 h1_f1 x_34 x_45 h1_0 h1_0k h1_0c h0 h0_0 h0_f1 h0_2 h0_0 h0_0k h0_0c)) hP hD [0] [4, 1, 2, 3] 4 rfl hqc (by decide +kernel) rfl hk1 hFc hP1 hD1
        generalize H1 = H at hP hS ⊢
        as_aux_lemma =>
        have h_46 := hw
        exact hU _ _ _ (J65b (-1) x_34 x_45 g_h0_f1 g_h1_f1 g_h1_f2 g_h1_f3 h_36 (RG_w h_46 (by decide +kernel)) (RG_w (RG_k (-1) (-1) rfl) (by decide +kernel)) _ _ _ hP hD hS (lv_sub hl [0, 3] rfl))
      · refine lv_istore (lv' := [(5, .int r_33), (4, .int (-1)), (3, .int j20b_l3), (0, .ref h0), (1, .ref h1), (2, .int 6)]) hx hb dX4_readAtom_53 hl (Nat.le_of_ble_eq_true rfl) rfl (fun ls hl => ?_)
        refine lv_iload hx hb dX4_readAtom_55 (lv_at hl 0 rfl) ?_
        refine lv_iconst (v := (-1)) hx hb dX4_readAtom_57 kc_iconst_m1 ?_
        refine lv_icmp_ne (tgt := 65) hx hb dX4_readAtom_58 rfl (fun c_47 => ?_) (fun c_47 => ?_)
        · exact hU _ _ _ (J65b r_33 x_34 h1_f3 g_h0_f1 g_h1_f1 g_h1_f2 g_h1_f3 (RG_w h_39 (by decide +kernel)) g_h1_f3 (RG_w h_38 (by decide +kernel)) _ _ _ hP hD hS (lv_sub hl [0, 3] rfl))
        · exact RG_dead (RG_eq1 h_38 (RG_k (-1) (-1) rfl) c_47 (a' := 0) (b' := (-1)) (by decide +kernel)) (by decide +kernel)
  have J20c : ∀ (j20c_l3 : Int32) (j20c_s0 : Int32) (j20c_h1_f2 : Int32) (g_h0_f1 : RG h0_f1 0 240) (g_h1_f1 : RG h1_f1 1 240) (g_h1_f2 : RG h1_f2 0 240) (g_h1_f3 : RG h1_f3 (-1) 240) (g_j20c_h1_f2 : RG j20c_h1_f2 0 239) (g_j20c_l3 : RG j20c_l3 0 255) (g_j20c_s0 : RG j20c_s0 0 5) (H : Heap) (locs : List Loc) (ls : Array Slot) (hP : va_P (dC, dI) vwCl (wd_c_X4_readAtom_6 h1 h1_0 h1_f1 j20c_h1_f2 h1_f3 h1_0 h1_0k h1_0c h0 h0_0 h0_f1 h0_2 h0_0 h0_0k h0_0c) H) (hD : va_D A (wd_c_X4_readAtom_6 h1 h1_0 h1_f1 j20c_h1_f2 h1_f3 h1_0 h1_0k h1_0c h0 h0_0 h0_f1 h0_2 h0_0 h0_0k h0_0c)) (hS : va_S A s.heap H locs) (hl : lv_has ls 6 [(3, .int j20c_l3), (0, .ref h0), (1, .ref h1), (2, .int 6)]), G H locs (F0 m 20 ls [.int j20c_s0]) := by
    as_aux_lemma =>
    intro j20c_l3 j20c_s0 j20c_h1_f2 g_h0_f1 g_h1_f1 g_h1_f2 g_h1_f3 g_j20c_h1_f2 g_j20c_l3 g_j20c_s0 H locs ls hP hD hS hl
    refine hG _ _ _ ?_
    refine lv_istore (lv' := [(4, .int j20c_s0), (3, .int j20c_l3), (0, .ref h0), (1, .ref h1), (2, .int 6)]) hx hb dX4_readAtom_20 hl (Nat.le_of_ble_eq_true rfl) rfl (fun ls hl => ?_)
    refine lv_iload hx hb dX4_readAtom_22 (lv_at hl 0 rfl) ?_
    refine lv_if_lt (tgt := 42) hx hb dX4_readAtom_24 rfl (fun c_48 => ?_) (fun c_48 => ?_)
    · have g_49 : RG j20c_s0 0 (-1) := RG_lt1 g_j20c_s0 (RG_k 0 0 rfl) c_48 (by decide +kernel)
      exact RG_dead (RG_lt1 g_j20c_s0 (RG_k 0 0 rfl) c_48 (b' := (-1)) (by decide +kernel)) (by decide +kernel)
    · have d_50 := Int32.not_lt.mp c_48
      refine lv_aload_n hx hb dX4_readAtom_27 rfl (lv_at hl 3 rfl) ?_
      obtain ⟨hPc, hDc, hFc, hqc⟩ := cl_cut (wc := (wd_c_X9_skip h1 h1_0 h1_f1 j20c_h1_f2 h1_f3)) hP hD hS hA [0] (by decide +kernel) rfl
      have hKc := hK.sub (tys' := []) [] rfl
      have hrv := va_recv hKc hPc (ci := 9) (q0 := 0) rfl rfl
      refine va_callv (va_runV (As := []) (rest := []) ⟨hx, hb, hml, hown, hts⟩ (c_X9_skip l dC dI H.size h1 h1_0 h1_f1 j20c_h1_f2 h1_f3 (RG_w g_h1_f1 (by decide +kernel)) g_j20c_h1_f2 g_h1_f3) (cwV 0 hts gf_c_X4_readAtom_6_c_X9_skip rfl rfl rfl mdV_X9_skip ⟨Nat.le_of_ble_eq_true rfl, Nat.le_of_ble_eq_true rfl⟩) ⟨fun a U g mk q => by obtain ⟨q0, q1, qP, qK, qD⟩ := q; exact ⟨q0, q1, qP, va_K.moved (u := U) (U := U.calling g mk a) (Vm.Alike.refl U.vm) qK, qD⟩, hrv, fun U hU hW => ⟨rfl, by rw [hU], by rw [hU]; exact hPc, va_K.moved hW.alike hKc, hDc.weaken (fun _ _ _ _ => trivial)⟩⟩ rfl rfl hl.1 rfl (lv_room (Nat.le_of_ble_eq_true rfl)) dX4_readAtom_28 ⟨Nat.le_of_ble_eq_true rfl, Nat.le_of_ble_eq_true rfl⟩) hS (fun q _ h => hFc q h) hFc (fun x_52 t H1 locs ht hvm hw hB hz1 hk1 hS => ?_)
      obtain ⟨hP1, hK1, hD1⟩ := hB
      rw [ht] at hP1
      obtain ⟨hP, hD⟩ := cl_put (w1 := (wd_c_X9_skip h1 h1_0 h1_f1 x_52 h1_f3)) (nw := (wd_c_X4_readAtom_6 h1 h1_0 h1_f1 x_52 h1_f3 h1_0 h1_0k h1_0c h0 h0_0 h0_f1 h0_2 h0_0 h0_0k h0_0c)) hP hD [0] [4, 1, 2, 3] 4 rfl hqc (by decide +kernel) rfl hk1 hFc hP1 hD1
      generalize H1 = H at hP hS ⊢
      as_aux_lemma =>
      rcases hw with ⟨h_53, h_54, h_55⟩
      refine lv_aload_n hx hb dX4_readAtom_31 rfl (lv_at hl 2 rfl) ?_
      refine lv_iconst (v := (-1)) hx hb dX4_readAtom_32 kc_iconst_m1 ?_
      refine lv_iload hx hb dX4_readAtom_33 (lv_at hl 0 rfl) ?_
      refine lv_isub hx hb dX4_readAtom_35 ?_
      refine lv_topi (fun x_56 ex_56 => ?_)
      have g_57 : RG x_56 (-6) (-1) := RG_sub ex_56 (RG_k (-1) (-1) rfl) g_j20c_s0 (by decide +kernel)
      obtain ⟨hPc, hDc, hFc, hqc⟩ := cl_cut (wc := (wd_c_X4_emit h0 h0_0 h0_f1 h0_2 h0_0 h0_0k h0_0c)) hP hD hS hA [2, 3] (by decide +kernel) rfl
      have hKc := hK.sub (tys' := [(h0_0k, .int)]) [1] rfl
      have hrv := va_recv hKc hPc (ci := 4) (q0 := 0) rfl rfl
      refine va_callv (va_runV (As := [.int x_56]) (rest := []) ⟨hx, hb, hml, hown, hts⟩ (c_X4_emit l dC dI H.size h0 x_56 h0_0 h0_f1 h0_2 h0_0k h0_0c g_h0_f1) (cwV 1 hts gf_c_X4_readAtom_6_c_X4_emit rfl rfl rfl mdV_X4_emit ⟨Nat.le_of_ble_eq_true rfl, Nat.le_of_ble_eq_true rfl⟩) ⟨fun a U g mk q => by obtain ⟨q0, q1, qP, qK, qD⟩ := q; exact ⟨q0, q1, qP, va_K.moved (u := U) (U := U.calling g mk a) (Vm.Alike.refl U.vm) qK, qD⟩, hrv, fun U hU hW => ⟨rfl, by rw [hU], by rw [hU]; exact hPc, va_K.moved hW.alike hKc, hDc.weaken (fun _ _ _ _ => trivial)⟩⟩ rfl rfl hl.1 rfl (lv_room (Nat.le_of_ble_eq_true rfl)) dX4_readAtom_36 ⟨Nat.le_of_ble_eq_true rfl, Nat.le_of_ble_eq_true rfl⟩) hS (fun q _ h => hFc q h) hFc (fun u t H1 locs ht hvm hw hB hz1 hk1 hS => ?_)
      obtain ⟨x_59, w_60⟩ := u
      obtain ⟨hP1, hK1, hD1⟩ := hB
      rw [ht] at hP1
      obtain ⟨hP, hD⟩ := cl_put (w1 := (wd_c_X4_emit h0 h0_0 x_59 h0_2 h0_0 h0_0k w_60)) (nw := (wd_c_X4_readAtom_6 h1 h1_0 h1_f1 x_52 h1_f3 h1_0 h1_0k h1_0c h0 h0_0 x_59 h0_2 h0_0 h0_0k w_60)) hP hD [2, 3] [0, 1, 4, 5] 4 rfl hqc (by decide +kernel) rfl hk1 hFc hP1 hD1
      generalize H1 = H at hP hS ⊢
      as_aux_lemma =>
      have h_61 := hw
      refine lv_goto (tgt := 105) hx hb dX4_readAtom_39 rfl ?_
      have hK9 := hK.sub (tys' := []) [] rfl
      exact W.vret hx hb hr (fun t ht hW => ⟨⟨(x_52, h1_f3, x_59, w_60), rfl, ⟨(RG_w h_53 (by decide +kernel)), g_h1_f3, (RG_w h_61 (by decide +kernel))⟩, by rw [ht]; exact hP, va_K.moved hW.alike hK9, hD⟩, hS.F ht⟩) hS.2.2 dX4_readAtom_105
  refine hG _ _ _ ?_
  refine lv_aload_n hx hb dX4_readAtom_0 rfl (lv_at hl 1 rfl) ?_
  obtain ⟨hPc, hDc, hFc, hqc⟩ := cl_cut (wc := (wd_c_X9_peek h1 h1_0 h1_f1 h1_f2 h1_f3 h1_0 h1_0k h1_0c)) hP hD hS hA [0, 1] (by decide +kernel) rfl
  have hKc := hK.sub (tys' := [(h1_0k, .int)]) [0] rfl
  have hrv := va_recv hKc hPc (ci := 9) (q0 := 0) rfl rfl
  refine va_calli (va_runV (As := []) (rest := []) ⟨hx, hb, hml, hown, hts⟩ (c_X9_peek l dC dI H.size h1 h1_0 h1_f1 h1_f2 h1_f3 h1_0k h1_0c g_h1_f1 g_h1_f2 g_h1_f3 a_h1_0c) (cwV 0 hts gf_c_X4_readAtom_6_c_X9_peek rfl rfl rfl mdV_X9_peek ⟨Nat.le_of_ble_eq_true rfl, Nat.le_of_ble_eq_true rfl⟩) ⟨fun a U g mk q => by obtain ⟨q0, q1, qP, qK, qD⟩ := q; exact ⟨q0, q1, qP, va_K.moved (u := U) (U := U.calling g mk a) (Vm.Alike.refl U.vm) qK, qD⟩, hrv, fun U hU hW => ⟨rfl, by rw [hU], by rw [hU]; exact hPc, va_K.moved hW.alike hKc, hDc.weaken (fun _ _ _ _ => trivial)⟩⟩ rfl rfl hl.1 rfl (lv_room (Nat.le_of_ble_eq_true rfl)) dX4_readAtom_1 ⟨Nat.le_of_ble_eq_true rfl, Nat.le_of_ble_eq_true rfl⟩) hS (fun q _ h => hFc q h) hFc (fun r_62 x_63 t H1 locs ht hvm hw hB hz1 hk1 hS => ?_)
  obtain ⟨hP1, hK1, hD1⟩ := hB
  rw [ht] at hP1
  obtain ⟨hP, hD⟩ := cl_put (w1 := (wd_c_X9_peek h1 h1_0 h1_f1 x_63 h1_f3 h1_0 h1_0k h1_0c)) (nw := (wd_c_X4_readAtom_6 h1 h1_0 h1_f1 x_63 h1_f3 h1_0 h1_0k h1_0c h0 h0_0 h0_f1 h0_2 h0_0 h0_0k h0_0c)) hP hD [0, 1] [4, 5, 2, 3] 4 rfl hqc (by decide +kernel) rfl hk1 hFc hP1 hD1
  generalize H1 = H at hP hS ⊢
  as_aux_lemma =>
  rcases hw with ⟨h_64, h_65, h_66⟩ | ⟨h_67, h_68, h_69, h_70⟩
  · rw [h_64]
    refine lv_istore_n (lv' := [(3, .int (-1)), (0, .ref h0), (1, .ref h1), (2, .int 6)]) hx hb dX4_readAtom_4 rfl hl (Nat.le_of_ble_eq_true rfl) rfl (fun ls hl => ?_)
    refine lv_iload_n hx hb dX4_readAtom_5 rfl (lv_at hl 0 rfl) ?_
    refine lv_if_ge (tgt := 13) hx hb dX4_readAtom_6 rfl (fun c_71 => absurd c_71 (by decide +kernel)) (fun c_71 => ?_)
    refine lv_iconst (v := (-1)) hx hb dX4_readAtom_9 kc_iconst_m1 ?_
    refine lv_goto (tgt := 20) hx hb dX4_readAtom_10 rfl ?_
    exact hU _ _ _ (J20 x_63 g_h0_f1 g_h1_f1 g_h1_f2 g_h1_f3 h_65 _ _ _ hP hD hS (lv_sub hl [0, 1, 2, 3] rfl))
  · refine lv_istore_n (lv' := [(3, .int r_62), (0, .ref h0), (1, .ref h1), (2, .int 6)]) hx hb dX4_readAtom_4 rfl hl (Nat.le_of_ble_eq_true rfl) rfl (fun ls hl => ?_)
    refine lv_iload_n hx hb dX4_readAtom_5 rfl (lv_at hl 0 rfl) ?_
    refine lv_if_ge (tgt := 13) hx hb dX4_readAtom_6 rfl (fun c_72 => ?_) (fun c_72 => ?_)
    · refine va_ldcS hx hb hown hE_32 dX4_readAtom_13 ?_
      refine lv_iload_n hx hb dX4_readAtom_15 rfl (lv_at hl 0 rfl) ?_
      refine lv_i2c hx hb dX4_readAtom_16 rfl ?_
      as_aux_lemma =>
      refine lv_topi (fun x_73 ex_73 => ?_)
      have g_74 : RG x_73 0 65535 := RG_i2c ex_73
      obtain ⟨hPc, hDc, hFc, hqc⟩ := cl_cut (wc := []) hP hD hS hA [] (by decide +kernel) rfl
      have hKc := hK.sub (tys' := []) [] rfl
      have hrv := bv_Orecv hE_33 hS
      refine va_calli (va_runV (As := [.int x_73]) (rest := []) ⟨hx, hb, hml, hown, hts⟩ (c_J0_indexOf_0f7a4_4 l dC dI H.size ts4 x_73 tv4 g_74) (cwV 1 hts gf_c_X4_readAtom_6_c_J0_indexOf_0f7a4_4 rfl rfl rfl mdV_J0_indexOf_0f7a4 ⟨Nat.le_of_ble_eq_true rfl, Nat.le_of_ble_eq_true rfl⟩) ⟨fun a U g mk q => by obtain ⟨q0, q1, qP, qK, qD, qE0, qE1, qE2, qE3, qE4⟩ := q; exact ⟨q0, q1, qP, va_K.moved (u := U) (U := U.calling g mk a) (Vm.Alike.refl U.vm) qK, qD, va_Z.moved (u := U) (U := U.calling g mk a) (Vm.Alike.refl U.vm) qE0, va_OF.moved (u := U) (U := U.calling g mk a) (Vm.Alike.refl U.vm) qE1, va_O.moved (u := U) (U := U.calling g mk a) (Vm.Alike.refl U.vm) qE2, va_OF.moved (u := U) (U := U.calling g mk a) (Vm.Alike.refl U.vm) qE3, va_T.moved (u := U) (U := U.calling g mk a) (Vm.Alike.refl U.vm) qE4⟩, hrv, fun U hU hW => ⟨rfl, by rw [hU], by rw [hU]; exact hPc, va_K.moved hW.alike hKc, hDc.weaken (fun _ _ _ _ => trivial), va_Z.moved hW.alike (by rw [hU]; exact (hE_10.kept hS.2.1).narrow hFc), va_OF.moved hW.alike (by rw [hU]; exact (hE_34.kept hS.2.1).narrow hFc), va_O.moved hW.alike (by rw [hU]; exact (hE_33.kept hS.2.1).narrow hFc), va_OF.moved hW.alike (by rw [hU]; exact (hE_35.kept hS.2.1).narrow hFc), va_T.moved hW.alike (by rw [hU]; exact (hE_36.kept hS.2.1).narrow hFc)⟩⟩ rfl rfl hl.1 rfl (lv_room (Nat.le_of_ble_eq_true rfl)) dX4_readAtom_17 ⟨Nat.le_of_ble_eq_true rfl, Nat.le_of_ble_eq_true rfl⟩) hS (fun q _ h => hFc q h) hFc (fun r_75 u t H1 locs ht hvm hw hB hz1 hk1 hS => ?_)
      obtain ⟨hP1, hK1, hD1⟩ := hB
      rw [ht] at hP1
      have hP := bv_still hP hk1
      generalize H1 = H at hP hS ⊢
      as_aux_lemma =>
      rcases hw with h_76 | ⟨h_77, h_78⟩
      · rw [h_76]
        exact hU _ _ _ (J20b r_62 x_63 g_h0_f1 h_69 g_h1_f2 g_h1_f3 h_68 h_67 _ _ _ hP hD hS (lv_sub hl [0, 1, 2, 3] rfl))
      · exact hU _ _ _ (J20c r_62 r_75 x_63 g_h0_f1 h_69 g_h1_f2 g_h1_f3 h_68 h_67 h_77 _ _ _ hP hD hS (lv_sub hl [0, 1, 2, 3] rfl))
    · have d_79 := Int32.not_le.mp c_72
      have g_80 : RG r_62 0 (-1) := RG_lt1 h_67 (RG_k 0 0 rfl) d_79 (by decide +kernel)
      exact RG_dead (RG_lt1 h_67 (RG_k 0 0 rfl) d_79 (b' := (-1)) (by decide +kernel)) (by decide +kernel)
