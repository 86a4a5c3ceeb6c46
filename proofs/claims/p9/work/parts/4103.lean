noncomputable def wf_c_J0_coder_7d493_8 : List Cond := .code yJ0_coder_7d493 cJ0_coder_7d493 1 (some .byte) :: ([.fieldLink RJ0 38 "java/lang/String" "COMPACT_STRINGS" "Z", .fieldLink RJ0 15 "java/lang/String" "coder" "B"])
set_option maxHeartbeats 4000000 in
set_option maxRecDepth 100000 in
theorem c_J0_coder_7d493_8 (l : Launch) (dC : Nat → ClassId) (dI : Nat → Nat → Nat) (sz : Nat) (ts8 : Nat) : Met l yJ0_coder_7d493 wf_c_J0_coder_7d493_8 ({ frames := 0, cells := 0, slots := 0, locals := 0 }) (va_Pc [.ref ts8] (fun U => U.heap.size = sz ∧ va_P (dC, dI) vwCl [] U.heap ∧ va_K (dC, dI) vwCl [] U ∧ va_D (fun _ => True) [] ∧ va_Z "java/lang/String" "COMPACT_STRINGS" "Z" (.int 1) (va_A [] sz) U U.heap ∧ va_OF "java/lang/String" "coder" "B" (.int 0) ts8 (va_A [] sz) U U.heap)) (va_Qi (fun (r : Int32) (u : Unit) => (r = 0 ∧ r = fx_c_J0_coder_7d493_8)) (fun (u : Unit) t => va_P (dC, dI) vwCl [] t.heap ∧ va_K (dC, dI) vwCl [] t ∧ va_D (va_A [] sz) []) (va_A [] sz)) 0 0 (va_A [] sz) := by
  refine Met.ofW (cc := cJ0_coder_7d493) (maxL := 1) (ret := (some .byte)) (by decide +kernel) rfl ?_
  intro p e s m args below meth c s₁ B hml hv
  obtain ⟨rfl, hsz, hP, hK, hD0, hE_10, hE_54⟩ := hv
  have hx := B.exec
  have hb := B.bytes
  have hr := B.returns
  have hts := atoms_spec (ws := wf_c_J0_coder_7d493_8) B.pre
  have hown : s.vm.findClass RJ0 = some m.cls := findClass_of_methodNamed B.named
  have hlocks := B.notSynchronized
  subst hsz
  have hD := hD0.self (sz := s.heap.size)
  generalize hAe : va_A [] s.heap.size = A at hD hE_10 hE_54 ⊢
  have hA : ∀ q : Nat, s.heap.size ≤ q → A q := fun q h => by rw [← hAe]; exact Or.inr h
  have hP : va_P (dC, dI) vwCl [] s.heap := hP
  have hl := lv_entry ([.ref ts8]) (n := 1) (Nat.le_of_ble_eq_true rfl)
  rw [lg_entry_eq]
  generalize (lg_sl ([.ref ts8]) ++ List.replicate (1 - (lg_sl ([.ref ts8])).length) Slot.unset).toArray = ls at hl ⊢
  have hl : lv_has ls 1 [(0, .ref ts8)] := hl
  obtain ⟨H, hHe⟩ : ∃ H : Heap, s.heap = H := ⟨_, rfl⟩
  have hS : va_S A s.heap H [] := by rw [hHe]; exact va_S.rf
  have hP : va_P (dC, dI) vwCl [] H := by rw [← hHe]; exact hP
  rw [hHe]
  obtain ⟨RES, hR⟩ : ∃ z, fx_c_J0_coder_7d493_8 = z := ⟨_, rfl⟩
  have hEX : RES = fx_c_J0_coder_7d493_8 := hR.symm
  refine va_gets hx hb hE_10 hS hown (hts (.fieldLink RJ0 38 "java/lang/String" "COMPACT_STRINGS" "Z") (List.mem_of_getElem? (i := 1) rfl)) (fun _ h9 => h9) dJ0_coder_7d493_0 ?_
  as_aux_lemma =>
  refine lv_if_eq (tgt := 13) hx hb dJ0_coder_7d493_3 rfl (fun c_1 => absurd c_1 (by decide +kernel)) (fun c_1 => ?_)
  refine lv_aload_n hx hb dJ0_coder_7d493_6 rfl (lv_at hl 0 rfl) ?_
  refine vk_getf hx hb hE_54 hS hown (hts (.fieldLink RJ0 15 "java/lang/String" "coder" "B") (List.mem_of_getElem? (i := 2) rfl)) (fun _ h9 => h9) dJ0_coder_7d493_7 ?_
  refine lv_goto (tgt := 14) hx hb dJ0_coder_7d493_10 rfl ?_
  have hK9 := hK.sub (tys' := []) [] rfl
  exact W.zret (v := 0) hx hb hr rfl (fun t ht hW => ⟨⟨0, (), rfl, ⟨rfl, (hR.trans hEX).symm⟩, by rw [ht]; exact hP, va_K.moved hW.alike hK9, hD⟩, hS.F ht⟩) hS.2.2 dJ0_coder_7d493_14
noncomputable def wf_c_J0_length_8abf5_8 : List Cond := .code yJ0_length_8abf5 cJ0_length_8abf5 1 (some .int) :: ([.fieldLink RJ0 9 "java/lang/String" "value" "[B", .methodLink RJ0 335 yJ0_coder_7d493, .instanceMethod yJ0_coder_7d493, .selects RJ0 yJ0_coder_7d493 yJ0_coder_7d493, .initialized RJ0, .code yJ0_coder_7d493 cJ0_coder_7d493 1 (some .byte), .fieldLink RJ0 38 "java/lang/String" "COMPACT_STRINGS" "Z", .fieldLink RJ0 15 "java/lang/String" "coder" "B"])
set_option maxRecDepth 20000 in
theorem gf_c_J0_length_8abf5_8_c_J0_coder_7d493_8 : GoodIn wf_c_J0_length_8abf5_8 (wsV RJ0 335 RJ0 yJ0_coder_7d493 wf_c_J0_coder_7d493_8) := goodIn_app (gi_l [2, 3, 4, 5] rfl rfl) (gi_cons (j := 6) rfl rfl (gi_l [7, 8] rfl rfl))
set_option maxHeartbeats 4000000 in
set_option maxRecDepth 100000 in
theorem c_J0_length_8abf5_8 (l : Launch) (dC : Nat → ClassId) (dI : Nat → Nat → Nat) (sz : Nat) (ts8 : Nat) (tv8 : Nat) : Met l yJ0_length_8abf5 wf_c_J0_length_8abf5_8 ({ frames := 1, cells := 0, slots := 0, locals := 20 }) (va_Pc [.ref ts8] (fun U => U.heap.size = sz ∧ va_P (dC, dI) vwCl [] U.heap ∧ va_K (dC, dI) vwCl [] U ∧ va_D (fun _ => True) [] ∧ va_OF "java/lang/String" "value" "[B" (.ref tv8) ts8 (va_A [] sz) U U.heap ∧ va_T .byte tv8 4 (fun j => .int ([119, 100, 116, 104].getD j 0)) (va_A [] sz) U U.heap ∧ va_Z "java/lang/String" "COMPACT_STRINGS" "Z" (.int 1) (va_A [] sz) U U.heap ∧ va_OF "java/lang/String" "coder" "B" (.int 0) ts8 (va_A [] sz) U U.heap ∧ va_O "java/lang/String" ts8 (va_A [] sz) U U.heap)) (va_Qi (fun (r : Int32) (u : Unit) => (r = 4 ∧ r = fx_c_J0_length_8abf5_8)) (fun (u : Unit) t => va_P (dC, dI) vwCl [] t.heap ∧ va_K (dC, dI) vwCl [] t ∧ va_D (va_A [] sz) []) (va_A [] sz)) 0 0 (va_A [] sz) := by
  refine Met.ofW (cc := cJ0_length_8abf5) (maxL := 1) (ret := (some .int)) (by decide +kernel) rfl ?_
  intro p e s m args below meth c s₁ B hml hv
  obtain ⟨rfl, hsz, hP, hK, hD0, hE_55, hE_56, hE_10, hE_54, hE_53⟩ := hv
  have hx := B.exec
  have hb := B.bytes
  have hr := B.returns
  have hts := atoms_spec (ws := wf_c_J0_length_8abf5_8) B.pre
  have hown : s.vm.findClass RJ0 = some m.cls := findClass_of_methodNamed B.named
  have hlocks := B.notSynchronized
  subst hsz
  have hD := hD0.self (sz := s.heap.size)
  generalize hAe : va_A [] s.heap.size = A at hD hE_55 hE_56 hE_10 hE_54 hE_53 ⊢
  have hA : ∀ q : Nat, s.heap.size ≤ q → A q := fun q h => by rw [← hAe]; exact Or.inr h
  have hP : va_P (dC, dI) vwCl [] s.heap := hP
  have hl := lv_entry ([.ref ts8]) (n := 1) (Nat.le_of_ble_eq_true rfl)
  rw [lg_entry_eq]
  generalize (lg_sl ([.ref ts8]) ++ List.replicate (1 - (lg_sl ([.ref ts8])).length) Slot.unset).toArray = ls at hl ⊢
  have hl : lv_has ls 1 [(0, .ref ts8)] := hl
  obtain ⟨H, hHe⟩ : ∃ H : Heap, s.heap = H := ⟨_, rfl⟩
  have hS : va_S A s.heap H [] := by rw [hHe]; exact va_S.rf
  have hP : va_P (dC, dI) vwCl [] H := by rw [← hHe]; exact hP
  rw [hHe]
  obtain ⟨RES, hR⟩ : ∃ z, fx_c_J0_length_8abf5_8 = z := ⟨_, rfl⟩
  have hEX : RES = fx_c_J0_length_8abf5_8 := hR.symm
  refine lv_aload_n hx hb dJ0_length_8abf5_0 rfl (lv_at hl 0 rfl) ?_
  as_aux_lemma =>
  refine vk_getf hx hb hE_55 hS hown (hts (.fieldLink RJ0 9 "java/lang/String" "value" "[B") (List.mem_of_getElem? (i := 1) rfl)) (fun _ h9 => h9) dJ0_length_8abf5_1 ?_
  refine va_tlen (v := 4) hx hb hE_56 hS rfl dJ0_length_8abf5_4 ?_
  refine lv_aload_n hx hb dJ0_length_8abf5_5 rfl (lv_at hl 0 rfl) ?_
  obtain ⟨hPc, hDc, hFc, hqc⟩ := cl_cut (wc := []) hP hD hS hA [] (by decide +kernel) rfl
  have hKc := hK.sub (tys' := []) [] rfl
  have hrv := bv_Orecv hE_53 hS
  refine va_calli (va_runV (As := []) (rest := [.int 4]) ⟨hx, hb, hml, hown, hts⟩ (c_J0_coder_7d493_8 l dC dI H.size ts8) (cwV 0 hts gf_c_J0_length_8abf5_8_c_J0_coder_7d493_8 rfl rfl rfl mdV_J0_coder_7d493 ⟨Nat.le_of_ble_eq_true rfl, Nat.le_of_ble_eq_true rfl⟩) ⟨fun a U g mk q => by obtain ⟨q0, q1, qP, qK, qD, qE0, qE1⟩ := q; exact ⟨q0, q1, qP, va_K.moved (u := U) (U := U.calling g mk a) (Vm.Alike.refl U.vm) qK, qD, va_Z.moved (u := U) (U := U.calling g mk a) (Vm.Alike.refl U.vm) qE0, va_OF.moved (u := U) (U := U.calling g mk a) (Vm.Alike.refl U.vm) qE1⟩, hrv, fun U hU hW => ⟨rfl, by rw [hU], by rw [hU]; exact hPc, va_K.moved hW.alike hKc, hDc.weaken (fun _ _ _ _ => trivial), va_Z.moved hW.alike (by rw [hU]; exact (hE_10.kept hS.2.1).narrow hFc), va_OF.moved hW.alike (by rw [hU]; exact (hE_54.kept hS.2.1).narrow hFc)⟩⟩ rfl rfl hl.1 rfl (lv_room (Nat.le_of_ble_eq_true rfl)) dJ0_length_8abf5_6 ⟨Nat.le_of_ble_eq_true rfl, Nat.le_of_ble_eq_true rfl⟩) hS (fun q _ h => hFc q h) hFc (fun r_1 u t H1 locs ht hvm hw hB hz1 hk1 hS => ?_)
  obtain ⟨hP1, hK1, hD1⟩ := hB
  rw [ht] at hP1
  have hP := bv_still hP hk1
  generalize H1 = H at hP hS ⊢
  as_aux_lemma =>
  rcases hw with ⟨h_2, h_3⟩
  have h_3 : r_1 = _ := h_3
  replace hEX := hEX.trans (exc1_eq h_3)
  rw [h_2]
  refine lv_ishr hx hb dJ0_length_8abf5_9 ?_
  refine lv_topi (fun x_4 ex_4 => ?_)
  obtain rfl : x_4 = 4 := ex_4.trans (by decide +kernel)
  have hK9 := hK.sub (tys' := []) [] rfl
  exact W.iret (v := 4) hx hb hr (fun t ht hW => ⟨⟨4, (), rfl, ⟨rfl, (hR.trans hEX).symm⟩, by rw [ht]; exact hP, va_K.moved hW.alike hK9, hD⟩, hS.F ht⟩) hS.2.2 dJ0_length_8abf5_10
noncomputable def wf_c_X12_usual_13 : List Cond := .code yX12_usual cX12_usual 2 (some .int) :: ([])
set_option maxHeartbeats 4000000 in
set_option maxRecDepth 100000 in
theorem c_X12_usual_13 (l : Launch) (dC : Nat → ClassId) (dI : Nat → Nat → Nat) (sz : Nat) (p0 : Int32) (p1 : Int32) (g_p0 : RG p0 115 115) (g_p1 : RG p1 0 0) : Met l yX12_usual wf_c_X12_usual_13 ({ frames := 0, cells := 0, slots := 0, locals := 0 }) (va_Pc [.int p0, .int p1] (fun U => U.heap.size = sz ∧ va_P (dC, dI) vwCl [] U.heap ∧ va_K (dC, dI) vwCl [] U ∧ va_D (fun _ => True) [])) (va_Qi (fun (r : Int32) (u : Unit) => (r = 2 ∧ r = fx_c_X12_usual_13 p0 p1)) (fun (u : Unit) t => va_P (dC, dI) vwCl [] t.heap ∧ va_K (dC, dI) vwCl [] t ∧ va_D (va_A [] sz) []) (va_A [] sz)) 0 0 (va_A [] sz) := by
  refine Met.ofW (cc := cX12_usual) (maxL := 2) (ret := (some .int)) (by decide +kernel) rfl ?_
  intro p e s m args below meth c s₁ B hml hv
  obtain ⟨rfl, hsz, hP, hK, hD0⟩ := hv
  have hx := B.exec
  have hb := B.bytes
  have hr := B.returns
  have hts := atoms_spec (ws := wf_c_X12_usual_13) B.pre
  have hown : s.vm.findClass RX12 = some m.cls := findClass_of_methodNamed B.named
  have hlocks := B.notSynchronized
  subst hsz
  have hD := hD0.self (sz := s.heap.size)
  generalize hAe : va_A [] s.heap.size = A at hD ⊢
  have hA : ∀ q : Nat, s.heap.size ≤ q → A q := fun q h => by rw [← hAe]; exact Or.inr h
  have hP : va_P (dC, dI) vwCl [] s.heap := hP
  have hl := lv_entry ([.int p0, .int p1]) (n := 2) (Nat.le_of_ble_eq_true rfl)
  rw [lg_entry_eq]
  generalize (lg_sl ([.int p0, .int p1]) ++ List.replicate (2 - (lg_sl ([.int p0, .int p1])).length) Slot.unset).toArray = ls at hl ⊢
  have hl : lv_has ls 2 [(0, .int p0), (1, .int p1)] := hl
  obtain ⟨H, hHe⟩ : ∃ H : Heap, s.heap = H := ⟨_, rfl⟩
  have hS : va_S A s.heap H [] := by rw [hHe]; exact va_S.rf
  have hP : va_P (dC, dI) vwCl [] H := by rw [← hHe]; exact hP
  rw [hHe]
  obtain ⟨RES, hR⟩ : ∃ z, fx_c_X12_usual_13 p0 p1 = z := ⟨_, rfl⟩
  have hEX : RES = fx_c_X12_usual_13 p0 p1 := hR.symm
  refine lv_iload_n hx hb dX12_usual_0 rfl (lv_at hl 0 rfl) ?_
  as_aux_lemma =>
  refine lv_bipush (v := 115) hx hb dX12_usual_1 kc_bipush_115 ?_
  refine lv_icmp_ne (tgt := 36) hx hb dX12_usual_3 rfl (fun c_1 => ?_) (fun c_1 => ?_)
  · replace hEX := hEX.trans (if_neg c_1)
    exact RG_dead (RG_ne1 g_p0 (q := 115) rfl c_1 (a' := 116) (b' := 115) (by decide +kernel)) (by decide +kernel)
  · replace hEX := hEX.trans (if_pos c_1)
    refine lv_iload_n hx hb dX12_usual_6 rfl (lv_at hl 1 rfl) ?_
    refine lv_if_ne (tgt := 14) hx hb dX12_usual_7 rfl (fun c_2 => ?_) (fun c_2 => ?_)
    · replace hEX := hEX.trans (if_neg c_2)
      exact RG_dead (RG_ne1 g_p1 (q := 0) rfl c_2 (a' := 1) (b' := 0) (by decide +kernel)) (by decide +kernel)
    · replace hEX := hEX.trans (if_pos c_2)
      refine lv_iconst (v := 2) hx hb dX12_usual_10 kc_iconst_2 ?_
      refine lv_goto (tgt := 35) hx hb dX12_usual_11 rfl ?_
      have hK9 := hK.sub (tys' := []) [] rfl
      exact W.iret (v := 2) hx hb hr (fun t ht hW => ⟨⟨2, (), rfl, ⟨rfl, (hR.trans hEX).symm⟩, by rw [ht]; exact hP, va_K.moved hW.alike hK9, hD⟩, hS.F ht⟩) hS.2.2 dX12_usual_35
noncomputable def wf_c_X12_usual_14 : List Cond := .code yX12_usual cX12_usual 2 (some .int) :: ([])
set_option maxHeartbeats 4000000 in
set_option maxRecDepth 100000 in
theorem c_X12_usual_14 (l : Launch) (dC : Nat → ClassId) (dI : Nat → Nat → Nat) (sz : Nat) (p0 : Int32) (p1 : Int32) (g_p0 : RG p0 115 115) (g_p1 : RG p1 0 1) : Met l yX12_usual wf_c_X12_usual_14 ({ frames := 0, cells := 0, slots := 0, locals := 0 }) (va_Pc [.int p0, .int p1] (fun U => U.heap.size = sz ∧ va_P (dC, dI) vwCl [] U.heap ∧ va_K (dC, dI) vwCl [] U ∧ va_D (fun _ => True) [])) (va_Qi (fun (r : Int32) (u : Unit) => (r = 0 ∧ RG p1 1 1 ∧ r = fx_c_X12_usual_14 p0 p1) ∨ (r = 2 ∧ RG p1 0 0 ∧ r = fx_c_X12_usual_14 p0 p1)) (fun (u : Unit) t => va_P (dC, dI) vwCl [] t.heap ∧ va_K (dC, dI) vwCl [] t ∧ va_D (va_A [] sz) []) (va_A [] sz)) 0 0 (va_A [] sz) := by
  refine Met.ofW (cc := cX12_usual) (maxL := 2) (ret := (some .int)) (by decide +kernel) rfl ?_
  intro p e s m args below meth c s₁ B hml hv
  obtain ⟨rfl, hsz, hP, hK, hD0⟩ := hv
  have hx := B.exec
  have hb := B.bytes
  have hr := B.returns
  have hts := atoms_spec (ws := wf_c_X12_usual_14) B.pre
  have hown : s.vm.findClass RX12 = some m.cls := findClass_of_methodNamed B.named
  have hlocks := B.notSynchronized
  subst hsz
  have hD := hD0.self (sz := s.heap.size)
  generalize hAe : va_A [] s.heap.size = A at hD ⊢
  have hA : ∀ q : Nat, s.heap.size ≤ q → A q := fun q h => by rw [← hAe]; exact Or.inr h
  have hP : va_P (dC, dI) vwCl [] s.heap := hP
  have hl := lv_entry ([.int p0, .int p1]) (n := 2) (Nat.le_of_ble_eq_true rfl)
  rw [lg_entry_eq]
  generalize (lg_sl ([.int p0, .int p1]) ++ List.replicate (2 - (lg_sl ([.int p0, .int p1])).length) Slot.unset).toArray = ls at hl ⊢
  have hl : lv_has ls 2 [(0, .int p0), (1, .int p1)] := hl
  obtain ⟨H, hHe⟩ : ∃ H : Heap, s.heap = H := ⟨_, rfl⟩
  have hS : va_S A s.heap H [] := by rw [hHe]; exact va_S.rf
  have hP : va_P (dC, dI) vwCl [] H := by rw [← hHe]; exact hP
  rw [hHe]
  obtain ⟨RES, hR⟩ : ∃ z, fx_c_X12_usual_14 p0 p1 = z := ⟨_, rfl⟩
  have hEX : RES = fx_c_X12_usual_14 p0 p1 := hR.symm
  refine lv_iload_n hx hb dX12_usual_0 rfl (lv_at hl 0 rfl) ?_
  as_aux_lemma =>
  refine lv_bipush (v := 115) hx hb dX12_usual_1 kc_bipush_115 ?_
  refine lv_icmp_ne (tgt := 36) hx hb dX12_usual_3 rfl (fun c_1 => ?_) (fun c_1 => ?_)
  · replace hEX := hEX.trans (if_neg c_1)
    exact RG_dead (RG_ne1 g_p0 (q := 115) rfl c_1 (a' := 116) (b' := 115) (by decide +kernel)) (by decide +kernel)
  · replace hEX := hEX.trans (if_pos c_1)
    refine lv_iload_n hx hb dX12_usual_6 rfl (lv_at hl 1 rfl) ?_
    refine lv_if_ne (tgt := 14) hx hb dX12_usual_7 rfl (fun c_2 => ?_) (fun c_2 => ?_)
    · replace hEX := hEX.trans (if_neg c_2)
      have g_3 : RG p1 1 1 := RG_ne1 g_p1 (q := 0) rfl c_2 (by decide +kernel)
      refine lv_iload_n hx hb dX12_usual_14 rfl (lv_at hl 1 rfl) ?_
      refine lv_iconst (v := 1) hx hb dX12_usual_15 kc_iconst_1 ?_
      refine lv_icmp_ne (tgt := 23) hx hb dX12_usual_16 rfl (fun c_4 => ?_) (fun c_4 => ?_)
      · replace hEX := hEX.trans (if_neg c_4)
        exact RG_dead (RG_ne1 g_3 (q := 1) rfl c_4 (a' := 2) (b' := 1) (by decide +kernel)) (by decide +kernel)
      · replace hEX := hEX.trans (if_pos c_4)
        refine lv_iconst (v := 0) hx hb dX12_usual_19 kc_iconst_0 ?_
        as_aux_lemma =>
        refine lv_goto (tgt := 35) hx hb dX12_usual_20 rfl ?_
        have hK9 := hK.sub (tys' := []) [] rfl
        exact W.iret (v := 0) hx hb hr (fun t ht hW => ⟨⟨0, (), rfl, (Or.inl ⟨rfl, g_3, (hR.trans hEX).symm⟩), by rw [ht]; exact hP, va_K.moved hW.alike hK9, hD⟩, hS.F ht⟩) hS.2.2 dX12_usual_35
    · replace hEX := hEX.trans (if_pos c_2)
      have g_5 : RG p1 0 0 := RG_eq1 g_p1 (RG_k 0 0 rfl) c_2 (by decide +kernel)
      refine lv_iconst (v := 2) hx hb dX12_usual_10 kc_iconst_2 ?_
      refine lv_goto (tgt := 35) hx hb dX12_usual_11 rfl ?_
      have hK9 := hK.sub (tys' := []) [] rfl
      exact W.iret (v := 2) hx hb hr (fun t ht hW => ⟨⟨2, (), rfl, (Or.inr ⟨rfl, g_5, (hR.trans hEX).symm⟩), by rw [ht]; exact hP, va_K.moved hW.alike hK9, hD⟩, hS.F ht⟩) hS.2.2 dX12_usual_35
noncomputable def wf_c_X12_usual_15 : List Cond := .code yX12_usual cX12_usual 2 (some .int) :: ([])
set_option maxHeartbeats 4000000 in
set_option maxRecDepth 100000 in
theorem c_X12_usual_15 (l : Launch) (dC : Nat → ClassId) (dI : Nat → Nat → Nat) (sz : Nat) (p0 : Int32) (p1 : Int32) (g_p0 : RG p0 115 115) (g_p1 : RG p1 0 2) : Met l yX12_usual wf_c_X12_usual_15 ({ frames := 0, cells := 0, slots := 0, locals := 0 }) (va_Pc [.int p0, .int p1] (fun U => U.heap.size = sz ∧ va_P (dC, dI) vwCl [] U.heap ∧ va_K (dC, dI) vwCl [] U ∧ va_D (fun _ => True) [])) (va_Qi (fun (r : Int32) (u : Unit) => (r = 6 ∧ RG p1 2 2 ∧ r = fx_c_X12_usual_15 p0 p1) ∨ (r = 0 ∧ RG p1 1 1 ∧ r = fx_c_X12_usual_15 p0 p1) ∨ (r = 2 ∧ RG p1 0 0 ∧ r = fx_c_X12_usual_15 p0 p1)) (fun (u : Unit) t => va_P (dC, dI) vwCl [] t.heap ∧ va_K (dC, dI) vwCl [] t ∧ va_D (va_A [] sz) []) (va_A [] sz)) 0 0 (va_A [] sz) := by
  refine Met.ofW (cc := cX12_usual) (maxL := 2) (ret := (some .int)) (by decide +kernel) rfl ?_
  intro p e s m args below meth c s₁ B hml hv
  obtain ⟨rfl, hsz, hP, hK, hD0⟩ := hv
  have hx := B.exec
  have hb := B.bytes
  have hr := B.returns
  have hts := atoms_spec (ws := wf_c_X12_usual_15) B.pre
  have hown : s.vm.findClass RX12 = some m.cls := findClass_of_methodNamed B.named
  have hlocks := B.notSynchronized
  subst hsz
  have hD := hD0.self (sz := s.heap.size)
  generalize hAe : va_A [] s.heap.size = A at hD ⊢
  have hA : ∀ q : Nat, s.heap.size ≤ q → A q := fun q h => by rw [← hAe]; exact Or.inr h
  have hP : va_P (dC, dI) vwCl [] s.heap := hP
  have hl := lv_entry ([.int p0, .int p1]) (n := 2) (Nat.le_of_ble_eq_true rfl)
  rw [lg_entry_eq]
  generalize (lg_sl ([.int p0, .int p1]) ++ List.replicate (2 - (lg_sl ([.int p0, .int p1])).length) Slot.unset).toArray = ls at hl ⊢
  have hl : lv_has ls 2 [(0, .int p0), (1, .int p1)] := hl
  obtain ⟨H, hHe⟩ : ∃ H : Heap, s.heap = H := ⟨_, rfl⟩
  have hS : va_S A s.heap H [] := by rw [hHe]; exact va_S.rf
  have hP : va_P (dC, dI) vwCl [] H := by rw [← hHe]; exact hP
  rw [hHe]
  obtain ⟨RES, hR⟩ : ∃ z, fx_c_X12_usual_15 p0 p1 = z := ⟨_, rfl⟩
  have hEX : RES = fx_c_X12_usual_15 p0 p1 := hR.symm
  refine lv_iload_n hx hb dX12_usual_0 rfl (lv_at hl 0 rfl) ?_
  as_aux_lemma =>
  refine lv_bipush (v := 115) hx hb dX12_usual_1 kc_bipush_115 ?_
  refine lv_icmp_ne (tgt := 36) hx hb dX12_usual_3 rfl (fun c_1 => ?_) (fun c_1 => ?_)
  · replace hEX := hEX.trans (if_neg c_1)
    exact RG_dead (RG_ne1 g_p0 (q := 115) rfl c_1 (a' := 116) (b' := 115) (by decide +kernel)) (by decide +kernel)
  · replace hEX := hEX.trans (if_pos c_1)
    refine lv_iload_n hx hb dX12_usual_6 rfl (lv_at hl 1 rfl) ?_
    refine lv_if_ne (tgt := 14) hx hb dX12_usual_7 rfl (fun c_2 => ?_) (fun c_2 => ?_)
    · replace hEX := hEX.trans (if_neg c_2)
      have g_3 : RG p1 1 2 := RG_ne1 g_p1 (q := 0) rfl c_2 (by decide +kernel)
      refine lv_iload_n hx hb dX12_usual_14 rfl (lv_at hl 1 rfl) ?_
      refine lv_iconst (v := 1) hx hb dX12_usual_15 kc_iconst_1 ?_
      refine lv_icmp_ne (tgt := 23) hx hb dX12_usual_16 rfl (fun c_4 => ?_) (fun c_4 => ?_)
      · replace hEX := hEX.trans (if_neg c_4)
        have g_5 : RG p1 2 2 := RG_ne1 g_3 (q := 1) rfl c_4 (by decide +kernel)
        refine lv_iload_n hx hb dX12_usual_23 rfl (lv_at hl 1 rfl) ?_
        as_aux_lemma =>
        refine lv_iconst (v := 2) hx hb dX12_usual_24 kc_iconst_2 ?_
        refine lv_icmp_ne (tgt := 33) hx hb dX12_usual_25 rfl (fun c_6 => ?_) (fun c_6 => ?_)
        · replace hEX := hEX.trans (if_neg c_6)
          exact RG_dead (RG_ne1 g_5 (q := 2) rfl c_6 (a' := 3) (b' := 2) (by decide +kernel)) (by decide +kernel)
        · replace hEX := hEX.trans (if_pos c_6)
          refine lv_bipush (v := 6) hx hb dX12_usual_28 kc_bipush_6 ?_
          refine lv_goto (tgt := 35) hx hb dX12_usual_30 rfl ?_
          have hK9 := hK.sub (tys' := []) [] rfl
          exact W.iret (v := 6) hx hb hr (fun t ht hW => ⟨⟨6, (), rfl, (Or.inl ⟨rfl, g_5, (hR.trans hEX).symm⟩), by rw [ht]; exact hP, va_K.moved hW.alike hK9, hD⟩, hS.F ht⟩) hS.2.2 dX12_usual_35
      · replace hEX := hEX.trans (if_pos c_4)
        have g_7 : RG p1 1 1 := RG_eq1 g_3 (RG_k 1 1 rfl) c_4 (by decide +kernel)
        refine lv_iconst (v := 0) hx hb dX12_usual_19 kc_iconst_0 ?_
        refine lv_goto (tgt := 35) hx hb dX12_usual_20 rfl ?_
        have hK9 := hK.sub (tys' := []) [] rfl
        exact W.iret (v := 0) hx hb hr (fun t ht hW => ⟨⟨0, (), rfl, (Or.inr (Or.inl ⟨rfl, g_7, (hR.trans hEX).symm⟩)), by rw [ht]; exact hP, va_K.moved hW.alike hK9, hD⟩, hS.F ht⟩) hS.2.2 dX12_usual_35
    · replace hEX := hEX.trans (if_pos c_2)
      have g_8 : RG p1 0 0 := RG_eq1 g_p1 (RG_k 0 0 rfl) c_2 (by decide +kernel)
      refine lv_iconst (v := 2) hx hb dX12_usual_10 kc_iconst_2 ?_
      as_aux_lemma =>
      refine lv_goto (tgt := 35) hx hb dX12_usual_11 rfl ?_
      have hK9 := hK.sub (tys' := []) [] rfl
      exact W.iret (v := 2) hx hb hr (fun t ht hW => ⟨⟨2, (), rfl, (Or.inr (Or.inr ⟨rfl, g_8, (hR.trans hEX).symm⟩)), by rw [ht]; exact hP, va_K.moved hW.alike hK9, hD⟩, hS.F ht⟩) hS.2.2 dX12_usual_35
noncomputable def wf_c_X12_usual_16 : List Cond := .code yX12_usual cX12_usual 2 (some .int) :: ([])
set_option maxHeartbeats 4000000 in
set_option maxRecDepth 100000 in
theorem c_X12_usual_16 (l : Launch) (dC : Nat → ClassId) (dI : Nat → Nat → Nat) (sz : Nat) (p0 : Int32) (p1 : Int32) (g_p0 : RG p0 115 115) (g_p1 : RG p1 0 3) : Met l yX12_usual wf_c_X12_usual_16 ({ frames := 0, cells := 0, slots := 0, locals := 0 }) (va_Pc [.int p0, .int p1] (fun U => U.heap.size = sz ∧ va_P (dC, dI) vwCl [] U.heap ∧ va_K (dC, dI) vwCl [] U ∧ va_D (fun _ => True) [])) (va_Qi (fun (r : Int32) (u : Unit) => (r = 8 ∧ RG p1 3 3 ∧ r = fx_c_X12_usual_16 p0 p1) ∨ (r = 6 ∧ RG p1 2 2 ∧ r = fx_c_X12_usual_16 p0 p1) ∨ (r = 0 ∧ RG p1 1 1 ∧ r = fx_c_X12_usual_16 p0 p1) ∨ (r = 2 ∧ RG p1 0 0 ∧ r = fx_c_X12_usual_16 p0 p1)) (fun (u : Unit) t => va_P (dC, dI) vwCl [] t.heap ∧ va_K (dC, dI) vwCl [] t ∧ va_D (va_A [] sz) []) (va_A [] sz)) 0 0 (va_A [] sz) := by
  refine Met.ofW (cc := cX12_usual) (maxL := 2) (ret := (some .int)) (by decide +kernel) rfl ?_
  intro p e s m args below meth c s₁ B hml hv
  obtain ⟨rfl, hsz, hP, hK, hD0⟩ := hv
  have hx := B.exec
  have hb := B.bytes
  have hr := B.returns
  have hts := atoms_spec (ws := wf_c_X12_usual_16) B.pre
  have hown : s.vm.findClass RX12 = some m.cls := findClass_of_methodNamed B.named
  have hlocks := B.notSynchronized
  subst hsz
  have hD := hD0.self (sz := s.heap.size)
  generalize hAe : va_A [] s.heap.size = A at hD ⊢
  have hA : ∀ q : Nat, s.heap.size ≤ q → A q := fun q h => by rw [← hAe]; exact Or.inr h
  have hP : va_P (dC, dI) vwCl [] s.heap := hP
  have hl := lv_entry ([.int p0, .int p1]) (n := 2) (Nat.le_of_ble_eq_true rfl)
  rw [lg_entry_eq]
  generalize (lg_sl ([.int p0, .int p1]) ++ List.replicate (2 - (lg_sl ([.int p0, .int p1])).length) Slot.unset).toArray = ls at hl ⊢
  have hl : lv_has ls 2 [(0, .int p0), (1, .int p1)] := hl
  obtain ⟨H, hHe⟩ : ∃ H : Heap, s.heap = H := ⟨_, rfl⟩
  have hS : va_S A s.heap H [] := by rw [hHe]; exact va_S.rf
  have hP : va_P (dC, dI) vwCl [] H := by rw [← hHe]; exact hP
  rw [hHe]
  obtain ⟨RES, hR⟩ : ∃ z, fx_c_X12_usual_16 p0 p1 = z := ⟨_, rfl⟩
  have hEX : RES = fx_c_X12_usual_16 p0 p1 := hR.symm
  refine lv_iload_n hx hb dX12_usual_0 rfl (lv_at hl 0 rfl) ?_
  as_aux_lemma =>
  refine lv_bipush (v := 115) hx hb dX12_usual_1 kc_bipush_115 ?_
  refine lv_icmp_ne (tgt := 36) hx hb dX12_usual_3 rfl (fun c_1 => ?_) (fun c_1 => ?_)
  · replace hEX := hEX.trans (if_neg c_1)
    exact RG_dead (RG_ne1 g_p0 (q := 115) rfl c_1 (a' := 116) (b' := 115) (by decide +kernel)) (by decide +kernel)
  · replace hEX := hEX.trans (if_pos c_1)
    refine lv_iload_n hx hb dX12_usual_6 rfl (lv_at hl 1 rfl) ?_
    refine lv_if_ne (tgt := 14) hx hb dX12_usual_7 rfl (fun c_2 => ?_) (fun c_2 => ?_)
    · replace hEX := hEX.trans (if_neg c_2)
      have g_3 : RG p1 1 3 := RG_ne1 g_p1 (q := 0) rfl c_2 (by decide +kernel)
      refine lv_iload_n hx hb dX12_usual_14 rfl (lv_at hl 1 rfl) ?_
      refine lv_iconst (v := 1) hx hb dX12_usual_15 kc_iconst_1 ?_
      refine lv_icmp_ne (tgt := 23) hx hb dX12_usual_16 rfl (fun c_4 => ?_) (fun c_4 => ?_)
      · replace hEX := hEX.trans (if_neg c_4)
        have g_5 : RG p1 2 3 := RG_ne1 g_3 (q := 1) rfl c_4 (by decide +kernel)
        refine lv_iload_n hx hb dX12_usual_23 rfl (lv_at hl 1 rfl) ?_
        as_aux_lemma =>
        refine lv_iconst (v := 2) hx hb dX12_usual_24 kc_iconst_2 ?_
        refine lv_icmp_ne (tgt := 33) hx hb dX12_usual_25 rfl (fun c_6 => ?_) (fun c_6 => ?_)
        · replace hEX := hEX.trans (if_neg c_6)
          have g_7 : RG p1 3 3 := RG_ne1 g_5 (q := 2) rfl c_6 (by decide +kernel)
          refine lv_bipush (v := 8) hx hb dX12_usual_33 kc_bipush_8 ?_
          have hK9 := hK.sub (tys' := []) [] rfl
          exact W.iret (v := 8) hx hb hr (fun t ht hW => ⟨⟨8, (), rfl, (Or.inl ⟨rfl, g_7, (hR.trans hEX).symm⟩), by rw [ht]; exact hP, va_K.moved hW.alike hK9, hD⟩, hS.F ht⟩) hS.2.2 dX12_usual_35
        · replace hEX := hEX.trans (if_pos c_6)
          have g_8 : RG p1 2 2 := RG_eq1 g_5 (RG_k 2 2 rfl) c_6 (by decide +kernel)
          refine lv_bipush (v := 6) hx hb dX12_usual_28 kc_bipush_6 ?_
          refine lv_goto (tgt := 35) hx hb dX12_usual_30 rfl ?_
          have hK9 := hK.sub (tys' := []) [] rfl
          exact W.iret (v := 6) hx hb hr (fun t ht hW => ⟨⟨6, (), rfl, (Or.inr (Or.inl ⟨rfl, g_8, (hR.trans hEX).symm⟩)), by rw [ht]; exact hP, va_K.moved hW.alike hK9, hD⟩, hS.F ht⟩) hS.2.2 dX12_usual_35
      · replace hEX := hEX.trans (if_pos c_4)
        have g_9 : RG p1 1 1 := RG_eq1 g_3 (RG_k 1 1 rfl) c_4 (by decide +kernel)
        refine lv_iconst (v := 0) hx hb dX12_usual_19 kc_iconst_0 ?_
        as_aux_lemma =>
        refine lv_goto (tgt := 35) hx hb dX12_usual_20 rfl ?_
        have hK9 := hK.sub (tys' := []) [] rfl
        exact W.iret (v := 0) hx hb hr (fun t ht hW => ⟨⟨0, (), rfl, (Or.inr (Or.inr (Or.inl ⟨rfl, g_9, (hR.trans hEX).symm⟩))), by rw [ht]; exact hP, va_K.moved hW.alike hK9, hD⟩, hS.F ht⟩) hS.2.2 dX12_usual_35
    · replace hEX := hEX.trans (if_pos c_2)
      have g_10 : RG p1 0 0 := RG_eq1 g_p1 (RG_k 0 0 rfl) c_2 (by decide +kernel)
      refine lv_iconst (v := 2) hx hb dX12_usual_10 kc_iconst_2 ?_
      refine lv_goto (tgt := 35) hx hb dX12_usual_11 rfl ?_
      have hK9 := hK.sub (tys' := []) [] rfl
      exact W.iret (v := 2) hx hb hr (fun t ht hW => ⟨⟨2, (), rfl, (Or.inr (Or.inr (Or.inr ⟨rfl, g_10, (hR.trans hEX).symm⟩))), by rw [ht]; exact hP, va_K.moved hW.alike hK9, hD⟩, hS.F ht⟩) hS.2.2 dX12_usual_35
noncomputable def wf_c_J0_isLatin1_aae02_8 : List Cond := .code yJ0_isLatin1_aae02 cJ0_isLatin1_aae02 1 (some .boolean) :: ([.fieldLink RJ0 38 "java/lang/String" "COMPACT_STRINGS" "Z", .fieldLink RJ0 15 "java/lang/String" "coder" "B"])
set_option maxHeartbeats 4000000 in
set_option maxRecDepth 100000 in
theorem c_J0_isLatin1_aae02_8 (l : Launch) (dC : Nat → ClassId) (dI : Nat → Nat → Nat) (sz : Nat) (ts8 : Nat) : Met l yJ0_isLatin1_aae02 wf_c_J0_isLatin1_aae02_8 ({ frames := 0, cells := 0, slots := 0, locals := 0 }) (va_Pc [.ref ts8] (fun U => U.heap.size = sz ∧ va_P (dC, dI) vwCl [] U.heap ∧ va_K (dC, dI) vwCl [] U ∧ va_D (fun _ => True) [] ∧ va_Z "java/lang/String" "COMPACT_STRINGS" "Z" (.int 1) (va_A [] sz) U U.heap ∧ va_OF "java/lang/String" "coder" "B" (.int 0) ts8 (va_A [] sz) U U.heap)) (va_Qi (fun (r : Int32) (u : Unit) => (r = 1 ∧ r = fx_c_J0_isLatin1_aae02_8)) (fun (u : Unit) t => va_P (dC, dI) vwCl [] t.heap ∧ va_K (dC, dI) vwCl [] t ∧ va_D (va_A [] sz) []) (va_A [] sz)) 0 0 (va_A [] sz) := by
  refine Met.ofW (cc := cJ0_isLatin1_aae02) (maxL := 1) (ret := (some .boolean)) (by decide +kernel) rfl ?_
  intro p e s m args below meth c s₁ B hml hv
  obtain ⟨rfl, hsz, hP, hK, hD0, hE_10, hE_54⟩ := hv
  have hx := B.exec
  have hb := B.bytes
  have hr := B.returns
  have hts := atoms_spec (ws := wf_c_J0_isLatin1_aae02_8) B.pre
  have hown : s.vm.findClass RJ0 = some m.cls := findClass_of_methodNamed B.named
  have hlocks := B.notSynchronized
  subst hsz
  have hD := hD0.self (sz := s.heap.size)
  generalize hAe : va_A [] s.heap.size = A at hD hE_10 hE_54 ⊢
  have hA : ∀ q : Nat, s.heap.size ≤ q → A q := fun q h => by rw [← hAe]; exact Or.inr h
  have hP : va_P (dC, dI) vwCl [] s.heap := hP
  have hl := lv_entry ([.ref ts8]) (n := 1) (Nat.le_of_ble_eq_true rfl)
  rw [lg_entry_eq]
  generalize (lg_sl ([.ref ts8]) ++ List.replicate (1 - (lg_sl ([.ref ts8])).length) Slot.unset).toArray = ls at hl ⊢
  have hl : lv_has ls 1 [(0, .ref ts8)] := hl
  obtain ⟨H, hHe⟩ : ∃ H : Heap, s.heap = H := ⟨_, rfl⟩
  have hS : va_S A s.heap H [] := by rw [hHe]; exact va_S.rf
  have hP : va_P (dC, dI) vwCl [] H := by rw [← hHe]; exact hP
  rw [hHe]
  obtain ⟨RES, hR⟩ : ∃ z, fx_c_J0_isLatin1_aae02_8 = z := ⟨_, rfl⟩
  have hEX : RES = fx_c_J0_isLatin1_aae02_8 := hR.symm
  refine va_gets hx hb hE_10 hS hown (hts (.fieldLink RJ0 38 "java/lang/String" "COMPACT_STRINGS" "Z") (List.mem_of_getElem? (i := 1) rfl)) (fun _ h9 => h9) dJ0_isLatin1_aae02_0 ?_
  as_aux_lemma =>
  refine lv_if_eq (tgt := 17) hx hb dJ0_isLatin1_aae02_3 rfl (fun c_1 => absurd c_1 (by decide +kernel)) (fun c_1 => ?_)
  refine lv_aload_n hx hb dJ0_isLatin1_aae02_6 rfl (lv_at hl 0 rfl) ?_
  refine vk_getf hx hb hE_54 hS hown (hts (.fieldLink RJ0 15 "java/lang/String" "coder" "B") (List.mem_of_getElem? (i := 2) rfl)) (fun _ h9 => h9) dJ0_isLatin1_aae02_7 ?_
  refine lv_if_ne (tgt := 17) hx hb dJ0_isLatin1_aae02_10 rfl (fun c_2 => absurd c_2 (by decide +kernel)) (fun c_2 => ?_)
  refine lv_iconst (v := 1) hx hb dJ0_isLatin1_aae02_13 kc_iconst_1 ?_
  refine lv_goto (tgt := 18) hx hb dJ0_isLatin1_aae02_14 rfl ?_
  have hK9 := hK.sub (tys' := []) [] rfl
  exact W.zret (v := 1) hx hb hr rfl (fun t ht hW => ⟨⟨1, (), rfl, ⟨rfl, (hR.trans hEX).symm⟩, by rw [ht]; exact hP, va_K.moved hW.alike hK9, hD⟩, hS.F ht⟩) hS.2.2 dJ0_isLatin1_aae02_18
noncomputable def wf_c_J1_charAt_3b067_12 : List Cond := .code yJ1_charAt_3b067 cJ1_charAt_3b067 2 (some .char) :: ([.methodLink RJ1 9 yJ0_checkIndex_df160, .static yJ0_checkIndex_df160, .initialized RJ0, .code yJ0_checkIndex_df160 cJ0_checkIndex_df160 2 none, .fieldLink RJ0 1053 "jdk/internal/util/Preconditions" "SIOOBE_FORMATTER" "Ljava/util/function/BiFunction;", .methodLink RJ0 1059 yJ3_checkIndex_8e157, .static yJ3_checkIndex_8e157, .initialized RJ3, .code yJ3_checkIndex_8e157 cJ3_checkIndex_8e157 3 (some .int)])
set_option maxRecDepth 20000 in
theorem gf_c_J1_charAt_3b067_12_c_J0_checkIndex_df160 : GoodIn wf_c_J1_charAt_3b067_12 (va_wsS RJ1 9 yJ0_checkIndex_df160 wf_c_J0_checkIndex_df160) := goodIn_app (gi_l [1, 2, 3] rfl rfl) (gi_cons (j := 4) rfl rfl (gi_l [5, 6, 7, 8, 9] rfl rfl))
set_option maxHeartbeats 4000000 in
set_option maxRecDepth 100000 in
theorem c_J1_charAt_3b067_12 (l : Launch) (dC : Nat → ClassId) (dI : Nat → Nat → Nat) (sz : Nat) (tv8 : Nat) : Met l yJ1_charAt_3b067 wf_c_J1_charAt_3b067_12 ({ frames := 2, cells := 0, slots := 0, locals := 43 }) (va_Pc [.ref tv8, .int 0] (fun U => U.heap.size = sz ∧ va_P (dC, dI) vwCl [] U.heap ∧ va_K (dC, dI) vwCl [] U ∧ va_D (fun _ => True) [] ∧ va_T .byte tv8 4 (fun j => .int ([119, 100, 116, 104].getD j 0)) (va_A [] sz) U U.heap ∧ va_Zq "jdk/internal/util/Preconditions" "SIOOBE_FORMATTER" "Ljava/util/function/BiFunction;" (va_A [] sz) U U.heap)) (va_Qi (fun (r : Int32) (u : Unit) => (r = 119 ∧ r = fx_c_J1_charAt_3b067_12)) (fun (u : Unit) t => va_P (dC, dI) vwCl [] t.heap ∧ va_K (dC, dI) vwCl [] t ∧ va_D (va_A [] sz) []) (va_A [] sz)) 0 0 (va_A [] sz) := by
  refine Met.ofW (cc := cJ1_charAt_3b067) (maxL := 2) (ret := (some .char)) (by decide +kernel) rfl ?_
  intro p e s m args below meth c s₁ B hml hv
  obtain ⟨rfl, hsz, hP, hK, hD0, hE_56, hE_11⟩ := hv
  have hx := B.exec
  have hb := B.bytes
  have hr := B.returns
  have hts := atoms_spec (ws := wf_c_J1_charAt_3b067_12) B.pre
  have hown : s.vm.findClass RJ1 = some m.cls := findClass_of_methodNamed B.named
  have hlocks := B.notSynchronized
  subst hsz
  have hD := hD0.self (sz := s.heap.size)
  generalize hAe : va_A [] s.heap.size = A at hD hE_56 hE_11 ⊢
  have hA : ∀ q : Nat, s.heap.size ≤ q → A q := fun q h => by rw [← hAe]; exact Or.inr h
  have hP : va_P (dC, dI) vwCl [] s.heap := hP
  have hl := lv_entry ([.ref tv8, .int 0]) (n := 2) (Nat.le_of_ble_eq_true rfl)
  rw [lg_entry_eq]
  generalize (lg_sl ([.ref tv8, .int 0]) ++ List.replicate (2 - (lg_sl ([.ref tv8, .int 0])).length) Slot.unset).toArray = ls at hl ⊢
  have hl : lv_has ls 2 [(0, .ref tv8), (1, .int 0)] := hl
  obtain ⟨H, hHe⟩ : ∃ H : Heap, s.heap = H := ⟨_, rfl⟩
  have hS : va_S A s.heap H [] := by rw [hHe]; exact va_S.rf
  have hP : va_P (dC, dI) vwCl [] H := by rw [← hHe]; exact hP
  rw [hHe]
  obtain ⟨RES, hR⟩ : ∃ z, fx_c_J1_charAt_3b067_12 = z := ⟨_, rfl⟩
  have hEX : RES = fx_c_J1_charAt_3b067_12 := hR.symm
  refine lv_iload_n hx hb dJ1_charAt_3b067_0 rfl (lv_at hl 1 rfl) ?_
  as_aux_lemma =>
  refine lv_aload_n hx hb dJ1_charAt_3b067_1 rfl (lv_at hl 0 rfl) ?_
  refine va_tlen (v := 4) hx hb hE_56 hS rfl dJ1_charAt_3b067_2 ?_
  obtain ⟨hPc, hDc, hFc, hqc⟩ := cl_cut (wc := []) hP hD hS hA [] (by decide +kernel) rfl
  have hKc := hK.sub (tys' := []) [] rfl
  refine va_callv (va_runS (As := [.int 0, .int 4]) (rest := []) ⟨hx, hb, hml, hown, hts⟩ (c_J0_checkIndex_df160 l dC dI H.size) (va_cwS 2 hts gf_c_J1_charAt_3b067_12_c_J0_checkIndex_df160 rfl rfl rfl md_J0_checkIndex_df160 ⟨Nat.le_of_ble_eq_true rfl, Nat.le_of_ble_eq_true rfl⟩) ⟨fun a U g mk q => by obtain ⟨q0, q1, qP, qK, qD, qE0⟩ := q; exact ⟨q0, q1, qP, va_K.moved (u := U) (U := U.calling g mk a) (Vm.Alike.refl U.vm) qK, qD, va_Zq.moved (u := U) (U := U.calling g mk a) (Vm.Alike.refl U.vm) qE0⟩, fun U hU hW => ⟨rfl, by rw [hU], by rw [hU]; exact hPc, va_K.moved hW.alike hKc, hDc.weaken (fun _ _ _ _ => trivial), va_Zq.moved hW.alike (by rw [hU]; exact (hE_11.kept hS.2.1).narrow hFc)⟩⟩ rfl rfl hl.1 rfl (lv_room (Nat.le_of_ble_eq_true rfl)) dJ1_charAt_3b067_3 ⟨Nat.le_of_ble_eq_true rfl, Nat.le_of_ble_eq_true rfl⟩) hS (fun q _ h => hFc q h) hFc (fun u t H1 locs ht hvm hw hB hz1 hk1 hS => ?_)
  obtain ⟨hP1, hK1, hD1⟩ := hB
  rw [ht] at hP1
  have hP := bv_still hP hk1
  generalize H1 = H at hP hS ⊢
  as_aux_lemma =>
  have h_2 := hw
  refine lv_aload_n hx hb dJ1_charAt_3b067_6 rfl (lv_at hl 0 rfl) ?_
  refine lv_iload_n hx hb dJ1_charAt_3b067_7 rfl (lv_at hl 1 rfl) ?_
  refine va_tb (v := .int 119) hx hb hE_56 hS (by unfold vp_in; decide) rfl dJ1_charAt_3b067_8 ?_
  refine lv_sipush (v := 255) hx hb dJ1_charAt_3b067_9 kc_sipush_255 ?_
  refine lv_iand hx hb dJ1_charAt_3b067_12 ?_
  refine lv_topi (fun x_3 ex_3 => ?_)
  obtain rfl : x_3 = 119 := ex_3.trans (by decide +kernel)
  refine lv_i2c (v := 119) hx hb dJ1_charAt_3b067_13 (by decide +kernel) ?_
  have hK9 := hK.sub (tys' := []) [] rfl
  exact W.zret (v := 119) hx hb hr rfl (fun t ht hW => ⟨⟨119, (), rfl, ⟨rfl, (hR.trans hEX).symm⟩, by rw [ht]; exact hP, va_K.moved hW.alike hK9, hD⟩, hS.F ht⟩) hS.2.2 dJ1_charAt_3b067_14
noncomputable def wf_c_J0_charAt_5068e_12 : List Cond := .code yJ0_charAt_5068e cJ0_charAt_5068e 2 (some .char) :: ([.methodLink RJ0 492 yJ0_isLatin1_aae02, .instanceMethod yJ0_isLatin1_aae02, .selects RJ0 yJ0_isLatin1_aae02 yJ0_isLatin1_aae02, .initialized RJ0, .code yJ0_isLatin1_aae02 cJ0_isLatin1_aae02 1 (some .boolean), .fieldLink RJ0 38 "java/lang/String" "COMPACT_STRINGS" "Z", .fieldLink RJ0 15 "java/lang/String" "coder" "B", .fieldLink RJ0 9 "java/lang/String" "value" "[B", .methodLink RJ0 495 yJ1_charAt_3b067, .static yJ1_charAt_3b067, .initialized RJ1, .code yJ1_charAt_3b067 cJ1_charAt_3b067 2 (some .char), .methodLink RJ1 9 yJ0_checkIndex_df160, .static yJ0_checkIndex_df160, .code yJ0_checkIndex_df160 cJ0_checkIndex_df160 2 none, .fieldLink RJ0 1053 "jdk/internal/util/Preconditions" "SIOOBE_FORMATTER" "Ljava/util/function/BiFunction;", .methodLink RJ0 1059 yJ3_checkIndex_8e157, .static yJ3_checkIndex_8e157, .initialized RJ3, .code yJ3_checkIndex_8e157 cJ3_checkIndex_8e157 3 (some .int)])
set_option maxRecDepth 20000 in
theorem gf_c_J0_charAt_5068e_12_c_J0_isLatin1_aae02_8 : GoodIn wf_c_J0_charAt_5068e_12 (wsV RJ0 492 RJ0 yJ0_isLatin1_aae02 wf_c_J0_isLatin1_aae02_8) := goodIn_app (gi_l [1, 2, 3, 4] rfl rfl) (gi_cons (j := 5) rfl rfl (gi_l [6, 7] rfl rfl))
set_option maxRecDepth 20000 in
theorem gf_c_J0_charAt_5068e_12_c_J1_charAt_3b067_12 : GoodIn wf_c_J0_charAt_5068e_12 (va_wsS RJ0 495 yJ1_charAt_3b067 wf_c_J1_charAt_3b067_12) := goodIn_app (gi_l [9, 10, 11] rfl rfl) (gi_cons (j := 12) rfl rfl (gi_l [13, 14, 4, 15, 16, 17, 18, 19, 20] rfl rfl))
set_option maxHeartbeats 4000000 in
set_option maxRecDepth 100000 in
theorem c_J0_charAt_5068e_12 (l : Launch) (dC : Nat → ClassId) (dI : Nat → Nat → Nat) (sz : Nat) (ts8 : Nat) (tv8 : Nat) : Met l yJ0_charAt_5068e wf_c_J0_charAt_5068e_12 ({ frames := 3, cells := 0, slots := 0, locals := 64 }) (va_Pc [.ref ts8, .int 0] (fun U => U.heap.size = sz ∧ va_P (dC, dI) vwCl [] U.heap ∧ va_K (dC, dI) vwCl [] U ∧ va_D (fun _ => True) [] ∧ va_Z "java/lang/String" "COMPACT_STRINGS" "Z" (.int 1) (va_A [] sz) U U.heap ∧ va_OF "java/lang/String" "coder" "B" (.int 0) ts8 (va_A [] sz) U U.heap ∧ va_O "java/lang/String" ts8 (va_A [] sz) U U.heap ∧ va_OF "java/lang/String" "value" "[B" (.ref tv8) ts8 (va_A [] sz) U U.heap ∧ va_T .byte tv8 4 (fun j => .int ([119, 100, 116, 104].getD j 0)) (va_A [] sz) U U.heap ∧ va_Zq "jdk/internal/util/Preconditions" "SIOOBE_FORMATTER" "Ljava/util/function/BiFunction;" (va_A [] sz) U U.heap)) (va_Qi (fun (r : Int32) (u : Unit) => (r = 119 ∧ r = fx_c_J0_charAt_5068e_12)) (fun (u : Unit) t => va_P (dC, dI) vwCl [] t.heap ∧ va_K (dC, dI) vwCl [] t ∧ va_D (va_A [] sz) []) (va_A [] sz)) 0 0 (va_A [] sz) := by
  refine Met.ofW (cc := cJ0_charAt_5068e) (maxL := 2) (ret := (some .char)) (by decide +kernel) rfl ?_
  intro p e s m args below meth c s₁ B hml hv
  obtain ⟨rfl, hsz, hP, hK, hD0, hE_10, hE_54, hE_53, hE_55, hE_56, hE_11⟩ := hv
  have hx := B.exec
  have hb := B.bytes
  have hr := B.returns
  have hts := atoms_spec (ws := wf_c_J0_charAt_5068e_12) B.pre
  have hown : s.vm.findClass RJ0 = some m.cls := findClass_of_methodNamed B.named
  have hlocks := B.notSynchronized
  subst hsz
  have hD := hD0.self (sz := s.heap.size)
  generalize hAe : va_A [] s.heap.size = A at hD hE_10 hE_54 hE_53 hE_55 hE_56 hE_11 ⊢
  have hA : ∀ q : Nat, s.heap.size ≤ q → A q := fun q h => by rw [← hAe]; exact Or.inr h
  have hP : va_P (dC, dI) vwCl [] s.heap := hP
  have hl := lv_entry ([.ref ts8, .int 0]) (n := 2) (Nat.le_of_ble_eq_true rfl)
  rw [lg_entry_eq]
  generalize (lg_sl ([.ref ts8, .int 0]) ++ List.replicate (2 - (lg_sl ([.ref ts8, .int 0])).length) Slot.unset).toArray = ls at hl ⊢
  have hl : lv_has ls 2 [(0, .ref ts8), (1, .int 0)] := hl
  obtain ⟨H, hHe⟩ : ∃ H : Heap, s.heap = H := ⟨_, rfl⟩
  have hS : va_S A s.heap H [] := by rw [hHe]; exact va_S.rf
  have hP : va_P (dC, dI) vwCl [] H := by rw [← hHe]; exact hP
  rw [hHe]
  obtain ⟨RES, hR⟩ : ∃ z, fx_c_J0_charAt_5068e_12 = z := ⟨_, rfl⟩
  have hEX : RES = fx_c_J0_charAt_5068e_12 := hR.symm
  refine lv_aload_n hx hb dJ0_charAt_5068e_0 rfl (lv_at hl 0 rfl) ?_
  as_aux_lemma =>
  obtain ⟨hPc, hDc, hFc, hqc⟩ := cl_cut (wc := []) hP hD hS hA [] (by decide +kernel) rfl
  have hKc := hK.sub (tys' := []) [] rfl
  have hrv := bv_Orecv hE_53 hS
  refine va_calli (va_runV (As := []) (rest := []) ⟨hx, hb, hml, hown, hts⟩ (c_J0_isLatin1_aae02_8 l dC dI H.size ts8) (cwV 0 hts gf_c_J0_charAt_5068e_12_c_J0_isLatin1_aae02_8 rfl rfl rfl mdV_J0_isLatin1_aae02 ⟨Nat.le_of_ble_eq_true rfl, Nat.le_of_ble_eq_true rfl⟩) ⟨fun a U g mk q => by obtain ⟨q0, q1, qP, qK, qD, qE0, qE1⟩ := q; exact ⟨q0, q1, qP, va_K.moved (u := U) (U := U.calling g mk a) (Vm.Alike.refl U.vm) qK, qD, va_Z.moved (u := U) (U := U.calling g mk a) (Vm.Alike.refl U.vm) qE0, va_OF.moved (u := U) (U := U.calling g mk a) (Vm.Alike.refl U.vm) qE1⟩, hrv, fun U hU hW => ⟨rfl, by rw [hU], by rw [hU]; exact hPc, va_K.moved hW.alike hKc, hDc.weaken (fun _ _ _ _ => trivial), va_Z.moved hW.alike (by rw [hU]; exact (hE_10.kept hS.2.1).narrow hFc), va_OF.moved hW.alike (by rw [hU]; exact (hE_54.kept hS.2.1).narrow hFc)⟩⟩ rfl rfl hl.1 rfl (lv_room (Nat.le_of_ble_eq_true rfl)) dJ0_charAt_5068e_1 ⟨Nat.le_of_ble_eq_true rfl, Nat.le_of_ble_eq_true rfl⟩) hS (fun q _ h => hFc q h) hFc (fun r_1 u t H1 locs ht hvm hw hB hz1 hk1 hS => ?_)
  obtain ⟨hP1, hK1, hD1⟩ := hB
  rw [ht] at hP1
  have hP := bv_still hP hk1
  generalize H1 = H at hP hS ⊢
  as_aux_lemma =>
  rcases hw with ⟨h_2, h_3⟩
  have h_3 : r_1 = _ := h_3
  replace hEX := hEX.trans (exc1_eq h_3)
  rw [h_2]
  refine lv_if_eq (tgt := 16) hx hb dJ0_charAt_5068e_4 rfl (fun c_4 => absurd c_4 (by decide +kernel)) (fun c_4 => ?_)
  refine lv_aload_n hx hb dJ0_charAt_5068e_7 rfl (lv_at hl 0 rfl) ?_
  refine vk_getf hx hb hE_55 hS hown (hts (.fieldLink RJ0 9 "java/lang/String" "value" "[B") (List.mem_of_getElem? (i := 8) rfl)) (fun _ h9 => h9) dJ0_charAt_5068e_8 ?_
  refine lv_iload_n hx hb dJ0_charAt_5068e_11 rfl (lv_at hl 1 rfl) ?_
  obtain ⟨hPc, hDc, hFc, hqc⟩ := cl_cut (wc := []) hP hD hS hA [] (by decide +kernel) rfl
  have hKc := hK.sub (tys' := []) [] rfl
  refine va_calli (va_runS (As := [.ref tv8, .int 0]) (rest := []) ⟨hx, hb, hml, hown, hts⟩ (c_J1_charAt_3b067_12 l dC dI H.size tv8) (va_cwS 2 hts gf_c_J0_charAt_5068e_12_c_J1_charAt_3b067_12 rfl rfl rfl md_J1_charAt_3b067 ⟨Nat.le_of_ble_eq_true rfl, Nat.le_of_ble_eq_true rfl⟩) ⟨fun a U g mk q => by obtain ⟨q0, q1, qP, qK, qD, qE0, qE1⟩ := q; exact ⟨q0, q1, qP, va_K.moved (u := U) (U := U.calling g mk a) (Vm.Alike.refl U.vm) qK, qD, va_T.moved (u := U) (U := U.calling g mk a) (Vm.Alike.refl U.vm) qE0, va_Zq.moved (u := U) (U := U.calling g mk a) (Vm.Alike.refl U.vm) qE1⟩, fun U hU hW => ⟨rfl, by rw [hU], by rw [hU]; exact hPc, va_K.moved hW.alike hKc, hDc.weaken (fun _ _ _ _ => trivial), va_T.moved hW.alike (by rw [hU]; exact (hE_56.kept hS.2.1).narrow hFc), va_Zq.moved hW.alike (by rw [hU]; exact (hE_11.kept hS.2.1).narrow hFc)⟩⟩ rfl rfl hl.1 rfl (lv_room (Nat.le_of_ble_eq_true rfl)) dJ0_charAt_5068e_12 ⟨Nat.le_of_ble_eq_true rfl, Nat.le_of_ble_eq_true rfl⟩) hS (fun q _ h => hFc q h) hFc (fun r_5 u t H1 locs ht hvm hw hB hz1 hk1 hS => ?_)
  obtain ⟨hP1, hK1, hD1⟩ := hB
  rw [ht] at hP1
  have hP := bv_still hP hk1
  generalize H1 = H at hP hS ⊢
  as_aux_lemma =>
  rcases hw with ⟨h_6, h_7⟩
  have h_7 : r_5 = _ := h_7
  replace hEX := hEX.trans (exc1_eq h_7)
  rw [h_6]
  have hK9 := hK.sub (tys' := []) [] rfl
  exact W.zret (v := 119) hx hb hr rfl (fun t ht hW => ⟨⟨119, (), rfl, ⟨rfl, (hR.trans hEX).symm⟩, by rw [ht]; exact hP, va_K.moved hW.alike hK9, hD⟩, hS.F ht⟩) hS.2.2 dJ0_charAt_5068e_15
noncomputable def wf_c_J1_charAt_3b067_13 : List Cond := .code yJ1_charAt_3b067 cJ1_charAt_3b067 2 (some .char) :: ([.methodLink RJ1 9 yJ0_checkIndex_df160, .static yJ0_checkIndex_df160, .initialized RJ0, .code yJ0_checkIndex_df160 cJ0_checkIndex_df160 2 none, .fieldLink RJ0 1053 "jdk/internal/util/Preconditions" "SIOOBE_FORMATTER" "Ljava/util/function/BiFunction;", .methodLink RJ0 1059 yJ3_checkIndex_8e157, .static yJ3_checkIndex_8e157, .initialized RJ3, .code yJ3_checkIndex_8e157 cJ3_checkIndex_8e157 3 (some .int)])
set_option maxRecDepth 20000 in
theorem gf_c_J1_charAt_3b067_13_c_J0_checkIndex_df160_1 : GoodIn wf_c_J1_charAt_3b067_13 (va_wsS RJ1 9 yJ0_checkIndex_df160 wf_c_J0_checkIndex_df160_1) := goodIn_app (gi_l [1, 2, 3] rfl rfl) (gi_cons (j := 4) rfl rfl (gi_l [5, 6, 7, 8, 9] rfl rfl))
set_option maxHeartbeats 4000000 in
set_option maxRecDepth 100000 in
theorem c_J1_charAt_3b067_13 (l : Launch) (dC : Nat → ClassId) (dI : Nat → Nat → Nat) (sz : Nat) (tv8 : Nat) : Met l yJ1_charAt_3b067 wf_c_J1_charAt_3b067_13 ({ frames := 2, cells := 0, slots := 0, locals := 43 }) (va_Pc [.ref tv8, .int 1] (fun U => U.heap.size = sz ∧ va_P (dC, dI) vwCl [] U.heap ∧ va_K (dC, dI) vwCl [] U ∧ va_D (fun _ => True) [] ∧ va_T .byte tv8 4 (fun j => .int ([119, 100, 116, 104].getD j 0)) (va_A [] sz) U U.heap ∧ va_Zq "jdk/internal/util/Preconditions" "SIOOBE_FORMATTER" "Ljava/util/function/BiFunction;" (va_A [] sz) U U.heap)) (va_Qi (fun (r : Int32) (u : Unit) => (r = 100 ∧ r = fx_c_J1_charAt_3b067_13)) (fun (u : Unit) t => va_P (dC, dI) vwCl [] t.heap ∧ va_K (dC, dI) vwCl [] t ∧ va_D (va_A [] sz) []) (va_A [] sz)) 0 0 (va_A [] sz) := by
  refine Met.ofW (cc := cJ1_charAt_3b067) (maxL := 2) (ret := (some .char)) (by decide +kernel) rfl ?_
  intro p e s m args below meth c s₁ B hml hv
  obtain ⟨rfl, hsz, hP, hK, hD0, hE_56, hE_11⟩ := hv
  have hx := B.exec
  have hb := B.bytes
  have hr := B.returns
  have hts := atoms_spec (ws := wf_c_J1_charAt_3b067_13) B.pre
  have hown : s.vm.findClass RJ1 = some m.cls := findClass_of_methodNamed B.named
  have hlocks := B.notSynchronized
  subst hsz
  have hD := hD0.self (sz := s.heap.size)
  generalize hAe : va_A [] s.heap.size = A at hD hE_56 hE_11 ⊢
  have hA : ∀ q : Nat, s.heap.size ≤ q → A q := fun q h => by rw [← hAe]; exact Or.inr h
  have hP : va_P (dC, dI) vwCl [] s.heap := hP
  have hl := lv_entry ([.ref tv8, .int 1]) (n := 2) (Nat.le_of_ble_eq_true rfl)
  rw [lg_entry_eq]
  generalize (lg_sl ([.ref tv8, .int 1]) ++ List.replicate (2 - (lg_sl ([.ref tv8, .int 1])).length) Slot.unset).toArray = ls at hl ⊢
  have hl : lv_has ls 2 [(0, .ref tv8), (1, .int 1)] := hl
  obtain ⟨H, hHe⟩ : ∃ H : Heap, s.heap = H := ⟨_, rfl⟩
  have hS : va_S A s.heap H [] := by rw [hHe]; exact va_S.rf
  have hP : va_P (dC, dI) vwCl [] H := by rw [← hHe]; exact hP
  rw [hHe]
  obtain ⟨RES, hR⟩ : ∃ z, fx_c_J1_charAt_3b067_13 = z := ⟨_, rfl⟩
  have hEX : RES = fx_c_J1_charAt_3b067_13 := hR.symm
  refine lv_iload_n hx hb dJ1_charAt_3b067_0 rfl (lv_at hl 1 rfl) ?_
  as_aux_lemma =>
  refine lv_aload_n hx hb dJ1_charAt_3b067_1 rfl (lv_at hl 0 rfl) ?_
  refine va_tlen (v := 4) hx hb hE_56 hS rfl dJ1_charAt_3b067_2 ?_
  obtain ⟨hPc, hDc, hFc, hqc⟩ := cl_cut (wc := []) hP hD hS hA [] (by decide +kernel) rfl
  have hKc := hK.sub (tys' := []) [] rfl
  refine va_callv (va_runS (As := [.int 1, .int 4]) (rest := []) ⟨hx, hb, hml, hown, hts⟩ (c_J0_checkIndex_df160_1 l dC dI H.size) (va_cwS 2 hts gf_c_J1_charAt_3b067_13_c_J0_checkIndex_df160_1 rfl rfl rfl md_J0_checkIndex_df160 ⟨Nat.le_of_ble_eq_true rfl, Nat.le_of_ble_eq_true rfl⟩) ⟨fun a U g mk q => by obtain ⟨q0, q1, qP, qK, qD, qE0⟩ := q; exact ⟨q0, q1, qP, va_K.moved (u := U) (U := U.calling g mk a) (Vm.Alike.refl U.vm) qK, qD, va_Zq.moved (u := U) (U := U.calling g mk a) (Vm.Alike.refl U.vm) qE0⟩, fun U hU hW => ⟨rfl, by rw [hU], by rw [hU]; exact hPc, va_K.moved hW.alike hKc, hDc.weaken (fun _ _ _ _ => trivial), va_Zq.moved hW.alike (by rw [hU]; exact (hE_11.kept hS.2.1).narrow hFc)⟩⟩ rfl rfl hl.1 rfl (lv_room (Nat.le_of_ble_eq_true rfl)) dJ1_charAt_3b067_3 ⟨Nat.le_of_ble_eq_true rfl, Nat.le_of_ble_eq_true rfl⟩) hS (fun q _ h => hFc q h) hFc (fun u t H1 locs ht hvm hw hB hz1 hk1 hS => ?_)
  obtain ⟨hP1, hK1, hD1⟩ := hB
  rw [ht] at hP1
  have hP := bv_still hP hk1
  generalize H1 = H at hP hS ⊢
  as_aux_lemma =>
  have h_2 := hw
  refine lv_aload_n hx hb dJ1_charAt_3b067_6 rfl (lv_at hl 0 rfl) ?_
  refine lv_iload_n hx hb dJ1_charAt_3b067_7 rfl (lv_at hl 1 rfl) ?_
  refine va_tb (v := .int 100) hx hb hE_56 hS (by unfold vp_in; decide) rfl dJ1_charAt_3b067_8 ?_
  refine lv_sipush (v := 255) hx hb dJ1_charAt_3b067_9 kc_sipush_255 ?_
  refine lv_iand hx hb dJ1_charAt_3b067_12 ?_
  refine lv_topi (fun x_3 ex_3 => ?_)
  obtain rfl : x_3 = 100 := ex_3.trans (by decide +kernel)
  refine lv_i2c (v := 100) hx hb dJ1_charAt_3b067_13 (by decide +kernel) ?_
  have hK9 := hK.sub (tys' := []) [] rfl
  exact W.zret (v := 100) hx hb hr rfl (fun t ht hW => ⟨⟨100, (), rfl, ⟨rfl, (hR.trans hEX).symm⟩, by rw [ht]; exact hP, va_K.moved hW.alike hK9, hD⟩, hS.F ht⟩) hS.2.2 dJ1_charAt_3b067_14
noncomputable def wf_c_J0_charAt_5068e_13 : List Cond := .code yJ0_charAt_5068e cJ0_charAt_5068e 2 (some .char) :: ([.methodLink RJ0 492 yJ0_isLatin1_aae02, .instanceMethod yJ0_isLatin1_aae02, .selects RJ0 yJ0_isLatin1_aae02 yJ0_isLatin1_aae02, .initialized RJ0, .code yJ0_isLatin1_aae02 cJ0_isLatin1_aae02 1 (some .boolean), .fieldLink RJ0 38 "java/lang/String" "COMPACT_STRINGS" "Z", .fieldLink RJ0 15 "java/lang/String" "coder" "B", .fieldLink RJ0 9 "java/lang/String" "value" "[B", .methodLink RJ0 495 yJ1_charAt_3b067, .static yJ1_charAt_3b067, .initialized RJ1, .code yJ1_charAt_3b067 cJ1_charAt_3b067 2 (some .char), .methodLink RJ1 9 yJ0_checkIndex_df160, .static yJ0_checkIndex_df160, .code yJ0_checkIndex_df160 cJ0_checkIndex_df160 2 none, .fieldLink RJ0 1053 "jdk/internal/util/Preconditions" "SIOOBE_FORMATTER" "Ljava/util/function/BiFunction;", .methodLink RJ0 1059 yJ3_checkIndex_8e157, .static yJ3_checkIndex_8e157, .initialized RJ3, .code yJ3_checkIndex_8e157 cJ3_checkIndex_8e157 3 (some .int)])
set_option maxRecDepth 20000 in
theorem gf_c_J0_charAt_5068e_13_c_J0_isLatin1_aae02_8 : GoodIn wf_c_J0_charAt_5068e_13 (wsV RJ0 492 RJ0 yJ0_isLatin1_aae02 wf_c_J0_isLatin1_aae02_8) := goodIn_app (gi_l [1, 2, 3, 4] rfl rfl) (gi_cons (j := 5) rfl rfl (gi_l [6, 7] rfl rfl))
set_option maxRecDepth 20000 in
theorem gf_c_J0_charAt_5068e_13_c_J1_charAt_3b067_13 : GoodIn wf_c_J0_charAt_5068e_13 (va_wsS RJ0 495 yJ1_charAt_3b067 wf_c_J1_charAt_3b067_13) := goodIn_app (gi_l [9, 10, 11] rfl rfl) (gi_cons (j := 12) rfl rfl (gi_l [13, 14, 4, 15, 16, 17, 18, 19, 20] rfl rfl))
set_option maxHeartbeats 4000000 in
set_option maxRecDepth 100000 in
theorem c_J0_charAt_5068e_13 (l : Launch) (dC : Nat → ClassId) (dI : Nat → Nat → Nat) (sz : Nat) (ts8 : Nat) (tv8 : Nat) : Met l yJ0_charAt_5068e wf_c_J0_charAt_5068e_13 ({ frames := 3, cells := 0, slots := 0, locals := 64 }) (va_Pc [.ref ts8, .int 1] (fun U => U.heap.size = sz ∧ va_P (dC, dI) vwCl [] U.heap ∧ va_K (dC, dI) vwCl [] U ∧ va_D (fun _ => True) [] ∧ va_Z "java/lang/String" "COMPACT_STRINGS" "Z" (.int 1) (va_A [] sz) U U.heap ∧ va_OF "java/lang/String" "coder" "B" (.int 0) ts8 (va_A [] sz) U U.heap ∧ va_O "java/lang/String" ts8 (va_A [] sz) U U.heap ∧ va_OF "java/lang/String" "value" "[B" (.ref tv8) ts8 (va_A [] sz) U U.heap ∧ va_T .byte tv8 4 (fun j => .int ([119, 100, 116, 104].getD j 0)) (va_A [] sz) U U.heap ∧ va_Zq "jdk/internal/util/Preconditions" "SIOOBE_FORMATTER" "Ljava/util/function/BiFunction;" (va_A [] sz) U U.heap)) (va_Qi (fun (r : Int32) (u : Unit) => (r = 100 ∧ r = fx_c_J0_charAt_5068e_13)) (fun (u : Unit) t => va_P (dC, dI) vwCl [] t.heap ∧ va_K (dC, dI) vwCl [] t ∧ va_D (va_A [] sz) []) (va_A [] sz)) 0 0 (va_A [] sz) := by
  refine Met.ofW (cc := cJ0_charAt_5068e) (maxL := 2) (ret := (some .char)) (by decide +kernel) rfl ?_
  intro p e s m args below meth c s₁ B hml hv
  obtain ⟨rfl, hsz, hP, hK, hD0, hE_10, hE_54, hE_53, hE_55, hE_56, hE_11⟩ := hv
  have hx := B.exec
  have hb := B.bytes
  have hr := B.returns
  have hts := atoms_spec (ws := wf_c_J0_charAt_5068e_13) B.pre
  have hown : s.vm.findClass RJ0 = some m.cls := findClass_of_methodNamed B.named
  have hlocks := B.notSynchronized
  subst hsz
  have hD := hD0.self (sz := s.heap.size)
  generalize hAe : va_A [] s.heap.size = A at hD hE_10 hE_54 hE_53 hE_55 hE_56 hE_11 ⊢
  have hA : ∀ q : Nat, s.heap.size ≤ q → A q := fun q h => by rw [← hAe]; exact Or.inr h
  have hP : va_P (dC, dI) vwCl [] s.heap := hP
  have hl := lv_entry ([.ref ts8, .int 1]) (n := 2) (Nat.le_of_ble_eq_true rfl)
  rw [lg_entry_eq]
  generalize (lg_sl ([.ref ts8, .int 1]) ++ List.replicate (2 - (lg_sl ([.ref ts8, .int 1])).length) Slot.unset).toArray = ls at hl ⊢
  have hl : lv_has ls 2 [(0, .ref ts8), (1, .int 1)] := hl
  obtain ⟨H, hHe⟩ : ∃ H : Heap, s.heap = H := ⟨_, rfl⟩
  have hS : va_S A s.heap H [] := by rw [hHe]; exact va_S.rf
  have hP : va_P (dC, dI) vwCl [] H := by rw [← hHe]; exact hP
  rw [hHe]
  obtain ⟨RES, hR⟩ : ∃ z, fx_c_J0_charAt_5068e_13 = z := ⟨_, rfl⟩
  have hEX : RES = fx_c_J0_charAt_5068e_13 := hR.symm
  refine lv_aload_n hx hb dJ0_charAt_5068e_0 rfl (lv_at hl 0 rfl) ?_
  as_aux_lemma =>
  obtain ⟨hPc, hDc, hFc, hqc⟩ := cl_cut (wc := []) hP hD hS hA [] (by decide +kernel) rfl
  have hKc := hK.sub (tys' := []) [] rfl
  have hrv := bv_Orecv hE_53 hS
  refine va_calli (va_runV (As := []) (rest := []) ⟨hx, hb, hml, hown, hts⟩ (c_J0_isLatin1_aae02_8 l dC dI H.size ts8) (cwV 0 hts gf_c_J0_charAt_5068e_13_c_J0_isLatin1_aae02_8 rfl rfl rfl mdV_J0_isLatin1_aae02 ⟨Nat.le_of_ble_eq_true rfl, Nat.le_of_ble_eq_true rfl⟩) ⟨fun a U g mk q => by obtain ⟨q0, q1, qP, qK, qD, qE0, qE1⟩ := q; exact ⟨q0, q1, qP, va_K.moved (u := U) (U := U.calling g mk a) (Vm.Alike.refl U.vm) qK, qD, va_Z.moved (u := U) (U := U.calling g mk a) (Vm.Alike.refl U.vm) qE0, va_OF.moved (u := U) (U := U.calling g mk a) (Vm.Alike.refl U.vm) qE1⟩, hrv, fun U hU hW => ⟨rfl, by rw [hU], by rw [hU]; exact hPc, va_K.moved hW.alike hKc, hDc.weaken (fun _ _ _ _ => trivial), va_Z.moved hW.alike (by rw [hU]; exact (hE_10.kept hS.2.1).narrow hFc), va_OF.moved hW.alike (by rw [hU]; exact (hE_54.kept hS.2.1).narrow hFc)⟩⟩ rfl rfl hl.1 rfl (lv_room (Nat.le_of_ble_eq_true rfl)) dJ0_charAt_5068e_1 ⟨Nat.le_of_ble_eq_true rfl, Nat.le_of_ble_eq_true rfl⟩) hS (fun q _ h => hFc q h) hFc (fun r_1 u t H1 locs ht hvm hw hB hz1 hk1 hS => ?_)
  obtain ⟨hP1, hK1, hD1⟩ := hB
  rw [ht] at hP1
  have hP := bv_still hP hk1
  generalize H1 = H at hP hS ⊢
  as_aux_lemma =>
  rcases hw with ⟨h_2, h_3⟩
  have h_3 : r_1 = _ := h_3
  replace hEX := hEX.trans (exc1_eq h_3)
  rw [h_2]
  refine lv_if_eq (tgt := 16) hx hb dJ0_charAt_5068e_4 rfl (fun c_4 => absurd c_4 (by decide +kernel)) (fun c_4 => ?_)
  refine lv_aload_n hx hb dJ0_charAt_5068e_7 rfl (lv_at hl 0 rfl) ?_
  refine vk_getf hx hb hE_55 hS hown (hts (.fieldLink RJ0 9 "java/lang/String" "value" "[B") (List.mem_of_getElem? (i := 8) rfl)) (fun _ h9 => h9) dJ0_charAt_5068e_8 ?_
  refine lv_iload_n hx hb dJ0_charAt_5068e_11 rfl (lv_at hl 1 rfl) ?_
  obtain ⟨hPc, hDc, hFc, hqc⟩ := cl_cut (wc := []) hP hD hS hA [] (by decide +kernel) rfl
  have hKc := hK.sub (tys' := []) [] rfl
  refine va_calli (va_runS (As := [.ref tv8, .int 1]) (rest := []) ⟨hx, hb, hml, hown, hts⟩ (c_J1_charAt_3b067_13 l dC dI H.size tv8) (va_cwS 2 hts gf_c_J0_charAt_5068e_13_c_J1_charAt_3b067_13 rfl rfl rfl md_J1_charAt_3b067 ⟨Nat.le_of_ble_eq_true rfl, Nat.le_of_ble_eq_true rfl⟩) ⟨fun a U g mk q => by obtain ⟨q0, q1, qP, qK, qD, qE0, qE1⟩ := q; exact ⟨q0, q1, qP, va_K.moved (u := U) (U := U.calling g mk a) (Vm.Alike.refl U.vm) qK, qD, va_T.moved (u := U) (U := U.calling g mk a) (Vm.Alike.refl U.vm) qE0, va_Zq.moved (u := U) (U := U.calling g mk a) (Vm.Alike.refl U.vm) qE1⟩, fun U hU hW => ⟨rfl, by rw [hU], by rw [hU]; exact hPc, va_K.moved hW.alike hKc, hDc.weaken (fun _ _ _ _ => trivial), va_T.moved hW.alike (by rw [hU]; exact (hE_56.kept hS.2.1).narrow hFc), va_Zq.moved hW.alike (by rw [hU]; exact (hE_11.kept hS.2.1).narrow hFc)⟩⟩ rfl rfl hl.1 rfl (lv_room (Nat.le_of_ble_eq_true rfl)) dJ0_charAt_5068e_12 ⟨Nat.le_of_ble_eq_true rfl, Nat.le_of_ble_eq_true rfl⟩) hS (fun q _ h => hFc q h) hFc (fun r_5 u t H1 locs ht hvm hw hB hz1 hk1 hS => ?_)
  obtain ⟨hP1, hK1, hD1⟩ := hB
  rw [ht] at hP1
  have hP := bv_still hP hk1
  generalize H1 = H at hP hS ⊢
  as_aux_lemma =>
  rcases hw with ⟨h_6, h_7⟩
  have h_7 : r_5 = _ := h_7
  replace hEX := hEX.trans (exc1_eq h_7)
  rw [h_6]
  have hK9 := hK.sub (tys' := []) [] rfl
  exact W.zret (v := 100) hx hb hr rfl (fun t ht hW => ⟨⟨100, (), rfl, ⟨rfl, (hR.trans hEX).symm⟩, by rw [ht]; exact hP, va_K.moved hW.alike hK9, hD⟩, hS.F ht⟩) hS.2.2 dJ0_charAt_5068e_15
noncomputable def wf_c_J1_charAt_3b067_14 : List Cond := .code yJ1_charAt_3b067 cJ1_charAt_3b067 2 (some .char) :: ([.methodLink RJ1 9 yJ0_checkIndex_df160, .static yJ0_checkIndex_df160, .initialized RJ0, .code yJ0_checkIndex_df160 cJ0_checkIndex_df160 2 none, .fieldLink RJ0 1053 "jdk/internal/util/Preconditions" "SIOOBE_FORMATTER" "Ljava/util/function/BiFunction;", .methodLink RJ0 1059 yJ3_checkIndex_8e157, .static yJ3_checkIndex_8e157, .initialized RJ3, .code yJ3_checkIndex_8e157 cJ3_checkIndex_8e157 3 (some .int)])
set_option maxRecDepth 20000 in
theorem gf_c_J1_charAt_3b067_14_c_J0_checkIndex_df160_2 : GoodIn wf_c_J1_charAt_3b067_14 (va_wsS RJ1 9 yJ0_checkIndex_df160 wf_c_J0_checkIndex_df160_2) := goodIn_app (gi_l [1, 2, 3] rfl rfl) (gi_cons (j := 4) rfl rfl (gi_l [5, 6, 7, 8, 9] rfl rfl))
set_option maxHeartbeats 4000000 in
set_option maxRecDepth 100000 in
theorem c_J1_charAt_3b067_14 (l : Launch) (dC : Nat → ClassId) (dI : Nat → Nat → Nat) (sz : Nat) (tv8 : Nat) : Met l yJ1_charAt_3b067 wf_c_J1_charAt_3b067_14 ({ frames := 2, cells := 0, slots := 0, locals := 43 }) (va_Pc [.ref tv8, .int 2] (fun U => U.heap.size = sz ∧ va_P (dC, dI) vwCl [] U.heap ∧ va_K (dC, dI) vwCl [] U ∧ va_D (fun _ => True) [] ∧ va_T .byte tv8 4 (fun j => .int ([119, 100, 116, 104].getD j 0)) (va_A [] sz) U U.heap ∧ va_Zq "jdk/internal/util/Preconditions" "SIOOBE_FORMATTER" "Ljava/util/function/BiFunction;" (va_A [] sz) U U.heap)) (va_Qi (fun (r : Int32) (u : Unit) => (r = 116 ∧ r = fx_c_J1_charAt_3b067_14)) (fun (u : Unit) t => va_P (dC, dI) vwCl [] t.heap ∧ va_K (dC, dI) vwCl [] t ∧ va_D (va_A [] sz) []) (va_A [] sz)) 0 0 (va_A [] sz) := by
  refine Met.ofW (cc := cJ1_charAt_3b067) (maxL := 2) (ret := (some .char)) (by decide +kernel) rfl ?_
  intro p e s m args below meth c s₁ B hml hv
  obtain ⟨rfl, hsz, hP, hK, hD0, hE_56, hE_11⟩ := hv
  have hx := B.exec
  have hb := B.bytes
  have hr := B.returns
  have hts := atoms_spec (ws := wf_c_J1_charAt_3b067_14) B.pre
  have hown : s.vm.findClass RJ1 = some m.cls := findClass_of_methodNamed B.named
  have hlocks := B.notSynchronized
  subst hsz
  have hD := hD0.self (sz := s.heap.size)
  generalize hAe : va_A [] s.heap.size = A at hD hE_56 hE_11 ⊢
  have hA : ∀ q : Nat, s.heap.size ≤ q → A q := fun q h => by rw [← hAe]; exact Or.inr h
  have hP : va_P (dC, dI) vwCl [] s.heap := hP
  have hl := lv_entry ([.ref tv8, .int 2]) (n := 2) (Nat.le_of_ble_eq_true rfl)
  rw [lg_entry_eq]
  generalize (lg_sl ([.ref tv8, .int 2]) ++ List.replicate (2 - (lg_sl ([.ref tv8, .int 2])).length) Slot.unset).toArray = ls at hl ⊢
  have hl : lv_has ls 2 [(0, .ref tv8), (1, .int 2)] := hl
  obtain ⟨H, hHe⟩ : ∃ H : Heap, s.heap = H := ⟨_, rfl⟩
  have hS : va_S A s.heap H [] := by rw [hHe]; exact va_S.rf
  have hP : va_P (dC, dI) vwCl [] H := by rw [← hHe]; exact hP
  rw [hHe]
  obtain ⟨RES, hR⟩ : ∃ z, fx_c_J1_charAt_3b067_14 = z := ⟨_, rfl⟩
  have hEX : RES = fx_c_J1_charAt_3b067_14 := hR.symm
  refine lv_iload_n hx hb dJ1_charAt_3b067_0 rfl (lv_at hl 1 rfl) ?_
  as_aux_lemma =>
  refine lv_aload_n hx hb dJ1_charAt_3b067_1 rfl (lv_at hl 0 rfl) ?_
  refine va_tlen (v := 4) hx hb hE_56 hS rfl dJ1_charAt_3b067_2 ?_
  obtain ⟨hPc, hDc, hFc, hqc⟩ := cl_cut (wc := []) hP hD hS hA [] (by decide +kernel) rfl
  have hKc := hK.sub (tys' := []) [] rfl
  refine va_callv (va_runS (As := [.int 2, .int 4]) (rest := []) ⟨hx, hb, hml, hown, hts⟩ (c_J0_checkIndex_df160_2 l dC dI H.size) (va_cwS 2 hts gf_c_J1_charAt_3b067_14_c_J0_checkIndex_df160_2 rfl rfl rfl md_J0_checkIndex_df160 ⟨Nat.le_of_ble_eq_true rfl, Nat.le_of_ble_eq_true rfl⟩) ⟨fun a U g mk q => by obtain ⟨q0, q1, qP, qK, qD, qE0⟩ := q; exact ⟨q0, q1, qP, va_K.moved (u := U) (U := U.calling g mk a) (Vm.Alike.refl U.vm) qK, qD, va_Zq.moved (u := U) (U := U.calling g mk a) (Vm.Alike.refl U.vm) qE0⟩, fun U hU hW => ⟨rfl, by rw [hU], by rw [hU]; exact hPc, va_K.moved hW.alike hKc, hDc.weaken (fun _ _ _ _ => trivial), va_Zq.moved hW.alike (by rw [hU]; exact (hE_11.kept hS.2.1).narrow hFc)⟩⟩ rfl rfl hl.1 rfl (lv_room (Nat.le_of_ble_eq_true rfl)) dJ1_charAt_3b067_3 ⟨Nat.le_of_ble_eq_true rfl, Nat.le_of_ble_eq_true rfl⟩) hS (fun q _ h => hFc q h) hFc (fun u t H1 locs ht hvm hw hB hz1 hk1 hS => ?_)
  obtain ⟨hP1, hK1, hD1⟩ := hB
  rw [ht] at hP1
  have hP := bv_still hP hk1
  generalize H1 = H at hP hS ⊢
  as_aux_lemma =>
  have h_2 := hw
  refine lv_aload_n hx hb dJ1_charAt_3b067_6 rfl (lv_at hl 0 rfl) ?_
  refine lv_iload_n hx hb dJ1_charAt_3b067_7 rfl (lv_at hl 1 rfl) ?_
  refine va_tb (v := .int 116) hx hb hE_56 hS (by unfold vp_in; decide) rfl dJ1_charAt_3b067_8 ?_
  refine lv_sipush (v := 255) hx hb dJ1_charAt_3b067_9 kc_sipush_255 ?_
  refine lv_iand hx hb dJ1_charAt_3b067_12 ?_
  refine lv_topi (fun x_3 ex_3 => ?_)
  obtain rfl : x_3 = 116 := ex_3.trans (by decide +kernel)
  refine lv_i2c (v := 116) hx hb dJ1_charAt_3b067_13 (by decide +kernel) ?_
  have hK9 := hK.sub (tys' := []) [] rfl
  exact W.zret (v := 116) hx hb hr rfl (fun t ht hW => ⟨⟨116, (), rfl, ⟨rfl, (hR.trans hEX).symm⟩, by rw [ht]; exact hP, va_K.moved hW.alike hK9, hD⟩, hS.F ht⟩) hS.2.2 dJ1_charAt_3b067_14
noncomputable def wf_c_J0_charAt_5068e_14 : List Cond := .code yJ0_charAt_5068e cJ0_charAt_5068e 2 (some .char) :: ([.methodLink RJ0 492 yJ0_isLatin1_aae02, .instanceMethod yJ0_isLatin1_aae02, .selects RJ0 yJ0_isLatin1_aae02 yJ0_isLatin1_aae02, .initialized RJ0, .code yJ0_isLatin1_aae02 cJ0_isLatin1_aae02 1 (some .boolean), .fieldLink RJ0 38 "java/lang/String" "COMPACT_STRINGS" "Z", .fieldLink RJ0 15 "java/lang/String" "coder" "B", .fieldLink RJ0 9 "java/lang/String" "value" "[B", .methodLink RJ0 495 yJ1_charAt_3b067, .static yJ1_charAt_3b067, .initialized RJ1, .code yJ1_charAt_3b067 cJ1_charAt_3b067 2 (some .char), .methodLink RJ1 9 yJ0_checkIndex_df160, .static yJ0_checkIndex_df160, .code yJ0_checkIndex_df160 cJ0_checkIndex_df160 2 none, .fieldLink RJ0 1053 "jdk/internal/util/Preconditions" "SIOOBE_FORMATTER" "Ljava/util/function/BiFunction;", .methodLink RJ0 1059 yJ3_checkIndex_8e157, .static yJ3_checkIndex_8e157, .initialized RJ3, .code yJ3_checkIndex_8e157 cJ3_checkIndex_8e157 3 (some .int)])
set_option maxRecDepth 20000 in
theorem gf_c_J0_charAt_5068e_14_c_J0_isLatin1_aae02_8 : GoodIn wf_c_J0_charAt_5068e_14 (wsV RJ0 492 RJ0 yJ0_isLatin1_aae02 wf_c_J0_isLatin1_aae02_8) := goodIn_app (gi_l [1, 2, 3, 4] rfl rfl) (gi_cons (j := 5) rfl rfl (gi_l [6, 7] rfl rfl))
set_option maxRecDepth 20000 in
theorem gf_c_J0_charAt_5068e_14_c_J1_charAt_3b067_14 : GoodIn wf_c_J0_charAt_5068e_14 (va_wsS RJ0 495 yJ1_charAt_3b067 wf_c_J1_charAt_3b067_14) := goodIn_app (gi_l [9, 10, 11] rfl rfl) (gi_cons (j := 12) rfl rfl (gi_l [13, 14, 4, 15, 16, 17, 18, 19, 20] rfl rfl))
set_option maxHeartbeats 4000000 in
set_option maxRecDepth 100000 in
theorem c_J0_charAt_5068e_14 (l : Launch) (dC : Nat → ClassId) (dI : Nat → Nat → Nat) (sz : Nat) (ts8 : Nat) (tv8 : Nat) : Met l yJ0_charAt_5068e wf_c_J0_charAt_5068e_14 ({ frames := 3, cells := 0, slots := 0, locals := 64 }) (va_Pc [.ref ts8, .int 2] (fun U => U.heap.size = sz ∧ va_P (dC, dI) vwCl [] U.heap ∧ va_K (dC, dI) vwCl [] U ∧ va_D (fun _ => True) [] ∧ va_Z "java/lang/String" "COMPACT_STRINGS" "Z" (.int 1) (va_A [] sz) U U.heap ∧ va_OF "java/lang/String" "coder" "B" (.int 0) ts8 (va_A [] sz) U U.heap ∧ va_O "java/lang/String" ts8 (va_A [] sz) U U.heap ∧ va_OF "java/lang/String" "value" "[B" (.ref tv8) ts8 (va_A [] sz) U U.heap ∧ va_T .byte tv8 4 (fun j => .int ([119, 100, 116, 104].getD j 0)) (va_A [] sz) U U.heap ∧ va_Zq "jdk/internal/util/Preconditions" "SIOOBE_FORMATTER" "Ljava/util/function/BiFunction;" (va_A [] sz) U U.heap)) (va_Qi (fun (r : Int32) (u : Unit) => (r = 116 ∧ r = fx_c_J0_charAt_5068e_14)) (fun (u : Unit) t => va_P (dC, dI) vwCl [] t.heap ∧ va_K (dC, dI) vwCl [] t ∧ va_D (va_A [] sz) []) (va_A [] sz)) 0 0 (va_A [] sz) := by
  refine Met.ofW (cc := cJ0_charAt_5068e) (maxL := 2) (ret := (some .char)) (by decide +kernel) rfl ?_
  intro p e s m args below meth c s₁ B hml hv
  obtain ⟨rfl, hsz, hP, hK, hD0, hE_10, hE_54, hE_53, hE_55, hE_56, hE_11⟩ := hv
  have hx := B.exec
  have hb := B.bytes
  have hr := B.returns
  have hts := atoms_spec (ws := wf_c_J0_charAt_5068e_14) B.pre
  have hown : s.vm.findClass RJ0 = some m.cls := findClass_of_methodNamed B.named
  have hlocks := B.notSynchronized
  subst hsz
  have hD := hD0.self (sz := s.heap.size)
  generalize hAe : va_A [] s.heap.size = A at hD hE_10 hE_54 hE_53 hE_55 hE_56 hE_11 ⊢
  have hA : ∀ q : Nat, s.heap.size ≤ q → A q := fun q h => by rw [← hAe]; exact Or.inr h
  have hP : va_P (dC, dI) vwCl [] s.heap := hP
  have hl := lv_entry ([.ref ts8, .int 2]) (n := 2) (Nat.le_of_ble_eq_true rfl)
  rw [lg_entry_eq]
  generalize (lg_sl ([.ref ts8, .int 2]) ++ List.replicate (2 - (lg_sl ([.ref ts8, .int 2])).length) Slot.unset).toArray = ls at hl ⊢
  have hl : lv_has ls 2 [(0, .ref ts8), (1, .int 2)] := hl
  obtain ⟨H, hHe⟩ : ∃ H : Heap, s.heap = H := ⟨_, rfl⟩
  have hS : va_S A s.heap H [] := by rw [hHe]; exact va_S.rf
  have hP : va_P (dC, dI) vwCl [] H := by rw [← hHe]; exact hP
  rw [hHe]
  obtain ⟨RES, hR⟩ : ∃ z, fx_c_J0_charAt_5068e_14 = z := ⟨_, rfl⟩
  have hEX : RES = fx_c_J0_charAt_5068e_14 := hR.symm
  refine lv_aload_n hx hb dJ0_charAt_5068e_0 rfl (lv_at hl 0 rfl) ?_
  as_aux_lemma =>
  obtain ⟨hPc, hDc, hFc, hqc⟩ := cl_cut (wc := []) hP hD hS hA [] (by decide +kernel) rfl
  have hKc := hK.sub (tys' := []) [] rfl
  have hrv := bv_Orecv hE_53 hS
  refine va_calli (va_runV (As := []) (rest := []) ⟨hx, hb, hml, hown, hts⟩ (c_J0_isLatin1_aae02_8 l dC dI H.size ts8) (cwV 0 hts gf_c_J0_charAt_5068e_14_c_J0_isLatin1_aae02_8 rfl rfl rfl mdV_J0_isLatin1_aae02 ⟨Nat.le_of_ble_eq_true rfl, Nat.le_of_ble_eq_true rfl⟩) ⟨fun a U g mk q => by obtain ⟨q0, q1, qP, qK, qD, qE0, qE1⟩ := q; exact ⟨q0, q1, qP, va_K.moved (u := U) (U := U.calling g mk a) (Vm.Alike.refl U.vm) qK, qD, va_Z.moved (u := U) (U := U.calling g mk a) (Vm.Alike.refl U.vm) qE0, va_OF.moved (u := U) (U := U.calling g mk a) (Vm.Alike.refl U.vm) qE1⟩, hrv, fun U hU hW => ⟨rfl, by rw [hU], by rw [hU]; exact hPc, va_K.moved hW.alike hKc, hDc.weaken (fun _ _ _ _ => trivial), va_Z.moved hW.alike (by rw [hU]; exact (hE_10.kept hS.2.1).narrow hFc), va_OF.moved hW.alike (by rw [hU]; exact (hE_54.kept hS.2.1).narrow hFc)⟩⟩ rfl rfl hl.1 rfl (lv_room (Nat.le_of_ble_eq_true rfl)) dJ0_charAt_5068e_1 ⟨Nat.le_of_ble_eq_true rfl, Nat.le_of_ble_eq_true rfl⟩) hS (fun q _ h => hFc q h) hFc (fun r_1 u t H1 locs ht hvm hw hB hz1 hk1 hS => ?_)
  obtain ⟨hP1, hK1, hD1⟩ := hB
  rw [ht] at hP1
  have hP := bv_still hP hk1
  generalize H1 = H at hP hS ⊢
  as_aux_lemma =>
  rcases hw with ⟨h_2, h_3⟩
  have h_3 : r_1 = _ := h_3
  replace hEX := hEX.trans (exc1_eq h_3)
  rw [h_2]
  refine lv_if_eq (tgt := 16) hx hb dJ0_charAt_5068e_4 rfl (fun c_4 => absurd c_4 (by decide +kernel)) (fun c_4 => ?_)
  refine lv_aload_n hx hb dJ0_charAt_5068e_7 rfl (lv_at hl 0 rfl) ?_
  refine vk_getf hx hb hE_55 hS hown (hts (.fieldLink RJ0 9 "java/lang/String" "value" "[B") (List.mem_of_getElem? (i := 8) rfl)) (fun _ h9 => h9) dJ0_charAt_5068e_8 ?_
  refine lv_iload_n hx hb dJ0_charAt_5068e_11 rfl (lv_at hl 1 rfl) ?_
  obtain ⟨hPc, hDc, hFc, hqc⟩ := cl_cut (wc := []) hP hD hS hA [] (by decide +kernel) rfl
  have hKc := hK.sub (tys' := []) [] rfl
  refine va_calli (va_runS (As := [.ref tv8, .int 2]) (rest := []) ⟨hx, hb, hml, hown, hts⟩ (c_J1_charAt_3b067_14 l dC dI H.size tv8) (va_cwS 2 hts gf_c_J0_charAt_5068e_14_c_J1_charAt_3b067_14 rfl rfl rfl md_J1_charAt_3b067 ⟨Nat.le_of_ble_eq_true rfl, Nat.le_of_ble_eq_true rfl⟩) ⟨fun a U g mk q => by obtain ⟨q0, q1, qP, qK, qD, qE0, qE1⟩ := q; exact ⟨q0, q1, qP, va_K.moved (u := U) (U := U.calling g mk a) (Vm.Alike.refl U.vm) qK, qD, va_T.moved (u := U) (U := U.calling g mk a) (Vm.Alike.refl U.vm) qE0, va_Zq.moved (u := U) (U := U.calling g mk a) (Vm.Alike.refl U.vm) qE1⟩, fun U hU hW => ⟨rfl, by rw [hU], by rw [hU]; exact hPc, va_K.moved hW.alike hKc, hDc.weaken (fun _ _ _ _ => trivial), va_T.moved hW.alike (by rw [hU]; exact (hE_56.kept hS.2.1).narrow hFc), va_Zq.moved hW.alike (by rw [hU]; exact (hE_11.kept hS.2.1).narrow hFc)⟩⟩ rfl rfl hl.1 rfl (lv_room (Nat.le_of_ble_eq_true rfl)) dJ0_charAt_5068e_12 ⟨Nat.le_of_ble_eq_true rfl, Nat.le_of_ble_eq_true rfl⟩) hS (fun q _ h => hFc q h) hFc (fun r_5 u t H1 locs ht hvm hw hB hz1 hk1 hS => ?_)
  obtain ⟨hP1, hK1, hD1⟩ := hB
  rw [ht] at hP1
  have hP := bv_still hP hk1
  generalize H1 = H at hP hS ⊢
  as_aux_lemma =>
  rcases hw with ⟨h_6, h_7⟩
  have h_7 : r_5 = _ := h_7
  replace hEX := hEX.trans (exc1_eq h_7)
  rw [h_6]
  have hK9 := hK.sub (tys' := []) [] rfl
  exact W.zret (v := 116) hx hb hr rfl (fun t ht hW => ⟨⟨116, (), rfl, ⟨rfl, (hR.trans hEX).symm⟩, by rw [ht]; exact hP, va_K.moved hW.alike hK9, hD⟩, hS.F ht⟩) hS.2.2 dJ0_charAt_5068e_15
noncomputable def wf_c_J1_charAt_3b067_15 : List Cond := .code yJ1_charAt_3b067 cJ1_charAt_3b067 2 (some .char) :: ([.methodLink RJ1 9 yJ0_checkIndex_df160, .static yJ0_checkIndex_df160, .initialized RJ0, .code yJ0_checkIndex_df160 cJ0_checkIndex_df160 2 none, .fieldLink RJ0 1053 "jdk/internal/util/Preconditions" "SIOOBE_FORMATTER" "Ljava/util/function/BiFunction;", .methodLink RJ0 1059 yJ3_checkIndex_8e157, .static yJ3_checkIndex_8e157, .initialized RJ3, .code yJ3_checkIndex_8e157 cJ3_checkIndex_8e157 3 (some .int)])
set_option maxRecDepth 20000 in
theorem gf_c_J1_charAt_3b067_15_c_J0_checkIndex_df160_3 : GoodIn wf_c_J1_charAt_3b067_15 (va_wsS RJ1 9 yJ0_checkIndex_df160 wf_c_J0_checkIndex_df160_3) := goodIn_app (gi_l [1, 2, 3] rfl rfl) (gi_cons (j := 4) rfl rfl (gi_l [5, 6, 7, 8, 9] rfl rfl))
set_option maxHeartbeats 4000000 in
set_option maxRecDepth 100000 in
theorem c_J1_charAt_3b067_15 (l : Launch) (dC : Nat → ClassId) (dI : Nat → Nat → Nat) (sz : Nat) (tv8 : Nat) : Met l yJ1_charAt_3b067 wf_c_J1_charAt_3b067_15 ({ frames := 2, cells := 0, slots := 0, locals := 43 }) (va_Pc [.ref tv8, .int 3] (fun U => U.heap.size = sz ∧ va_P (dC, dI) vwCl [] U.heap ∧ va_K (dC, dI) vwCl [] U ∧ va_D (fun _ => True) [] ∧ va_T .byte tv8 4 (fun j => .int ([119, 100, 116, 104].getD j 0)) (va_A [] sz) U U.heap ∧ va_Zq "jdk/internal/util/Preconditions" "SIOOBE_FORMATTER" "Ljava/util/function/BiFunction;" (va_A [] sz) U U.heap)) (va_Qi (fun (r : Int32) (u : Unit) => (r = 104 ∧ r = fx_c_J1_charAt_3b067_15)) (fun (u : Unit) t => va_P (dC, dI) vwCl [] t.heap ∧ va_K (dC, dI) vwCl [] t ∧ va_D (va_A [] sz) []) (va_A [] sz)) 0 0 (va_A [] sz) := by
  refine Met.ofW (cc := cJ1_charAt_3b067) (maxL := 2) (ret := (some .char)) (by decide +kernel) rfl ?_
  intro p e s m args below meth c s₁ B hml hv
  obtain ⟨rfl, hsz, hP, hK, hD0, hE_56, hE_11⟩ := hv
  have hx := B.exec
  have hb := B.bytes
  have hr := B.returns
  have hts := atoms_spec (ws := wf_c_J1_charAt_3b067_15) B.pre
  have hown : s.vm.findClass RJ1 = some m.cls := findClass_of_methodNamed B.named
  have hlocks := B.notSynchronized
  subst hsz
  have hD := hD0.self (sz := s.heap.size)
  generalize hAe : va_A [] s.heap.size = A at hD hE_56 hE_11 ⊢
  have hA : ∀ q : Nat, s.heap.size ≤ q → A q := fun q h => by rw [← hAe]; exact Or.inr h
  have hP : va_P (dC, dI) vwCl [] s.heap := hP
  have hl := lv_entry ([.ref tv8, .int 3]) (n := 2) (Nat.le_of_ble_eq_true rfl)
  rw [lg_entry_eq]
  generalize (lg_sl ([.ref tv8, .int 3]) ++ List.replicate (2 - (lg_sl ([.ref tv8, .int 3])).length) Slot.unset).toArray = ls at hl ⊢
  have hl : lv_has ls 2 [(0, .ref tv8), (1, .int 3)] := hl
  obtain ⟨H, hHe⟩ : ∃ H : Heap, s.heap = H := ⟨_, rfl⟩
  have hS : va_S A s.heap H [] := by rw [hHe]; exact va_S.rf
  have hP : va_P (dC, dI) vwCl [] H := by rw [← hHe]; exact hP
  rw [hHe]
  obtain ⟨RES, hR⟩ : ∃ z, fx_c_J1_charAt_3b067_15 = z := ⟨_, rfl⟩
  have hEX : RES = fx_c_J1_charAt_3b067_15 := hR.symm
  refine lv_iload_n hx hb dJ1_charAt_3b067_0 rfl (lv_at hl 1 rfl) ?_
  as_aux_lemma =>
  refine lv_aload_n hx hb dJ1_charAt_3b067_1 rfl (lv_at hl 0 rfl) ?_
  refine va_tlen (v := 4) hx hb hE_56 hS rfl dJ1_charAt_3b067_2 ?_
  obtain ⟨hPc, hDc, hFc, hqc⟩ := cl_cut (wc := []) hP hD hS hA [] (by decide +kernel) rfl
  have hKc := hK.sub (tys' := []) [] rfl
  refine va_callv (va_runS (As := [.int 3, .int 4]) (rest := []) ⟨hx, hb, hml, hown, hts⟩ (c_J0_checkIndex_df160_3 l dC dI H.size) (va_cwS 2 hts gf_c_J1_charAt_3b067_15_c_J0_checkIndex_df160_3 rfl rfl rfl md_J0_checkIndex_df160 ⟨Nat.le_of_ble_eq_true rfl, Nat.le_of_ble_eq_true rfl⟩) ⟨fun a U g mk q => by obtain ⟨q0, q1, qP, qK, qD, qE0⟩ := q; exact ⟨q0, q1, qP, va_K.moved (u := U) (U := U.calling g mk a) (Vm.Alike.refl U.vm) qK, qD, va_Zq.moved (u := U) (U := U.calling g mk a) (Vm.Alike.refl U.vm) qE0⟩, fun U hU hW => ⟨rfl, by rw [hU], by rw [hU]; exact hPc, va_K.moved hW.alike hKc, hDc.weaken (fun _ _ _ _ => trivial), va_Zq.moved hW.alike (by rw [hU]; exact (hE_11.kept hS.2.1).narrow hFc)⟩⟩ rfl rfl hl.1 rfl (lv_room (Nat.le_of_ble_eq_true rfl)) dJ1_charAt_3b067_3 ⟨Nat.le_of_ble_eq_true rfl, Nat.le_of_ble_eq_true rfl⟩) hS (fun q _ h => hFc q h) hFc (fun u t H1 locs ht hvm hw hB hz1 hk1 hS => ?_)
  obtain ⟨hP1, hK1, hD1⟩ := hB
  rw [ht] at hP1
  have hP := bv_still hP hk1
  generalize H1 = H at hP hS ⊢
  as_aux_lemma =>
  have h_2 := hw
  refine lv_aload_n hx hb dJ1_charAt_3b067_6 rfl (lv_at hl 0 rfl) ?_
  refine lv_iload_n hx hb dJ1_charAt_3b067_7 rfl (lv_at hl 1 rfl) ?_
  refine va_tb (v := .int 104) hx hb hE_56 hS (by unfold vp_in; decide) rfl dJ1_charAt_3b067_8 ?_
  refine lv_sipush (v := 255) hx hb dJ1_charAt_3b067_9 kc_sipush_255 ?_
  refine lv_iand hx hb dJ1_charAt_3b067_12 ?_
  refine lv_topi (fun x_3 ex_3 => ?_)
  obtain rfl : x_3 = 104 := ex_3.trans (by decide +kernel)
  refine lv_i2c (v := 104) hx hb dJ1_charAt_3b067_13 (by decide +kernel) ?_
  have hK9 := hK.sub (tys' := []) [] rfl
  exact W.zret (v := 104) hx hb hr rfl (fun t ht hW => ⟨⟨104, (), rfl, ⟨rfl, (hR.trans hEX).symm⟩, by rw [ht]; exact hP, va_K.moved hW.alike hK9, hD⟩, hS.F ht⟩) hS.2.2 dJ1_charAt_3b067_14
noncomputable def wf_c_J0_charAt_5068e_15 : List Cond := .code yJ0_charAt_5068e cJ0_charAt_5068e 2 (some .char) :: ([.methodLink RJ0 492 yJ0_isLatin1_aae02, .instanceMethod yJ0_isLatin1_aae02, .selects RJ0 yJ0_isLatin1_aae02 yJ0_isLatin1_aae02, .initialized RJ0, .code yJ0_isLatin1_aae02 cJ0_isLatin1_aae02 1 (some .boolean), .fieldLink RJ0 38 "java/lang/String" "COMPACT_STRINGS" "Z", .fieldLink RJ0 15 "java/lang/String" "coder" "B", .fieldLink RJ0 9 "java/lang/String" "value" "[B", .methodLink RJ0 495 yJ1_charAt_3b067, .static yJ1_charAt_3b067, .initialized RJ1, .code yJ1_charAt_3b067 cJ1_charAt_3b067 2 (some .char), .methodLink RJ1 9 yJ0_checkIndex_df160, .static yJ0_checkIndex_df160, .code yJ0_checkIndex_df160 cJ0_checkIndex_df160 2 none, .fieldLink RJ0 1053 "jdk/internal/util/Preconditions" "SIOOBE_FORMATTER" "Ljava/util/function/BiFunction;", .methodLink RJ0 1059 yJ3_checkIndex_8e157, .static yJ3_checkIndex_8e157, .initialized RJ3, .code yJ3_checkIndex_8e157 cJ3_checkIndex_8e157 3 (some .int)])
set_option maxRecDepth 20000 in
theorem gf_c_J0_charAt_5068e_15_c_J0_isLatin1_aae02_8 : GoodIn wf_c_J0_charAt_5068e_15 (wsV RJ0 492 RJ0 yJ0_isLatin1_aae02 wf_c_J0_isLatin1_aae02_8) := goodIn_app (gi_l [1, 2, 3, 4] rfl rfl) (gi_cons (j := 5) rfl rfl (gi_l [6, 7] rfl rfl))
set_option maxRecDepth 20000 in
theorem gf_c_J0_charAt_5068e_15_c_J1_charAt_3b067_15 : GoodIn wf_c_J0_charAt_5068e_15 (va_wsS RJ0 495 yJ1_charAt_3b067 wf_c_J1_charAt_3b067_15) := goodIn_app (gi_l [9, 10, 11] rfl rfl) (gi_cons (j := 12) rfl rfl (gi_l [13, 14, 4, 15, 16, 17, 18, 19, 20] rfl rfl))
set_option maxHeartbeats 4000000 in
set_option maxRecDepth 100000 in
theorem c_J0_charAt_5068e_15 (l : Launch) (dC : Nat → ClassId) (dI : Nat → Nat → Nat) (sz : Nat) (ts8 : Nat) (tv8 : Nat) : Met l yJ0_charAt_5068e wf_c_J0_charAt_5068e_15 ({ frames := 3, cells := 0, slots := 0, locals := 64 }) (va_Pc [.ref ts8, .int 3] (fun U => U.heap.size = sz ∧ va_P (dC, dI) vwCl [] U.heap ∧ va_K (dC, dI) vwCl [] U ∧ va_D (fun _ => True) [] ∧ va_Z "java/lang/String" "COMPACT_STRINGS" "Z" (.int 1) (va_A [] sz) U U.heap ∧ va_OF "java/lang/String" "coder" "B" (.int 0) ts8 (va_A [] sz) U U.heap ∧ va_O "java/lang/String" ts8 (va_A [] sz) U U.heap ∧ va_OF "java/lang/String" "value" "[B" (.ref tv8) ts8 (va_A [] sz) U U.heap ∧ va_T .byte tv8 4 (fun j => .int ([119, 100, 116, 104].getD j 0)) (va_A [] sz) U U.heap ∧ va_Zq "jdk/internal/util/Preconditions" "SIOOBE_FORMATTER" "Ljava/util/function/BiFunction;" (va_A [] sz) U U.heap)) (va_Qi (fun (r : Int32) (u : Unit) => (r = 104 ∧ r = fx_c_J0_charAt_5068e_15)) (fun (u : Unit) t => va_P (dC, dI) vwCl [] t.heap ∧ va_K (dC, dI) vwCl [] t ∧ va_D (va_A [] sz) []) (va_A [] sz)) 0 0 (va_A [] sz) := by
  refine Met.ofW (cc := cJ0_charAt_5068e) (maxL := 2) (ret := (some .char)) (by decide +kernel) rfl ?_
  intro p e s m args below meth c s₁ B hml hv
  obtain ⟨rfl, hsz, hP, hK, hD0, hE_10, hE_54, hE_53, hE_55, hE_56, hE_11⟩ := hv
  have hx := B.exec
  have hb := B.bytes
  have hr := B.returns
  have hts := atoms_spec (ws := wf_c_J0_charAt_5068e_15) B.pre
  have hown : s.vm.findClass RJ0 = some m.cls := findClass_of_methodNamed B.named
  have hlocks := B.notSynchronized
  subst hsz
  have hD := hD0.self (sz := s.heap.size)
  generalize hAe : va_A [] s.heap.size = A at hD hE_10 hE_54 hE_53 hE_55 hE_56 hE_11 ⊢
  have hA : ∀ q : Nat, s.heap.size ≤ q → A q := fun q h => by rw [← hAe]; exact Or.inr h
  have hP : va_P (dC, dI) vwCl [] s.heap := hP
  have hl := lv_entry ([.ref ts8, .int 3]) (n := 2) (Nat.le_of_ble_eq_true rfl)
  rw [lg_entry_eq]
  generalize (lg_sl ([.ref ts8, .int 3]) ++ List.replicate (2 - (lg_sl ([.ref ts8, .int 3])).length) Slot.unset).toArray = ls at hl ⊢
  have hl : lv_has ls 2 [(0, .ref ts8), (1, .int 3)] := hl
  obtain ⟨H, hHe⟩ : ∃ H : Heap, s.heap = H := ⟨_, rfl⟩
  have hS : va_S A s.heap H [] := by rw [hHe]; exact va_S.rf
  have hP : va_P (dC, dI) vwCl [] H := by rw [← hHe]; exact hP
  rw [hHe]
  obtain ⟨RES, hR⟩ : ∃ z, fx_c_J0_charAt_5068e_15 = z := ⟨_, rfl⟩
  have hEX : RES = fx_c_J0_charAt_5068e_15 := hR.symm
  refine lv_aload_n hx hb dJ0_charAt_5068e_0 rfl (lv_at hl 0 rfl) ?_
  as_aux_lemma =>
  obtain ⟨hPc, hDc, hFc, hqc⟩ := cl_cut (wc := []) hP hD hS hA [] (by decide +kernel) rfl
  have hKc := hK.sub (tys' := []) [] rfl
  have hrv := bv_Orecv hE_53 hS
  refine va_calli (va_runV (As := []) (rest := []) ⟨hx, hb, hml, hown, hts⟩ (c_J0_isLatin1_aae02_8 l dC dI H.size ts8) (cwV 0 hts gf_c_J0_charAt_5068e_15_c_J0_isLatin1_aae02_8 rfl rfl rfl mdV_J0_isLatin1_aae02 ⟨Nat.le_of_ble_eq_true rfl, Nat.le_of_ble_eq_true rfl⟩) ⟨fun a U g mk q => by obtain ⟨q0, q1, qP, qK, qD, qE0, qE1⟩ := q; exact ⟨q0, q1, qP, va_K.moved (u := U) (U := U.calling g mk a) (Vm.Alike.refl U.vm) qK, qD, va_Z.moved (u := U) (U := U.calling g mk a) (Vm.Alike.refl U.vm) qE0, va_OF.moved (u := U) (U := U.calling g mk a) (Vm.Alike.refl U.vm) qE1⟩, hrv, fun U hU hW => ⟨rfl, by rw [hU], by rw [hU]; exact hPc, va_K.moved hW.alike hKc, hDc.weaken (fun _ _ _ _ => trivial), va_Z.moved hW.alike (by rw [hU]; exact (hE_10.kept hS.2.1).narrow hFc), va_OF.moved hW.alike (by rw [hU]; exact (hE_54.kept hS.2.1).narrow hFc)⟩⟩ rfl rfl hl.1 rfl (lv_room (Nat.le_of_ble_eq_true rfl)) dJ0_charAt_5068e_1 ⟨Nat.le_of_ble_eq_true rfl, Nat.le_of_ble_eq_true rfl⟩) hS (fun q _ h => hFc q h) hFc (fun r_1 u t H1 locs ht hvm hw hB hz1 hk1 hS => ?_)
  obtain ⟨hP1, hK1, hD1⟩ := hB
  rw [ht] at hP1
  have hP := bv_still hP hk1
  generalize H1 = H at hP hS ⊢
  as_aux_lemma =>
  rcases hw with ⟨h_2, h_3⟩
  have h_3 : r_1 = _ := h_3
  replace hEX := hEX.trans (exc1_eq h_3)
  rw [h_2]
  refine lv_if_eq (tgt := 16) hx hb dJ0_charAt_5068e_4 rfl (fun c_4 => absurd c_4 (by decide +kernel)) (fun c_4 => ?_)
  refine lv_aload_n hx hb dJ0_charAt_5068e_7 rfl (lv_at hl 0 rfl) ?_
  refine vk_getf hx hb hE_55 hS hown (hts (.fieldLink RJ0 9 "java/lang/String" "value" "[B") (List.mem_of_getElem? (i := 8) rfl)) (fun _ h9 => h9) dJ0_charAt_5068e_8 ?_
  refine lv_iload_n hx hb dJ0_charAt_5068e_11 rfl (lv_at hl 1 rfl) ?_
  obtain ⟨hPc, hDc, hFc, hqc⟩ := cl_cut (wc := []) hP hD hS hA [] (by decide +kernel) rfl
  have hKc := hK.sub (tys' := []) [] rfl
  refine va_calli (va_runS (As := [.ref tv8, .int 3]) (rest := []) ⟨hx, hb, hml, hown, hts⟩ (c_J1_charAt_3b067_15 l dC dI H.size tv8) (va_cwS 2 hts gf_c_J0_charAt_5068e_15_c_J1_charAt_3b067_15 rfl rfl rfl md_J1_charAt_3b067 ⟨Nat.le_of_ble_eq_true rfl, Nat.le_of_ble_eq_true rfl⟩) ⟨fun a U g mk q => by obtain ⟨q0, q1, qP, qK, qD, qE0, qE1⟩ := q; exact ⟨q0, q1, qP, va_K.moved (u := U) (U := U.calling g mk a) (Vm.Alike.refl U.vm) qK, qD, va_T.moved (u := U) (U := U.calling g mk a) (Vm.Alike.refl U.vm) qE0, va_Zq.moved (u := U) (U := U.calling g mk a) (Vm.Alike.refl U.vm) qE1⟩, fun U hU hW => ⟨rfl, by rw [hU], by rw [hU]; exact hPc, va_K.moved hW.alike hKc, hDc.weaken (fun _ _ _ _ => trivial), va_T.moved hW.alike (by rw [hU]; exact (hE_56.kept hS.2.1).narrow hFc), va_Zq.moved hW.alike (by rw [hU]; exact (hE_11.kept hS.2.1).narrow hFc)⟩⟩ rfl rfl hl.1 rfl (lv_room (Nat.le_of_ble_eq_true rfl)) dJ0_charAt_5068e_12 ⟨Nat.le_of_ble_eq_true rfl, Nat.le_of_ble_eq_true rfl⟩) hS (fun q _ h => hFc q h) hFc (fun r_5 u t H1 locs ht hvm hw hB hz1 hk1 hS => ?_)
  obtain ⟨hP1, hK1, hD1⟩ := hB
  rw [ht] at hP1
  have hP := bv_still hP hk1
  generalize H1 = H at hP hS ⊢
  as_aux_lemma =>
  rcases hw with ⟨h_6, h_7⟩
  have h_7 : r_5 = _ := h_7
  replace hEX := hEX.trans (exc1_eq h_7)
  rw [h_6]
  have hK9 := hK.sub (tys' := []) [] rfl
  exact W.zret (v := 104) hx hb hr rfl (fun t ht hW => ⟨⟨104, (), rfl, ⟨rfl, (hR.trans hEX).symm⟩, by rw [ht]; exact hP, va_K.moved hW.alike hK9, hD⟩, hS.F ht⟩) hS.2.2 dJ0_charAt_5068e_15
noncomputable def wf_c_X12_spotOf_4 : List Cond := .code yX12_spotOf cX12_spotOf 3 (some .int) :: ([.methodLink RX12 114 yJ0_length_8abf5, .instanceMethod yJ0_length_8abf5, .selects RJ0 yJ0_length_8abf5 yJ0_length_8abf5, .initialized RJ0, .code yJ0_length_8abf5 cJ0_length_8abf5 1 (some .int), .fieldLink RJ0 9 "java/lang/String" "value" "[B", .methodLink RJ0 335 yJ0_coder_7d493, .instanceMethod yJ0_coder_7d493, .selects RJ0 yJ0_coder_7d493 yJ0_coder_7d493, .code yJ0_coder_7d493 cJ0_coder_7d493 1 (some .byte), .fieldLink RJ0 38 "java/lang/String" "COMPACT_STRINGS" "Z", .fieldLink RJ0 15 "java/lang/String" "coder" "B", .methodLink RX12 120 yJ0_charAt_5068e, .instanceMethod yJ0_charAt_5068e, .selects RJ0 yJ0_charAt_5068e yJ0_charAt_5068e, .code yJ0_charAt_5068e cJ0_charAt_5068e 2 (some .char), .methodLink RJ0 492 yJ0_isLatin1_aae02, .instanceMethod yJ0_isLatin1_aae02, .selects RJ0 yJ0_isLatin1_aae02 yJ0_isLatin1_aae02, .code yJ0_isLatin1_aae02 cJ0_isLatin1_aae02 1 (some .boolean), .methodLink RJ0 495 yJ1_charAt_3b067, .static yJ1_charAt_3b067, .initialized RJ1, .code yJ1_charAt_3b067 cJ1_charAt_3b067 2 (some .char), .methodLink RJ1 9 yJ0_checkIndex_df160, .static yJ0_checkIndex_df160, .code yJ0_checkIndex_df160 cJ0_checkIndex_df160 2 none, .fieldLink RJ0 1053 "jdk/internal/util/Preconditions" "SIOOBE_FORMATTER" "Ljava/util/function/BiFunction;", .methodLink RJ0 1059 yJ3_checkIndex_8e157, .static yJ3_checkIndex_8e157, .initialized RJ3, .code yJ3_checkIndex_8e157 cJ3_checkIndex_8e157 3 (some .int)])
set_option maxRecDepth 20000 in
theorem gf_c_X12_spotOf_4_c_J0_length_8abf5_8 : GoodIn wf_c_X12_spotOf_4 (wsV RX12 114 RJ0 yJ0_length_8abf5 wf_c_J0_length_8abf5_8) := goodIn_app (gi_l [1, 2, 3, 4] rfl rfl) (gi_cons (j := 5) rfl rfl (gi_l [6, 7, 8, 9, 4, 10, 11, 12] rfl rfl))
set_option maxRecDepth 20000 in
theorem gf_c_X12_spotOf_4_c_J0_charAt_5068e_12 : GoodIn wf_c_X12_spotOf_4 (wsV RX12 120 RJ0 yJ0_charAt_5068e wf_c_J0_charAt_5068e_12) := goodIn_app (gi_l [13, 14, 15, 4] rfl rfl) (gi_cons (j := 16) rfl rfl (gi_l [17, 18, 19, 4, 20, 11, 12, 6, 21, 22, 23, 24, 25, 26, 27, 28, 29, 30, 31, 32] rfl rfl))
set_option maxRecDepth 20000 in
theorem gf_c_X12_spotOf_4_c_J0_charAt_5068e_13 : GoodIn wf_c_X12_spotOf_4 (wsV RX12 120 RJ0 yJ0_charAt_5068e wf_c_J0_charAt_5068e_13) := goodIn_app (gi_l [13, 14, 15, 4] rfl rfl) (gi_cons (j := 16) rfl rfl (gi_l [17, 18, 19, 4, 20, 11, 12, 6, 21, 22, 23, 24, 25, 26, 27, 28, 29, 30, 31, 32] rfl rfl))
set_option maxRecDepth 20000 in
theorem gf_c_X12_spotOf_4_c_J0_charAt_5068e_14 : GoodIn wf_c_X12_spotOf_4 (wsV RX12 120 RJ0 yJ0_charAt_5068e wf_c_J0_charAt_5068e_14) := goodIn_app (gi_l [13, 14, 15, 4] rfl rfl) (gi_cons (j := 16) rfl rfl (gi_l [17, 18, 19, 4, 20, 11, 12, 6, 21, 22, 23, 24, 25, 26, 27, 28, 29, 30, 31, 32] rfl rfl))
set_option maxRecDepth 20000 in
theorem gf_c_X12_spotOf_4_c_J0_charAt_5068e_15 : GoodIn wf_c_X12_spotOf_4 (wsV RX12 120 RJ0 yJ0_charAt_5068e wf_c_J0_charAt_5068e_15) := goodIn_app (gi_l [13, 14, 15, 4] rfl rfl) (gi_cons (j := 16) rfl rfl (gi_l [17, 18, 19, 4, 20, 11, 12, 6, 21, 22, 23, 24, 25, 26, 27, 28, 29, 30, 31, 32] rfl rfl))
set_option maxHeartbeats 4000000 in
set_option maxRecDepth 100000 in
theorem c_X12_spotOf_4 (l : Launch) (dC : Nat → ClassId) (dI : Nat → Nat → Nat) (sz : Nat) (ts8 : Nat) (tv8 : Nat) : Met l yX12_spotOf wf_c_X12_spotOf_4 ({ frames := 4, cells := 0, slots := 0, locals := 85 }) (va_Pc [.ref ts8, .int (-1)] (fun U => U.heap.size = sz ∧ va_P (dC, dI) vwCl [] U.heap ∧ va_K (dC, dI) vwCl [] U ∧ va_D (fun _ => True) [] ∧ va_OF "java/lang/String" "value" "[B" (.ref tv8) ts8 (va_A [] sz) U U.heap ∧ va_T .byte tv8 4 (fun j => .int ([119, 100, 116, 104].getD j 0)) (va_A [] sz) U U.heap ∧ va_Z "java/lang/String" "COMPACT_STRINGS" "Z" (.int 1) (va_A [] sz) U U.heap ∧ va_OF "java/lang/String" "coder" "B" (.int 0) ts8 (va_A [] sz) U U.heap ∧ va_O "java/lang/String" ts8 (va_A [] sz) U U.heap ∧ va_Zq "jdk/internal/util/Preconditions" "SIOOBE_FORMATTER" "Ljava/util/function/BiFunction;" (va_A [] sz) U U.heap)) (va_Qi (fun (r : Int32) (u : Unit) => (r = (-1) ∧ r = fx_c_X12_spotOf_4)) (fun (u : Unit) t => va_P (dC, dI) vwCl [] t.heap ∧ va_K (dC, dI) vwCl [] t ∧ va_D (va_A [] sz) []) (va_A [] sz)) 0 0 (va_A [] sz) := by
  refine Met.ofW (cc := cX12_spotOf) (maxL := 3) (ret := (some .int)) (by decide +kernel) rfl ?_
  intro p e s m args below meth c s₁ B hml hv
  obtain ⟨rfl, hsz, hP, hK, hD0, hE_55, hE_56, hE_10, hE_54, hE_53, hE_11⟩ := hv
  have hx := B.exec
  have hb := B.bytes
  have hr := B.returns
  have hts := atoms_spec (ws := wf_c_X12_spotOf_4) B.pre
  have hown : s.vm.findClass RX12 = some m.cls := findClass_of_methodNamed B.named
  have hlocks := B.notSynchronized
  subst hsz
  have hD := hD0.self (sz := s.heap.size)
  generalize hAe : va_A [] s.heap.size = A at hD hE_55 hE_56 hE_10 hE_54 hE_53 hE_11 ⊢
  have hA : ∀ q : Nat, s.heap.size ≤ q → A q := fun q h => by rw [← hAe]; exact Or.inr h
  have hP : va_P (dC, dI) vwCl [] s.heap := hP
  have hl := lv_entry ([.ref ts8, .int (-1)]) (n := 3) (Nat.le_of_ble_eq_true rfl)
  rw [lg_entry_eq]
  generalize (lg_sl ([.ref ts8, .int (-1)]) ++ List.replicate (3 - (lg_sl ([.ref ts8, .int (-1)])).length) Slot.unset).toArray = ls at hl ⊢
  have hl : lv_has ls 3 [(0, .ref ts8), (1, .int (-1))] := hl
  obtain ⟨H, hHe⟩ : ∃ H : Heap, s.heap = H := ⟨_, rfl⟩
  have hS : va_S A s.heap H [] := by rw [hHe]; exact va_S.rf
  have hP : va_P (dC, dI) vwCl [] H := by rw [← hHe]; exact hP
  rw [hHe]
  obtain ⟨RES, hR⟩ : ∃ z, fx_c_X12_spotOf_4 = z := ⟨_, rfl⟩
  have hEX : RES = fx_c_X12_spotOf_4 := hR.symm
  refine lv_iconst (v := 0) hx hb dX12_spotOf_0 kc_iconst_0 ?_
  as_aux_lemma =>
  refine lv_istore_n (lv' := [(2, .int 0), (0, .ref ts8), (1, .int (-1))]) hx hb dX12_spotOf_1 rfl hl (Nat.le_of_ble_eq_true rfl) rfl (fun ls hl => ?_)
  refine lv_iload_n hx hb dX12_spotOf_2 rfl (lv_at hl 0 rfl) ?_
  refine lv_aload_n hx hb dX12_spotOf_3 rfl (lv_at hl 1 rfl) ?_
  obtain ⟨hPc, hDc, hFc, hqc⟩ := cl_cut (wc := []) hP hD hS hA [] (by decide +kernel) rfl
  have hKc := hK.sub (tys' := []) [] rfl
  have hrv := bv_Orecv hE_53 hS
  refine va_calli (va_runV (As := []) (rest := [.int 0]) ⟨hx, hb, hml, hown, hts⟩ (c_J0_length_8abf5_8 l dC dI H.size ts8 tv8) (cwV 0 hts gf_c_X12_spotOf_4_c_J0_length_8abf5_8 rfl rfl rfl mdV_J0_length_8abf5 ⟨Nat.le_of_ble_eq_true rfl, Nat.le_of_ble_eq_true rfl⟩) ⟨fun a U g mk q => by obtain ⟨q0, q1, qP, qK, qD, qE0, qE1, qE2, qE3, qE4⟩ := q; exact ⟨q0, q1, qP, va_K.moved (u := U) (U := U.calling g mk a) (Vm.Alike.refl U.vm) qK, qD, va_OF.moved (u := U) (U := U.calling g mk a) (Vm.Alike.refl U.vm) qE0, va_T.moved (u := U) (U := U.calling g mk a) (Vm.Alike.refl U.vm) qE1, va_Z.moved (u := U) (U := U.calling g mk a) (Vm.Alike.refl U.vm) qE2, va_OF.moved (u := U) (U := U.calling g mk a) (Vm.Alike.refl U.vm) qE3, va_O.moved (u := U) (U := U.calling g mk a) (Vm.Alike.refl U.vm) qE4⟩, hrv, fun U hU hW => ⟨rfl, by rw [hU], by rw [hU]; exact hPc, va_K.moved hW.alike hKc, hDc.weaken (fun _ _ _ _ => trivial), va_OF.moved hW.alike (by rw [hU]; exact (hE_55.kept hS.2.1).narrow hFc), va_T.moved hW.alike (by rw [hU]; exact (hE_56.kept hS.2.1).narrow hFc), va_Z.moved hW.alike (by rw [hU]; exact (hE_10.kept hS.2.1).narrow hFc), va_OF.moved hW.alike (by rw [hU]; exact (hE_54.kept hS.2.1).narrow hFc), va_O.moved hW.alike (by rw [hU]; exact (hE_53.kept hS.2.1).narrow hFc)⟩⟩ rfl rfl hl.1 rfl (lv_room (Nat.le_of_ble_eq_true rfl)) dX12_spotOf_4 ⟨Nat.le_of_ble_eq_true rfl, Nat.le_of_ble_eq_true rfl⟩) hS (fun q _ h => hFc q h) hFc (fun r_1 u t H1 locs ht hvm hw hB hz1 hk1 hS => ?_)
  obtain ⟨hP1, hK1, hD1⟩ := hB
  rw [ht] at hP1
  have hP := bv_still hP hk1
  generalize H1 = H at hP hS ⊢
  as_aux_lemma =>
  rcases hw with ⟨h_2, h_3⟩
  have h_3 : r_1 = _ := h_3
  replace hEX := hEX.trans (exc1_eq h_3)
  rw [h_2]
  refine lv_icmp_ge (tgt := 27) hx hb dX12_spotOf_7 rfl (fun c_4 => absurd c_4 (by decide +kernel)) (fun c_4 => ?_)
  refine lv_aload_n hx hb dX12_spotOf_10 rfl (lv_at hl 1 rfl) ?_
  refine lv_iload_n hx hb dX12_spotOf_11 rfl (lv_at hl 0 rfl) ?_
  obtain ⟨hPc, hDc, hFc, hqc⟩ := cl_cut (wc := []) hP hD hS hA [] (by decide +kernel) rfl
  have hKc := hK.sub (tys' := []) [] rfl
  have hrv := bv_Orecv hE_53 hS
  refine va_calli (va_runV (As := [.int 0]) (rest := []) ⟨hx, hb, hml, hown, hts⟩ (c_J0_charAt_5068e_12 l dC dI H.size ts8 tv8) (cwV 1 hts gf_c_X12_spotOf_4_c_J0_charAt_5068e_12 rfl rfl rfl mdV_J0_charAt_5068e ⟨Nat.le_of_ble_eq_true rfl, Nat.le_of_ble_eq_true rfl⟩) ⟨fun a U g mk q => by obtain ⟨q0, q1, qP, qK, qD, qE0, qE1, qE2, qE3, qE4, qE5⟩ := q; exact ⟨q0, q1, qP, va_K.moved (u := U) (U := U.calling g mk a) (Vm.Alike.refl U.vm) qK, qD, va_Z.moved (u := U) (U := U.calling g mk a) (Vm.Alike.refl U.vm) qE0, va_OF.moved (u := U) (U := U.calling g mk a) (Vm.Alike.refl U.vm) qE1, va_O.moved (u := U) (U := U.calling g mk a) (Vm.Alike.refl U.vm) qE2, va_OF.moved (u := U) (U := U.calling g mk a) (Vm.Alike.refl U.vm) qE3, va_T.moved (u := U) (U := U.calling g mk a) (Vm.Alike.refl U.vm) qE4, va_Zq.moved (u := U) (U := U.calling g mk a) (Vm.Alike.refl U.vm) qE5⟩, hrv, fun U hU hW => ⟨rfl, by rw [hU], by rw [hU]; exact hPc, va_K.moved hW.alike hKc, hDc.weaken (fun _ _ _ _ => trivial), va_Z.moved hW.alike (by rw [hU]; exact (hE_10.kept hS.2.1).narrow hFc), va_OF.moved hW.alike (by rw [hU]; exact (hE_54.kept hS.2.1).narrow hFc), va_O.moved hW.alike (by rw [hU]; exact (hE_53.kept hS.2.1).narrow hFc), va_OF.moved hW.alike (by rw [hU]; exact (hE_55.kept hS.2.1).narrow hFc), va_T.moved hW.alike (by rw [hU]; exact (hE_56.kept hS.2.1).narrow hFc), va_Zq.moved hW.alike (by rw [hU]; exact (hE_11.kept hS.2.1).narrow hFc)⟩⟩ rfl rfl hl.1 rfl (lv_room (Nat.le_of_ble_eq_true rfl)) dX12_spotOf_12 ⟨Nat.le_of_ble_eq_true rfl, Nat.le_of_ble_eq_true rfl⟩) hS (fun q _ h => hFc q h) hFc (fun r_5 u t H1 locs ht hvm hw hB hz1 hk1 hS => ?_)
  obtain ⟨hP1, hK1, hD1⟩ := hB
  rw [ht] at hP1
  have hP := bv_still hP hk1
  generalize H1 = H at hP hS ⊢
  as_aux_lemma =>
  rcases hw with ⟨h_6, h_7⟩
  have h_7 : r_5 = _ := h_7
  replace hEX := hEX.trans (exc1_eq h_7)
  rw [h_6]
  refine lv_iload_n hx hb dX12_spotOf_15 rfl (lv_at hl 2 rfl) ?_
  refine lv_icmp_ne (tgt := 21) hx hb dX12_spotOf_16 rfl (fun c_8 => ?_) (fun c_8 => absurd c_8 (by decide +kernel))
  refine lv_iinc (v := 1) (lv' := [(2, .int 1), (0, .ref ts8), (1, .int (-1))]) hx hb dX12_spotOf_21 hl (k := 0) rfl (by decide +kernel) (Nat.le_of_ble_eq_true rfl) rfl (fun ls hl => ?_)
  refine lv_goto (tgt := 2) hx hb dX12_spotOf_24 rfl ?_
  refine lv_iload_n hx hb dX12_spotOf_2 rfl (lv_at hl 0 rfl) ?_
  refine lv_aload_n hx hb dX12_spotOf_3 rfl (lv_at hl 1 rfl) ?_
  obtain ⟨hPc, hDc, hFc, hqc⟩ := cl_cut (wc := []) hP hD hS hA [] (by decide +kernel) rfl
  have hKc := hK.sub (tys' := []) [] rfl
  have hrv := bv_Orecv hE_53 hS
  refine va_calli (va_runV (As := []) (rest := [.int 1]) ⟨hx, hb, hml, hown, hts⟩ (c_J0_length_8abf5_8 l dC dI H.size ts8 tv8) (cwV 0 hts gf_c_X12_spotOf_4_c_J0_length_8abf5_8 rfl rfl rfl mdV_J0_length_8abf5 ⟨Nat.le_of_ble_eq_true rfl, Nat.le_of_ble_eq_true rfl⟩) ⟨fun a U g mk q => by obtain ⟨q0, q1, qP, qK, qD, qE0, qE1, qE2, qE3, qE4⟩ := q; exact ⟨q0, q1, qP, va_K.moved (u := U) (U := U.calling g mk a) (Vm.Alike.refl U.vm) qK, qD, va_OF.moved (u := U) (U := U.calling g mk a) (Vm.Alike.refl U.vm) qE0, va_T.moved (u := U) (U := U.calling g mk a) (Vm.Alike.refl U.vm) qE1, va_Z.moved (u := U) (U := U.calling g mk a) (Vm.Alike.refl U.vm) qE2, va_OF.moved (u := U) (U := U.calling g mk a) (Vm.Alike.refl U.vm) qE3, va_O.moved (u := U) (U := U.calling g mk a) (Vm.Alike.refl U.vm) qE4⟩, hrv, fun U hU hW => ⟨rfl, by rw [hU], by rw [hU]; exact hPc, va_K.moved hW.alike hKc, hDc.weaken (fun _ _ _ _ => trivial), va_OF.moved hW.alike (by rw [hU]; exact (hE_55.kept hS.2.1).narrow hFc), va_T.moved hW.alike (by rw [hU]; exact (hE_56.kept hS.2.1).narrow hFc), va_Z.moved hW.alike (by rw [hU]; exact (hE_10.kept hS.2.1).narrow hFc), va_OF.moved hW.alike (by rw [hU]; exact (hE_54.kept hS.2.1).narrow hFc), va_O.moved hW.alike (by rw [hU]; exact (hE_53.kept hS.2.1).narrow hFc)⟩⟩ rfl rfl hl.1 rfl (lv_room (Nat.le_of_ble_eq_true rfl)) dX12_spotOf_4 ⟨Nat.le_of_ble_eq_true rfl, Nat.le_of_ble_eq_true rfl⟩) hS (fun q _ h => hFc q h) hFc (fun r_9 u t H1 locs ht hvm hw hB hz1 hk1 hS => ?_)
  as_aux_lemma =>
  obtain ⟨hP1, hK1, hD1⟩ := hB
  rw [ht] at hP1
  have hP := bv_still hP hk1
  generalize H1 = H at hP hS ⊢
  as_aux_lemma =>
  rcases hw with ⟨h_10, h_11⟩
  have h_11 : r_9 = _ := h_11
  replace hEX := hEX.trans (exc1_eq h_11)
  rw [h_10]
  refine lv_icmp_ge (tgt := 27) hx hb dX12_spotOf_7 rfl (fun c_12 => absurd c_12 (by decide +kernel)) (fun c_12 => ?_)
  refine lv_aload_n hx hb dX12_spotOf_10 rfl (lv_at hl 1 rfl) ?_
  refine lv_iload_n hx hb dX12_spotOf_11 rfl (lv_at hl 0 rfl) ?_
  obtain ⟨hPc, hDc, hFc, hqc⟩ := cl_cut (wc := []) hP hD hS hA [] (by decide +kernel) rfl
  have hKc := hK.sub (tys' := []) [] rfl
  have hrv := bv_Orecv hE_53 hS
  refine va_calli (va_runV (As := [.int 1]) (rest := []) ⟨hx, hb, hml, hown, hts⟩ (c_J0_charAt_5068e_13 l dC dI H.size ts8 tv8) (cwV 1 hts gf_c_X12_spotOf_4_c_J0_charAt_5068e_13 rfl rfl rfl mdV_J0_charAt_5068e ⟨Nat.le_of_ble_eq_true rfl, Nat.le_of_ble_eq_true rfl⟩) ⟨fun a U g mk q => by obtain ⟨q0, q1, qP, qK, qD, qE0, qE1, qE2, qE3, qE4, qE5⟩ := q; exact ⟨q0, q1, qP, va_K.moved (u := U) (U := U.calling g mk a) (Vm.Alike.refl U.vm) qK, qD, va_Z.moved (u := U) (U := U.calling g mk a) (Vm.Alike.refl U.vm) qE0, va_OF.moved (u := U) (U := U.calling g mk a) (Vm.Alike.refl U.vm) qE1, va_O.moved (u := U) (U := U.calling g mk a) (Vm.Alike.refl U.vm) qE2, va_OF.moved (u := U) (U := U.calling g mk a) (Vm.Alike.refl U.vm) qE3, va_T.moved (u := U) (U := U.calling g mk a) (Vm.Alike.refl U.vm) qE4, va_Zq.moved (u := U) (U := U.calling g mk a) (Vm.Alike.refl U.vm) qE5⟩, hrv, fun U hU hW => ⟨rfl, by rw [hU], by rw [hU]; exact hPc, va_K.moved hW.alike hKc, hDc.weaken (fun _ _ _ _ => trivial), va_Z.moved hW.alike (by rw [hU]; exact (hE_10.kept hS.2.1).narrow hFc), va_OF.moved hW.alike (by rw [hU]; exact (hE_54.kept hS.2.1).narrow hFc), va_O.moved hW.alike (by rw [hU]; exact (hE_53.kept hS.2.1).narrow hFc), va_OF.moved hW.alike (by rw [hU]; exact (hE_55.kept hS.2.1).narrow hFc), va_T.moved hW.alike (by rw [hU]; exact (hE_56.kept hS.2.1).narrow hFc), va_Zq.moved hW.alike (by rw [hU]; exact (hE_11.kept hS.2.1).narrow hFc)⟩⟩ rfl rfl hl.1 rfl (lv_room (Nat.le_of_ble_eq_true rfl)) dX12_spotOf_12 ⟨Nat.le_of_ble_eq_true rfl, Nat.le_of_ble_eq_true rfl⟩) hS (fun q _ h => hFc q h) hFc (fun r_13 u t H1 locs ht hvm hw hB hz1 hk1 hS => ?_)
  obtain ⟨hP1, hK1, hD1⟩ := hB
  rw [ht] at hP1
  have hP := bv_still hP hk1
  generalize H1 = H at hP hS ⊢
  as_aux_lemma =>
  rcases hw with ⟨h_14, h_15⟩
  have h_15 : r_13 = _ := h_15
  replace hEX := hEX.trans (exc1_eq h_15)
  rw [h_14]
  refine lv_iload_n hx hb dX12_spotOf_15 rfl (lv_at hl 2 rfl) ?_
  refine lv_icmp_ne (tgt := 21) hx hb dX12_spotOf_16 rfl (fun c_16 => ?_) (fun c_16 => absurd c_16 (by decide +kernel))
  refine lv_iinc (v := 2) (lv' := [(2, .int 2), (0, .ref ts8), (1, .int (-1))]) hx hb dX12_spotOf_21 hl (k := 0) rfl (by decide +kernel) (Nat.le_of_ble_eq_true rfl) rfl (fun ls hl => ?_)
  refine lv_goto (tgt := 2) hx hb dX12_spotOf_24 rfl ?_
  refine lv_iload_n hx hb dX12_spotOf_2 rfl (lv_at hl 0 rfl) ?_
  refine lv_aload_n hx hb dX12_spotOf_3 rfl (lv_at hl 1 rfl) ?_
  obtain ⟨hPc, hDc, hFc, hqc⟩ := cl_cut (wc := []) hP hD hS hA [] (by decide +kernel) rfl
  have hKc := hK.sub (tys' := []) [] rfl
  have hrv := bv_Orecv hE_53 hS
  refine va_calli (va_runV (As := []) (rest := [.int 2]) ⟨hx, hb, hml, hown, hts⟩ (c_J0_length_8abf5_8 l dC dI H.size ts8 tv8) (cwV 0 hts gf_c_X12_spotOf_4_c_J0_length_8abf5_8 rfl rfl rfl mdV_J0_length_8abf5 ⟨Nat.le_of_ble_eq_true rfl, Nat.le_of_ble_eq_true rfl⟩) ⟨fun a U g mk q => by obtain ⟨q0, q1, qP, qK, qD, qE0, qE1, qE2, qE3, qE4⟩ := q; exact ⟨q0, q1, qP, va_K.moved (u := U) (U := U.calling g mk a) (Vm.Alike.refl U.vm) qK, qD, va_OF.moved (u := U) (U := U.calling g mk a) (Vm.Alike.refl U.vm) qE0, va_T.moved (u := U) (U := U.calling g mk a) (Vm.Alike.refl U.vm) qE1, va_Z.moved (u := U) (U := U.calling g mk a) (Vm.Alike.refl U.vm) qE2, va_OF.moved (u := U) (U := U.calling g mk a) (Vm.Alike.refl U.vm) qE3, va_O.moved (u := U) (U := U.calling g mk a) (Vm.Alike.refl U.vm) qE4⟩, hrv, fun U hU hW => ⟨rfl, by rw [hU], by rw [hU]; exact hPc, va_K.moved hW.alike hKc, hDc.weaken (fun _ _ _ _ => trivial), va_OF.moved hW.alike (by rw [hU]; exact (hE_55.kept hS.2.1).narrow hFc), va_T.moved hW.alike (by rw [hU]; exact (hE_56.kept hS.2.1).narrow hFc), va_Z.moved hW.alike (by rw [hU]; exact (hE_10.kept hS.2.1).narrow hFc), va_OF.moved hW.alike (by rw [hU]; exact (hE_54.kept hS.2.1).narrow hFc), va_O.moved hW.alike (by rw [hU]; exact (hE_53.kept hS.2.1).narrow hFc)⟩⟩ rfl rfl hl.1 rfl (lv_room (Nat.le_of_ble_eq_true rfl)) dX12_spotOf_4 ⟨Nat.le_of_ble_eq_true rfl, Nat.le_of_ble_eq_true rfl⟩) hS (fun q _ h => hFc q h) hFc (fun r_17 u t H1 locs ht hvm hw hB hz1 hk1 hS => ?_)
  as_aux_lemma =>
  obtain ⟨hP1, hK1, hD1⟩ := hB
  rw [ht] at hP1
  have hP := bv_still hP hk1
  generalize H1 = H at hP hS ⊢
  as_aux_lemma =>
  rcases hw with ⟨h_18, h_19⟩
  have h_19 : r_17 = _ := h_19
  replace hEX := hEX.trans (exc1_eq h_19)
  rw [h_18]
  refine lv_icmp_ge (tgt := 27) hx hb dX12_spotOf_7 rfl (fun c_20 => absurd c_20 (by decide +kernel)) (fun c_20 => ?_)
  refine lv_aload_n hx hb dX12_spotOf_10 rfl (lv_at hl 1 rfl) ?_
  refine lv_iload_n hx hb dX12_spotOf_11 rfl (lv_at hl 0 rfl) ?_
  obtain ⟨hPc, hDc, hFc, hqc⟩ := cl_cut (wc := []) hP hD hS hA [] (by decide +kernel) rfl
  have hKc := hK.sub (tys' := []) [] rfl
  have hrv := bv_Orecv hE_53 hS
  refine va_calli (va_runV (As := [.int 2]) (rest := []) ⟨hx, hb, hml, hown, hts⟩ (c_J0_charAt_5068e_14 l dC dI H.size ts8 tv8) (cwV 1 hts gf_c_X12_spotOf_4_c_J0_charAt_5068e_14 rfl rfl rfl mdV_J0_charAt_5068e ⟨Nat.le_of_ble_eq_true rfl, Nat.le_of_ble_eq_true rfl⟩) ⟨fun a U g mk q => by obtain ⟨q0, q1, qP, qK, qD, qE0, qE1, qE2, qE3, qE4, qE5⟩ := q; exact ⟨q0, q1, qP, va_K.moved (u := U) (U := U.calling g mk a) (Vm.Alike.refl U.vm) qK, qD, va_Z.moved (u := U) (U := U.calling g mk a) (Vm.Alike.refl U.vm) qE0, va_OF.moved (u := U) (U := U.calling g mk a) (Vm.Alike.refl U.vm) qE1, va_O.moved (u := U) (U := U.calling g mk a) (Vm.Alike.refl U.vm) qE2, va_OF.moved (u := U) (U := U.calling g mk a) (Vm.Alike.refl U.vm) qE3, va_T.moved (u := U) (U := U.calling g mk a) (Vm.Alike.refl U.vm) qE4, va_Zq.moved (u := U) (U := U.calling g mk a) (Vm.Alike.refl U.vm) qE5⟩, hrv, fun U hU hW => ⟨rfl, by rw [hU], by rw [hU]; exact hPc, va_K.moved hW.alike hKc, hDc.weaken (fun _ _ _ _ => trivial), va_Z.moved hW.alike (by rw [hU]; exact (hE_10.kept hS.2.1).narrow hFc), va_OF.moved hW.alike (by rw [hU]; exact (hE_54.kept hS.2.1).narrow hFc), va_O.moved hW.alike (by rw [hU]; exact (hE_53.kept hS.2.1).narrow hFc), va_OF.moved hW.alike (by rw [hU]; exact (hE_55.kept hS.2.1).narrow hFc), va_T.moved hW.alike (by rw [hU]; exact (hE_56.kept hS.2.1).narrow hFc), va_Zq.moved hW.alike (by rw [hU]; exact (hE_11.kept hS.2.1).narrow hFc)⟩⟩ rfl rfl hl.1 rfl (lv_room (Nat.le_of_ble_eq_true rfl)) dX12_spotOf_12 ⟨Nat.le_of_ble_eq_true rfl, Nat.le_of_ble_eq_true rfl⟩) hS (fun q _ h => hFc q h) hFc (fun r_21 u t H1 locs ht hvm hw hB hz1 hk1 hS => ?_)
  obtain ⟨hP1, hK1, hD1⟩ := hB
  rw [ht] at hP1
  have hP := bv_still hP hk1
  generalize H1 = H at hP hS ⊢
  as_aux_lemma =>
  rcases hw with ⟨h_22, h_23⟩
  have h_23 : r_21 = _ := h_23
  replace hEX := hEX.trans (exc1_eq h_23)
  rw [h_22]
  refine lv_iload_n hx hb dX12_spotOf_15 rfl (lv_at hl 2 rfl) ?_
  refine lv_icmp_ne (tgt := 21) hx hb dX12_spotOf_16 rfl (fun c_24 => ?_) (fun c_24 => absurd c_24 (by decide +kernel))
  refine lv_iinc (v := 3) (lv' := [(2, .int 3), (0, .ref ts8), (1, .int (-1))]) hx hb dX12_spotOf_21 hl (k := 0) rfl (by decide +kernel) (Nat.le_of_ble_eq_true rfl) rfl (fun ls hl => ?_)
  refine lv_goto (tgt := 2) hx hb dX12_spotOf_24 rfl ?_
  refine lv_iload_n hx hb dX12_spotOf_2 rfl (lv_at hl 0 rfl) ?_
  refine lv_aload_n hx hb dX12_spotOf_3 rfl (lv_at hl 1 rfl) ?_
  obtain ⟨hPc, hDc, hFc, hqc⟩ := cl_cut (wc := []) hP hD hS hA [] (by decide +kernel) rfl
  have hKc := hK.sub (tys' := []) [] rfl
  have hrv := bv_Orecv hE_53 hS
  refine va_calli (va_runV (As := []) (rest := [.int 3]) ⟨hx, hb, hml, hown, hts⟩ (c_J0_length_8abf5_8 l dC dI H.size ts8 tv8) (cwV 0 hts gf_c_X12_spotOf_4_c_J0_length_8abf5_8 rfl rfl rfl mdV_J0_length_8abf5 ⟨Nat.le_of_ble_eq_true rfl, Nat.le_of_ble_eq_true rfl⟩) ⟨fun a U g mk q => by obtain ⟨q0, q1, qP, qK, qD, qE0, qE1, qE2, qE3, qE4⟩ := q; exact ⟨q0, q1, qP, va_K.moved (u := U) (U := U.calling g mk a) (Vm.Alike.refl U.vm) qK, qD, va_OF.moved (u := U) (U := U.calling g mk a) (Vm.Alike.refl U.vm) qE0, va_T.moved (u := U) (U := U.calling g mk a) (Vm.Alike.refl U.vm) qE1, va_Z.moved (u := U) (U := U.calling g mk a) (Vm.Alike.refl U.vm) qE2, va_OF.moved (u := U) (U := U.calling g mk a) (Vm.Alike.refl U.vm) qE3, va_O.moved (u := U) (U := U.calling g mk a) (Vm.Alike.refl U.vm) qE4⟩, hrv, fun U hU hW => ⟨rfl, by rw [hU], by rw [hU]; exact hPc, va_K.moved hW.alike hKc, hDc.weaken (fun _ _ _ _ => trivial), va_OF.moved hW.alike (by rw [hU]; exact (hE_55.kept hS.2.1).narrow hFc), va_T.moved hW.alike (by rw [hU]; exact (hE_56.kept hS.2.1).narrow hFc), va_Z.moved hW.alike (by rw [hU]; exact (hE_10.kept hS.2.1).narrow hFc), va_OF.moved hW.alike (by rw [hU]; exact (hE_54.kept hS.2.1).narrow hFc), va_O.moved hW.alike (by rw [hU]; exact (hE_53.kept hS.2.1).narrow hFc)⟩⟩ rfl rfl hl.1 rfl (lv_room (Nat.le_of_ble_eq_true rfl)) dX12_spotOf_4 ⟨Nat.le_of_ble_eq_true rfl, Nat.le_of_ble_eq_true rfl⟩) hS (fun q _ h => hFc q h) hFc (fun r_25 u t H1 locs ht hvm hw hB hz1 hk1 hS => ?_)
  as_aux_lemma =>
  obtain ⟨hP1, hK1, hD1⟩ := hB
  rw [ht] at hP1
  have hP := bv_still hP hk1
  generalize H1 = H at hP hS ⊢
  as_aux_lemma =>
  rcases hw with ⟨h_26, h_27⟩
  have h_27 : r_25 = _ := h_27
  replace hEX := hEX.trans (exc1_eq h_27)
  rw [h_26]
  refine lv_icmp_ge (tgt := 27) hx hb dX12_spotOf_7 rfl (fun c_28 => absurd c_28 (by decide +kernel)) (fun c_28 => ?_)
  refine lv_aload_n hx hb dX12_spotOf_10 rfl (lv_at hl 1 rfl) ?_
  refine lv_iload_n hx hb dX12_spotOf_11 rfl (lv_at hl 0 rfl) ?_
  obtain ⟨hPc, hDc, hFc, hqc⟩ := cl_cut (wc := []) hP hD hS hA [] (by decide +kernel) rfl
  have hKc := hK.sub (tys' := []) [] rfl
  have hrv := bv_Orecv hE_53 hS
  refine va_calli (va_runV (As := [.int 3]) (rest := []) ⟨hx, hb, hml, hown, hts⟩ (c_J0_charAt_5068e_15 l dC dI H.size ts8 tv8) (cwV 1 hts gf_c_X12_spotOf_4_c_J0_charAt_5068e_15 rfl rfl rfl mdV_J0_charAt_5068e ⟨Nat.le_of_ble_eq_true rfl, Nat.le_of_ble_eq_true rfl⟩) ⟨fun a U g mk q => by obtain ⟨q0, q1, qP, qK, qD, qE0, qE1, qE2, qE3, qE4, qE5⟩ := q; exact ⟨q0, q1, qP, va_K.moved (u := U) (U := U.calling g mk a) (Vm.Alike.refl U.vm) qK, qD, va_Z.moved (u := U) (U := U.calling g mk a) (Vm.Alike.refl U.vm) qE0, va_OF.moved (u := U) (U := U.calling g mk a) (Vm.Alike.refl U.vm) qE1, va_O.moved (u := U) (U := U.calling g mk a) (Vm.Alike.refl U.vm) qE2, va_OF.moved (u := U) (U := U.calling g mk a) (Vm.Alike.refl U.vm) qE3, va_T.moved (u := U) (U := U.calling g mk a) (Vm.Alike.refl U.vm) qE4, va_Zq.moved (u := U) (U := U.calling g mk a) (Vm.Alike.refl U.vm) qE5⟩, hrv, fun U hU hW => ⟨rfl, by rw [hU], by rw [hU]; exact hPc, va_K.moved hW.alike hKc, hDc.weaken (fun _ _ _ _ => trivial), va_Z.moved hW.alike (by rw [hU]; exact (hE_10.kept hS.2.1).narrow hFc), va_OF.moved hW.alike (by rw [hU]; exact (hE_54.kept hS.2.1).narrow hFc), va_O.moved hW.alike (by rw [hU]; exact (hE_53.kept hS.2.1).narrow hFc), va_OF.moved hW.alike (by rw [hU]; exact (hE_55.kept hS.2.1).narrow hFc), va_T.moved hW.alike (by rw [hU]; exact (hE_56.kept hS.2.1).narrow hFc), va_Zq.moved hW.alike (by rw [hU]; exact (hE_11.kept hS.2.1).narrow hFc)⟩⟩ rfl rfl hl.1 rfl (lv_room (Nat.le_of_ble_eq_true rfl)) dX12_spotOf_12 ⟨Nat.le_of_ble_eq_true rfl, Nat.le_of_ble_eq_true rfl⟩) hS (fun q _ h => hFc q h) hFc (fun r_29 u t H1 locs ht hvm hw hB hz1 hk1 hS => ?_)
  obtain ⟨hP1, hK1, hD1⟩ := hB
  rw [ht] at hP1
  have hP := bv_still hP hk1
  generalize H1 = H at hP hS ⊢
  as_aux_lemma =>
  rcases hw with ⟨h_30, h_31⟩
  have h_31 : r_29 = _ := h_31
  replace hEX := hEX.trans (exc1_eq h_31)
  rw [h_30]
  refine lv_iload_n hx hb dX12_spotOf_15 rfl (lv_at hl 2 rfl) ?_
  refine lv_icmp_ne (tgt := 21) hx hb dX12_spotOf_16 rfl (fun c_32 => ?_) (fun c_32 => absurd c_32 (by decide +kernel))
  refine lv_iinc (v := 4) (lv' := [(2, .int 4), (0, .ref ts8), (1, .int (-1))]) hx hb dX12_spotOf_21 hl (k := 0) rfl (by decide +kernel) (Nat.le_of_ble_eq_true rfl) rfl (fun ls hl => ?_)
  refine lv_goto (tgt := 2) hx hb dX12_spotOf_24 rfl ?_
  refine lv_iload_n hx hb dX12_spotOf_2 rfl (lv_at hl 0 rfl) ?_
  refine lv_aload_n hx hb dX12_spotOf_3 rfl (lv_at hl 1 rfl) ?_
  obtain ⟨hPc, hDc, hFc, hqc⟩ := cl_cut (wc := []) hP hD hS hA [] (by decide +kernel) rfl
  have hKc := hK.sub (tys' := []) [] rfl
  have hrv := bv_Orecv hE_53 hS
  refine va_calli (va_runV (As := []) (rest := [.int 4]) ⟨hx, hb, hml, hown, hts⟩ (c_J0_length_8abf5_8 l dC dI H.size ts8 tv8) (cwV 0 hts gf_c_X12_spotOf_4_c_J0_length_8abf5_8 rfl rfl rfl mdV_J0_length_8abf5 ⟨Nat.le_of_ble_eq_true rfl, Nat.le_of_ble_eq_true rfl⟩) ⟨fun a U g mk q => by obtain ⟨q0, q1, qP, qK, qD, qE0, qE1, qE2, qE3, qE4⟩ := q; exact ⟨q0, q1, qP, va_K.moved (u := U) (U := U.calling g mk a) (Vm.Alike.refl U.vm) qK, qD, va_OF.moved (u := U) (U := U.calling g mk a) (Vm.Alike.refl U.vm) qE0, va_T.moved (u := U) (U := U.calling g mk a) (Vm.Alike.refl U.vm) qE1, va_Z.moved (u := U) (U := U.calling g mk a) (Vm.Alike.refl U.vm) qE2, va_OF.moved (u := U) (U := U.calling g mk a) (Vm.Alike.refl U.vm) qE3, va_O.moved (u := U) (U := U.calling g mk a) (Vm.Alike.refl U.vm) qE4⟩, hrv, fun U hU hW => ⟨rfl, by rw [hU], by rw [hU]; exact hPc, va_K.moved hW.alike hKc, hDc.weaken (fun _ _ _ _ => trivial), va_OF.moved hW.alike (by rw [hU]; exact (hE_55.kept hS.2.1).narrow hFc), va_T.moved hW.alike (by rw [hU]; exact (hE_56.kept hS.2.1).narrow hFc), va_Z.moved hW.alike (by rw [hU]; exact (hE_10.kept hS.2.1).narrow hFc), va_OF.moved hW.alike (by rw [hU]; exact (hE_54.kept hS.2.1).narrow hFc), va_O.moved hW.alike (by rw [hU]; exact (hE_53.kept hS.2.1).narrow hFc)⟩⟩ rfl rfl hl.1 rfl (lv_room (Nat.le_of_ble_eq_true rfl)) dX12_spotOf_4 ⟨Nat.le_of_ble_eq_true rfl, Nat.le_of_ble_eq_true rfl⟩) hS (fun q _ h => hFc q h) hFc (fun r_33 u t H1 locs ht hvm hw hB hz1 hk1 hS => ?_)
  as_aux_lemma =>
  obtain ⟨hP1, hK1, hD1⟩ := hB
  rw [ht] at hP1
  have hP := bv_still hP hk1
  generalize H1 = H at hP hS ⊢
  as_aux_lemma =>
  rcases hw with ⟨h_34, h_35⟩
  have h_35 : r_33 = _ := h_35
  replace hEX := hEX.trans (exc1_eq h_35)
  rw [h_34]
  refine lv_icmp_ge (tgt := 27) hx hb dX12_spotOf_7 rfl (fun c_36 => ?_) (fun c_36 => absurd c_36 (by decide +kernel))
  refine lv_iconst (v := (-1)) hx hb dX12_spotOf_27 kc_iconst_m1 ?_
  have hK9 := hK.sub (tys' := []) [] rfl
  exact W.iret (v := (-1)) hx hb hr (fun t ht hW => ⟨⟨(-1), (), rfl, ⟨rfl, (hR.trans hEX).symm⟩, by rw [ht]; exact hP, va_K.moved hW.alike hK9, hD⟩, hS.F ht⟩) hS.2.2 dX12_spotOf_28
noncomputable def wf_c_X12_spotOf_5 : List Cond := .code yX12_spotOf cX12_spotOf 3 (some .int) :: ([.methodLink RX12 114 yJ0_length_8abf5, .instanceMethod yJ0_length_8abf5, .selects RJ0 yJ0_length_8abf5 yJ0_length_8abf5, .initialized RJ0, .code yJ0_length_8abf5 cJ0_length_8abf5 1 (some .int), .fieldLink RJ0 9 "java/lang/String" "value" "[B", .methodLink RJ0 335 yJ0_coder_7d493, .instanceMethod yJ0_coder_7d493, .selects RJ0 yJ0_coder_7d493 yJ0_coder_7d493, .code yJ0_coder_7d493 cJ0_coder_7d493 1 (some .byte), .fieldLink RJ0 38 "java/lang/String" "COMPACT_STRINGS" "Z", .fieldLink RJ0 15 "java/lang/String" "coder" "B", .methodLink RX12 120 yJ0_charAt_5068e, .instanceMethod yJ0_charAt_5068e, .selects RJ0 yJ0_charAt_5068e yJ0_charAt_5068e, .code yJ0_charAt_5068e cJ0_charAt_5068e 2 (some .char), .methodLink RJ0 492 yJ0_isLatin1_aae02, .instanceMethod yJ0_isLatin1_aae02, .selects RJ0 yJ0_isLatin1_aae02 yJ0_isLatin1_aae02, .code yJ0_isLatin1_aae02 cJ0_isLatin1_aae02 1 (some .boolean), .methodLink RJ0 495 yJ1_charAt_3b067, .static yJ1_charAt_3b067, .initialized RJ1, .code yJ1_charAt_3b067 cJ1_charAt_3b067 2 (some .char), .methodLink RJ1 9 yJ0_checkIndex_df160, .static yJ0_checkIndex_df160, .code yJ0_checkIndex_df160 cJ0_checkIndex_df160 2 none, .fieldLink RJ0 1053 "jdk/internal/util/Preconditions" "SIOOBE_FORMATTER" "Ljava/util/function/BiFunction;", .methodLink RJ0 1059 yJ3_checkIndex_8e157, .static yJ3_checkIndex_8e157, .initialized RJ3, .code yJ3_checkIndex_8e157 cJ3_checkIndex_8e157 3 (some .int)])
set_option maxRecDepth 20000 in
theorem gf_c_X12_spotOf_5_c_J0_length_8abf5_8 : GoodIn wf_c_X12_spotOf_5 (wsV RX12 114 RJ0 yJ0_length_8abf5 wf_c_J0_length_8abf5_8) := goodIn_app (gi_l [1, 2, 3, 4] rfl rfl) (gi_cons (j := 5) rfl rfl (gi_l [6, 7, 8, 9, 4, 10, 11, 12] rfl rfl))
set_option maxRecDepth 20000 in
theorem gf_c_X12_spotOf_5_c_J0_charAt_5068e_12 : GoodIn wf_c_X12_spotOf_5 (wsV RX12 120 RJ0 yJ0_charAt_5068e wf_c_J0_charAt_5068e_12) := goodIn_app (gi_l [13, 14, 15, 4] rfl rfl) (gi_cons (j := 16) rfl rfl (gi_l [17, 18, 19, 4, 20, 11, 12, 6, 21, 22, 23, 24, 25, 26, 27, 28, 29, 30, 31, 32] rfl rfl))
set_option maxRecDepth 20000 in
theorem gf_c_X12_spotOf_5_c_J0_charAt_5068e_13 : GoodIn wf_c_X12_spotOf_5 (wsV RX12 120 RJ0 yJ0_charAt_5068e wf_c_J0_charAt_5068e_13) := goodIn_app (gi_l [13, 14, 15, 4] rfl rfl) (gi_cons (j := 16) rfl rfl (gi_l [17, 18, 19, 4, 20, 11, 12, 6, 21, 22, 23, 24, 25, 26, 27, 28, 29, 30, 31, 32] rfl rfl))
set_option maxRecDepth 20000 in
theorem gf_c_X12_spotOf_5_c_J0_charAt_5068e_14 : GoodIn wf_c_X12_spotOf_5 (wsV RX12 120 RJ0 yJ0_charAt_5068e wf_c_J0_charAt_5068e_14) := goodIn_app (gi_l [13, 14, 15, 4] rfl rfl) (gi_cons (j := 16) rfl rfl (gi_l [17, 18, 19, 4, 20, 11, 12, 6, 21, 22, 23, 24, 25, 26, 27, 28, 29, 30, 31, 32] rfl rfl))
set_option maxRecDepth 20000 in
theorem gf_c_X12_spotOf_5_c_J0_charAt_5068e_15 : GoodIn wf_c_X12_spotOf_5 (wsV RX12 120 RJ0 yJ0_charAt_5068e wf_c_J0_charAt_5068e_15) := goodIn_app (gi_l [13, 14, 15, 4] rfl rfl) (gi_cons (j := 16) rfl rfl (gi_l [17, 18, 19, 4, 20, 11, 12, 6, 21, 22, 23, 24, 25, 26, 27, 28, 29, 30, 31, 32] rfl rfl))
set_option maxHeartbeats 4000000 in
set_option maxRecDepth 100000 in
theorem c_X12_spotOf_5 (l : Launch) (dC : Nat → ClassId) (dI : Nat → Nat → Nat) (sz : Nat) (ts8 : Nat) (p1 : Int32) (tv8 : Nat) (g_p1 : RG p1 0 255) : Met l yX12_spotOf wf_c_X12_spotOf_5 ({ frames := 4, cells := 0, slots := 0, locals := 85 }) (va_Pc [.ref ts8, .int p1] (fun U => U.heap.size = sz ∧ va_P (dC, dI) vwCl [] U.heap ∧ va_K (dC, dI) vwCl [] U ∧ va_D (fun _ => True) [] ∧ va_OF "java/lang/String" "value" "[B" (.ref tv8) ts8 (va_A [] sz) U U.heap ∧ va_T .byte tv8 4 (fun j => .int ([119, 100, 116, 104].getD j 0)) (va_A [] sz) U U.heap ∧ va_Z "java/lang/String" "COMPACT_STRINGS" "Z" (.int 1) (va_A [] sz) U U.heap ∧ va_OF "java/lang/String" "coder" "B" (.int 0) ts8 (va_A [] sz) U U.heap ∧ va_O "java/lang/String" ts8 (va_A [] sz) U U.heap ∧ va_Zq "jdk/internal/util/Preconditions" "SIOOBE_FORMATTER" "Ljava/util/function/BiFunction;" (va_A [] sz) U U.heap)) (va_Qi (fun (r : Int32) (u : Unit) => (r = (-1) ∧ r = fx_c_X12_spotOf_5 p1) ∨ (r = 3 ∧ RG p1 104 104 ∧ r = fx_c_X12_spotOf_5 p1) ∨ (r = 2 ∧ RG p1 116 116 ∧ r = fx_c_X12_spotOf_5 p1) ∨ (r = 1 ∧ RG p1 100 100 ∧ r = fx_c_X12_spotOf_5 p1) ∨ (r = 0 ∧ RG p1 119 119 ∧ r = fx_c_X12_spotOf_5 p1)) (fun (u : Unit) t => va_P (dC, dI) vwCl [] t.heap ∧ va_K (dC, dI) vwCl [] t ∧ va_D (va_A [] sz) []) (va_A [] sz)) 0 0 (va_A [] sz) := by
  refine Met.ofW (cc := cX12_spotOf) (maxL := 3) (ret := (some .int)) (by decide +kernel) rfl ?_
  intro p e s m args below meth c s₁ B hml hv
  obtain ⟨rfl, hsz, hP, hK, hD0, hE_55, hE_56, hE_10, hE_54, hE_53, hE_11⟩ := hv
  have hx := B.exec
  have hb := B.bytes
  have hr := B.returns
  have hts := atoms_spec (ws := wf_c_X12_spotOf_5) B.pre
  have hown : s.vm.findClass RX12 = some m.cls := findClass_of_methodNamed B.named
  have hlocks := B.notSynchronized
  subst hsz
  have hD := hD0.self (sz := s.heap.size)
  generalize hAe : va_A [] s.heap.size = A at hD hE_55 hE_56 hE_10 hE_54 hE_53 hE_11 ⊢
  have hA : ∀ q : Nat, s.heap.size ≤ q → A q := fun q h => by rw [← hAe]; exact Or.inr h
  have hP : va_P (dC, dI) vwCl [] s.heap := hP
  have hl := lv_entry ([.ref ts8, .int p1]) (n := 3) (Nat.le_of_ble_eq_true rfl)
  rw [lg_entry_eq]
  generalize (lg_sl ([.ref ts8, .int p1]) ++ List.replicate (3 - (lg_sl ([.ref ts8, .int p1])).length) Slot.unset).toArray = ls at hl ⊢
  have hl : lv_has ls 3 [(0, .ref ts8), (1, .int p1)] := hl
  obtain ⟨H, hHe⟩ : ∃ H : Heap, s.heap = H := ⟨_, rfl⟩
  have hS : va_S A s.heap H [] := by rw [hHe]; exact va_S.rf
  have hP : va_P (dC, dI) vwCl [] H := by rw [← hHe]; exact hP
  rw [hHe]
  obtain ⟨RES, hR⟩ : ∃ z, fx_c_X12_spotOf_5 p1 = z := ⟨_, rfl⟩
  have hEX : RES = fx_c_X12_spotOf_5 p1 := hR.symm
  refine lv_iconst (v := 0) hx hb dX12_spotOf_0 kc_iconst_0 ?_
  as_aux_lemma =>
  refine lv_istore_n (lv' := [(2, .int 0), (0, .ref ts8), (1, .int p1)]) hx hb dX12_spotOf_1 rfl hl (Nat.le_of_ble_eq_true rfl) rfl (fun ls hl => ?_)
  refine lv_iload_n hx hb dX12_spotOf_2 rfl (lv_at hl 0 rfl) ?_
  refine lv_aload_n hx hb dX12_spotOf_3 rfl (lv_at hl 1 rfl) ?_
  obtain ⟨hPc, hDc, hFc, hqc⟩ := cl_cut (wc := []) hP hD hS hA [] (by decide +kernel) rfl
  have hKc := hK.sub (tys' := []) [] rfl
  have hrv := bv_Orecv hE_53 hS
  refine va_calli (va_runV (As := []) (rest := [.int 0]) ⟨hx, hb, hml, hown, hts⟩ (c_J0_length_8abf5_8 l dC dI H.size ts8 tv8) (cwV 0 hts gf_c_X12_spotOf_5_c_J0_length_8abf5_8 rfl rfl rfl mdV_J0_length_8abf5 ⟨Nat.le_of_ble_eq_true rfl, Nat.le_of_ble_eq_true rfl⟩) ⟨fun a U g mk q => by obtain ⟨q0, q1, qP, qK, qD, qE0, qE1, qE2, qE3, qE4⟩ := q; exact ⟨q0, q1, qP, va_K.moved (u := U) (U := U.calling g mk a) (Vm.Alike.refl U.vm) qK, qD, va_OF.moved (u := U) (U := U.calling g mk a) (Vm.Alike.refl U.vm) qE0, va_T.moved (u := U) (U := U.calling g mk a) (Vm.Alike.refl U.vm) qE1, va_Z.moved (u := U) (U := U.calling g mk a) (Vm.Alike.refl U.vm) qE2, va_OF.moved (u := U) (U := U.calling g mk a) (Vm.Alike.refl U.vm) qE3, va_O.moved (u := U) (U := U.calling g mk a) (Vm.Alike.refl U.vm) qE4⟩, hrv, fun U hU hW => ⟨rfl, by rw [hU], by rw [hU]; exact hPc, va_K.moved hW.alike hKc, hDc.weaken (fun _ _ _ _ => trivial), va_OF.moved hW.alike (by rw [hU]; exact (hE_55.kept hS.2.1).narrow hFc), va_T.moved hW.alike (by rw [hU]; exact (hE_56.kept hS.2.1).narrow hFc), va_Z.moved hW.alike (by rw [hU]; exact (hE_10.kept hS.2.1).narrow hFc), va_OF.moved hW.alike (by rw [hU]; exact (hE_54.kept hS.2.1).narrow hFc), va_O.moved hW.alike (by rw [hU]; exact (hE_53.kept hS.2.1).narrow hFc)⟩⟩ rfl rfl hl.1 rfl (lv_room (Nat.le_of_ble_eq_true rfl)) dX12_spotOf_4 ⟨Nat.le_of_ble_eq_true rfl, Nat.le_of_ble_eq_true rfl⟩) hS (fun q _ h => hFc q h) hFc (fun r_1 u t H1 locs ht hvm hw hB hz1 hk1 hS => ?_)
  obtain ⟨hP1, hK1, hD1⟩ := hB
  rw [ht] at hP1
  have hP := bv_still hP hk1
  generalize H1 = H at hP hS ⊢
  as_aux_lemma =>
  rcases hw with ⟨h_2, h_3⟩
  have h_3 : r_1 = _ := h_3
  replace hEX := hEX.trans (exc1_eq h_3)
  rw [h_2]
  refine lv_icmp_ge (tgt := 27) hx hb dX12_spotOf_7 rfl (fun c_4 => absurd c_4 (by decide +kernel)) (fun c_4 => ?_)
  refine lv_aload_n hx hb dX12_spotOf_10 rfl (lv_at hl 1 rfl) ?_
  refine lv_iload_n hx hb dX12_spotOf_11 rfl (lv_at hl 0 rfl) ?_
  obtain ⟨hPc, hDc, hFc, hqc⟩ := cl_cut (wc := []) hP hD hS hA [] (by decide +kernel) rfl
  have hKc := hK.sub (tys' := []) [] rfl
  have hrv := bv_Orecv hE_53 hS
  refine va_calli (va_runV (As := [.int 0]) (rest := []) ⟨hx, hb, hml, hown, hts⟩ (c_J0_charAt_5068e_12 l dC dI H.size ts8 tv8) (cwV 1 hts gf_c_X12_spotOf_5_c_J0_charAt_5068e_12 rfl rfl rfl mdV_J0_charAt_5068e ⟨Nat.le_of_ble_eq_true rfl, Nat.le_of_ble_eq_true rfl⟩) ⟨fun a U g mk q => by obtain ⟨q0, q1, qP, qK, qD, qE0, qE1, qE2, qE3, qE4, qE5⟩ := q; exact ⟨q0, q1, qP, va_K.moved (u := U) (U := U.calling g mk a) (Vm.Alike.refl U.vm) qK, qD, va_Z.moved (u := U) (U := U.calling g mk a) (Vm.Alike.refl U.vm) qE0, va_OF.moved (u := U) (U := U.calling g mk a) (Vm.Alike.refl U.vm) qE1, va_O.moved (u := U) (U := U.calling g mk a) (Vm.Alike.refl U.vm) qE2, va_OF.moved (u := U) (U := U.calling g mk a) (Vm.Alike.refl U.vm) qE3, va_T.moved (u := U) (U := U.calling g mk a) (Vm.Alike.refl U.vm) qE4, va_Zq.moved (u := U) (U := U.calling g mk a) (Vm.Alike.refl U.vm) qE5⟩, hrv, fun U hU hW => ⟨rfl, by rw [hU], by rw [hU]; exact hPc, va_K.moved hW.alike hKc, hDc.weaken (fun _ _ _ _ => trivial), va_Z.moved hW.alike (by rw [hU]; exact (hE_10.kept hS.2.1).narrow hFc), va_OF.moved hW.alike (by rw [hU]; exact (hE_54.kept hS.2.1).narrow hFc), va_O.moved hW.alike (by rw [hU]; exact (hE_53.kept hS.2.1).narrow hFc), va_OF.moved hW.alike (by rw [hU]; exact (hE_55.kept hS.2.1).narrow hFc), va_T.moved hW.alike (by rw [hU]; exact (hE_56.kept hS.2.1).narrow hFc), va_Zq.moved hW.alike (by rw [hU]; exact (hE_11.kept hS.2.1).narrow hFc)⟩⟩ rfl rfl hl.1 rfl (lv_room (Nat.le_of_ble_eq_true rfl)) dX12_spotOf_12 ⟨Nat.le_of_ble_eq_true rfl, Nat.le_of_ble_eq_true rfl⟩) hS (fun q _ h => hFc q h) hFc (fun r_5 u t H1 locs ht hvm hw hB hz1 hk1 hS => ?_)
  obtain ⟨hP1, hK1, hD1⟩ := hB
  rw [ht] at hP1
  have hP := bv_still hP hk1
  generalize H1 = H at hP hS ⊢
  as_aux_lemma =>
  rcases hw with ⟨h_6, h_7⟩
  have h_7 : r_5 = _ := h_7
  replace hEX := hEX.trans (exc1_eq h_7)
  rw [h_6]
  refine lv_iload_n hx hb dX12_spotOf_15 rfl (lv_at hl 2 rfl) ?_
  refine lv_icmp_ne (tgt := 21) hx hb dX12_spotOf_16 rfl (fun c_8 => ?_) (fun c_8 => ?_)
  · replace hEX := hEX.trans (if_neg c_8)
    refine lv_iinc (v := 1) (lv' := [(2, .int 1), (0, .ref ts8), (1, .int p1)]) hx hb dX12_spotOf_21 hl (k := 0) rfl (by decide +kernel) (Nat.le_of_ble_eq_true rfl) rfl (fun ls hl => ?_)
    refine lv_goto (tgt := 2) hx hb dX12_spotOf_24 rfl ?_
    refine lv_iload_n hx hb dX12_spotOf_2 rfl (lv_at hl 0 rfl) ?_
    refine lv_aload_n hx hb dX12_spotOf_3 rfl (lv_at hl 1 rfl) ?_
    obtain ⟨hPc, hDc, hFc, hqc⟩ := cl_cut (wc := []) hP hD hS hA [] (by decide +kernel) rfl
    have hKc := hK.sub (tys' := []) [] rfl
    have hrv := bv_Orecv hE_53 hS
    refine va_calli (va_runV (As := []) (rest := [.int 1]) ⟨hx, hb, hml, hown, hts⟩ (c_J0_length_8abf5_8 l dC dI H.size ts8 tv8) (cwV 0 hts gf_c_X12_spotOf_5_c_J0_length_8abf5_8 rfl rfl rfl mdV_J0_length_8abf5 ⟨Nat.le_of_ble_eq_true rfl, Nat.le_of_ble_eq_true rfl⟩) ⟨fun a U g mk q => by obtain ⟨q0, q1, qP, qK, qD, qE0, qE1, qE2, qE3, qE4⟩ := q; exact ⟨q0, q1, qP, va_K.moved (u := U) (U := U.calling g mk a) (Vm.Alike.refl U.vm) qK, qD, va_OF.moved (u := U) (U := U.calling g mk a) (Vm.Alike.refl U.vm) qE0, va_T.moved (u := U) (U := U.calling g mk a) (Vm.Alike.refl U.vm) qE1, va_Z.moved (u := U) (U := U.calling g mk a) (Vm.Alike.refl U.vm) qE2, va_OF.moved (u := U) (U := U.calling g mk a) (Vm.Alike.refl U.vm) qE3, va_O.moved (u := U) (U := U.calling g mk a) (Vm.Alike.refl U.vm) qE4⟩, hrv, fun U hU hW => ⟨rfl, by rw [hU], by rw [hU]; exact hPc, va_K.moved hW.alike hKc, hDc.weaken (fun _ _ _ _ => trivial), va_OF.moved hW.alike (by rw [hU]; exact (hE_55.kept hS.2.1).narrow hFc), va_T.moved hW.alike (by rw [hU]; exact (hE_56.kept hS.2.1).narrow hFc), va_Z.moved hW.alike (by rw [hU]; exact (hE_10.kept hS.2.1).narrow hFc), va_OF.moved hW.alike (by rw [hU]; exact (hE_54.kept hS.2.1).narrow hFc), va_O.moved hW.alike (by rw [hU]; exact (hE_53.kept hS.2.1).narrow hFc)⟩⟩ rfl rfl hl.1 rfl (lv_room (Nat.le_of_ble_eq_true rfl)) dX12_spotOf_4 ⟨Nat.le_of_ble_eq_true rfl, Nat.le_of_ble_eq_true rfl⟩) hS (fun q _ h => hFc q h) hFc (fun r_9 u t H1 locs ht hvm hw hB hz1 hk1 hS => ?_)
    as_aux_lemma =>
    obtain ⟨hP1, hK1, hD1⟩ := hB
    rw [ht] at hP1
    have hP := bv_still hP hk1
    generalize H1 = H at hP hS ⊢
    as_aux_lemma =>
    rcases hw with ⟨h_10, h_11⟩
    have h_11 : r_9 = _ := h_11
    replace hEX := hEX.trans (exc1_eq h_11)
    rw [h_10]
    refine lv_icmp_ge (tgt := 27) hx hb dX12_spotOf_7 rfl (fun c_12 => absurd c_12 (by decide +kernel)) (fun c_12 => ?_)
    refine lv_aload_n hx hb dX12_spotOf_10 rfl (lv_at hl 1 rfl) ?_
    refine lv_iload_n hx hb dX12_spotOf_11 rfl (lv_at hl 0 rfl) ?_
    obtain ⟨hPc, hDc, hFc, hqc⟩ := cl_cut (wc := []) hP hD hS hA [] (by decide +kernel) rfl
    have hKc := hK.sub (tys' := []) [] rfl
    have hrv := bv_Orecv hE_53 hS
    refine va_calli (va_runV (As := [.int 1]) (rest := []) ⟨hx, hb, hml, hown, hts⟩ (c_J0_charAt_5068e_13 l dC dI H.size ts8 tv8) (cwV 1 hts gf_c_X12_spotOf_5_c_J0_charAt_5068e_13 rfl rfl rfl mdV_J0_charAt_5068e ⟨Nat.le_of_ble_eq_true rfl, Nat.le_of_ble_eq_true rfl⟩) ⟨fun a U g mk q => by obtain ⟨q0, q1, qP, qK, qD, qE0, qE1, qE2, qE3, qE4, qE5⟩ := q; exact ⟨q0, q1, qP, va_K.moved (u := U) (U := U.calling g mk a) (Vm.Alike.refl U.vm) qK, qD, va_Z.moved (u := U) (U := U.calling g mk a) (Vm.Alike.refl U.vm) qE0, va_OF.moved (u := U) (U := U.calling g mk a) (Vm.Alike.refl U.vm) qE1, va_O.moved (u := U) (U := U.calling g mk a) (Vm.Alike.refl U.vm) qE2, va_OF.moved (u := U) (U := U.calling g mk a) (Vm.Alike.refl U.vm) qE3, va_T.moved (u := U) (U := U.calling g mk a) (Vm.Alike.refl U.vm) qE4, va_Zq.moved (u := U) (U := U.calling g mk a) (Vm.Alike.refl U.vm) qE5⟩, hrv, fun U hU hW => ⟨rfl, by rw [hU], by rw [hU]; exact hPc, va_K.moved hW.alike hKc, hDc.weaken (fun _ _ _ _ => trivial), va_Z.moved hW.alike (by rw [hU]; exact (hE_10.kept hS.2.1).narrow hFc), va_OF.moved hW.alike (by rw [hU]; exact (hE_54.kept hS.2.1).narrow hFc), va_O.moved hW.alike (by rw [hU]; exact (hE_53.kept hS.2.1).narrow hFc), va_OF.moved hW.alike (by rw [hU]; exact (hE_55.kept hS.2.1).narrow hFc), va_T.moved hW.alike (by rw [hU]; exact (hE_56.kept hS.2.1).narrow hFc), va_Zq.moved hW.alike (by rw [hU]; exact (hE_11.kept hS.2.1).narrow hFc)⟩⟩ rfl rfl hl.1 rfl (lv_room (Nat.le_of_ble_eq_true rfl)) dX12_spotOf_12 ⟨Nat.le_of_ble_eq_true rfl, Nat.le_of_ble_eq_true rfl⟩) hS (fun q _ h => hFc q h) hFc (fun r_13 u t H1 locs ht hvm hw hB hz1 hk1 hS => ?_)
    obtain ⟨hP1, hK1, hD1⟩ := hB
    rw [ht] at hP1
    have hP := bv_still hP hk1
    generalize H1 = H at hP hS ⊢
    as_aux_lemma =>
    rcases hw with ⟨h_14, h_15⟩
    have h_15 : r_13 = _ := h_15
    replace hEX := hEX.trans (exc1_eq h_15)
    rw [h_14]
    refine lv_iload_n hx hb dX12_spotOf_15 rfl (lv_at hl 2 rfl) ?_
    refine lv_icmp_ne (tgt := 21) hx hb dX12_spotOf_16 rfl (fun c_16 => ?_) (fun c_16 => ?_)
    · replace hEX := hEX.trans (if_neg c_16)
      refine lv_iinc (v := 2) (lv' := [(2, .int 2), (0, .ref ts8), (1, .int p1)]) hx hb dX12_spotOf_21 hl (k := 0) rfl (by decide +kernel) (Nat.le_of_ble_eq_true rfl) rfl (fun ls hl => ?_)
      refine lv_goto (tgt := 2) hx hb dX12_spotOf_24 rfl ?_
      refine lv_iload_n hx hb dX12_spotOf_2 rfl (lv_at hl 0 rfl) ?_
      refine lv_aload_n hx hb dX12_spotOf_3 rfl (lv_at hl 1 rfl) ?_
      obtain ⟨hPc, hDc, hFc, hqc⟩ := cl_cut (wc := []) hP hD hS hA [] (by decide +kernel) rfl
      have hKc := hK.sub (tys' := []) [] rfl
      have hrv := bv_Orecv hE_53 hS
      refine va_calli (va_runV (As := []) (rest := [.int 2]) ⟨hx, hb, hml, hown, hts⟩ (c_J0_length_8abf5_8 l dC dI H.size ts8 tv8) (cwV 0 hts gf_c_X12_spotOf_5_c_J0_length_8abf5_8 rfl rfl rfl mdV_J0_length_8abf5 ⟨Nat.le_of_ble_eq_true rfl, Nat.le_of_ble_eq_true rfl⟩) ⟨fun a U g mk q => by obtain ⟨q0, q1, qP, qK, qD, qE0, qE1, qE2, qE3, qE4⟩ := q; exact ⟨q0, q1, qP, va_K.moved (u := U) (U := U.calling g mk a) (Vm.Alike.refl U.vm) qK, qD, va_OF.moved (u := U) (U := U.calling g mk a) (Vm.Alike.refl U.vm) qE0, va_T.moved (u := U) (U := U.calling g mk a) (Vm.Alike.refl U.vm) qE1, va_Z.moved (u := U) (U := U.calling g mk a) (Vm.Alike.refl U.vm) qE2, va_OF.moved (u := U) (U := U.calling g mk a) (Vm.Alike.refl U.vm) qE3, va_O.moved (u := U) (U := U.calling g mk a) (Vm.Alike.refl U.vm) qE4⟩, hrv, fun U hU hW => ⟨rfl, by rw [hU], by rw [hU]; exact hPc, va_K.moved hW.alike hKc, hDc.weaken (fun _ _ _ _ => trivial), va_OF.moved hW.alike (by rw [hU]; exact (hE_55.kept hS.2.1).narrow hFc), va_T.moved hW.alike (by rw [hU]; exact (hE_56.kept hS.2.1).narrow hFc), va_Z.moved hW.alike (by rw [hU]; exact (hE_10.kept hS.2.1).narrow hFc), va_OF.moved hW.alike (by rw [hU]; exact (hE_54.kept hS.2.1).narrow hFc), va_O.moved hW.alike (by rw [hU]; exact (hE_53.kept hS.2.1).narrow hFc)⟩⟩ rfl rfl hl.1 rfl (lv_room (Nat.le_of_ble_eq_true rfl)) dX12_spotOf_4 ⟨Nat.le_of_ble_eq_true rfl, Nat.le_of_ble_eq_true rfl⟩) hS (fun q _ h => hFc q h) hFc (fun r_17 u t H1 locs ht hvm hw hB hz1 hk1 hS => ?_)
      as_aux_lemma =>
      obtain ⟨hP1, hK1, hD1⟩ := hB
      rw [ht] at hP1
      have hP := bv_still hP hk1
      generalize H1 = H at hP hS ⊢
      as_aux_lemma =>
      rcases hw with ⟨h_18, h_19⟩
      have h_19 : r_17 = _ := h_19
      replace hEX := hEX.trans (exc1_eq h_19)
      rw [h_18]
      refine lv_icmp_ge (tgt := 27) hx hb dX12_spotOf_7 rfl (fun c_20 => absurd c_20 (by decide +kernel)) (fun c_20 => ?_)
      refine lv_aload_n hx hb dX12_spotOf_10 rfl (lv_at hl 1 rfl) ?_
      refine lv_iload_n hx hb dX12_spotOf_11 rfl (lv_at hl 0 rfl) ?_
      obtain ⟨hPc, hDc, hFc, hqc⟩ := cl_cut (wc := []) hP hD hS hA [] (by decide +kernel) rfl
      have hKc := hK.sub (tys' := []) [] rfl
      have hrv := bv_Orecv hE_53 hS
      refine va_calli (va_runV (As := [.int 2]) (rest := []) ⟨hx, hb, hml, hown, hts⟩ (c_J0_charAt_5068e_14 l dC dI H.size ts8 tv8) (cwV 1 hts gf_c_X12_spotOf_5_c_J0_charAt_5068e_14 rfl rfl rfl mdV_J0_charAt_5068e ⟨Nat.le_of_ble_eq_true rfl, Nat.le_of_ble_eq_true rfl⟩) ⟨fun a U g mk q => by obtain ⟨q0, q1, qP, qK, qD, qE0, qE1, qE2, qE3, qE4, qE5⟩ := q; exact ⟨q0, q1, qP, va_K.moved (u := U) (U := U.calling g mk a) (Vm.Alike.refl U.vm) qK, qD, va_Z.moved (u := U) (U := U.calling g mk a) (Vm.Alike.refl U.vm) qE0, va_OF.moved (u := U) (U := U.calling g mk a) (Vm.Alike.refl U.vm) qE1, va_O.moved (u := U) (U := U.calling g mk a) (Vm.Alike.refl U.vm) qE2, va_OF.moved (u := U) (U := U.calling g mk a) (Vm.Alike.refl U.vm) qE3, va_T.moved (u := U) (U := U.calling g mk a) (Vm.Alike.refl U.vm) qE4, va_Zq.moved (u := U) (U := U.calling g mk a) (Vm.Alike.refl U.vm) qE5⟩, hrv, fun U hU hW => ⟨rfl, by rw [hU], by rw [hU]; exact hPc, va_K.moved hW.alike hKc, hDc.weaken (fun _ _ _ _ => trivial), va_Z.moved hW.alike (by rw [hU]; exact (hE_10.kept hS.2.1).narrow hFc), va_OF.moved hW.alike (by rw [hU]; exact (hE_54.kept hS.2.1).narrow hFc), va_O.moved hW.alike (by rw [hU]; exact (hE_53.kept hS.2.1).narrow hFc), va_OF.moved hW.alike (by rw [hU]; exact (hE_55.kept hS.2.1).narrow hFc), va_T.moved hW.alike (by rw [hU]; exact (hE_56.kept hS.2.1).narrow hFc), va_Zq.moved hW.alike (by rw [hU]; exact (hE_11.kept hS.2.1).narrow hFc)⟩⟩ rfl rfl hl.1 rfl (lv_room (Nat.le_of_ble_eq_true rfl)) dX12_spotOf_12 ⟨Nat.le_of_ble_eq_true rfl, Nat.le_of_ble_eq_true rfl⟩) hS (fun q _ h => hFc q h) hFc (fun r_21 u t H1 locs ht hvm hw hB hz1 hk1 hS => ?_)
      obtain ⟨hP1, hK1, hD1⟩ := hB
      rw [ht] at hP1
      have hP := bv_still hP hk1
      generalize H1 = H at hP hS ⊢
      as_aux_lemma =>
      rcases hw with ⟨h_22, h_23⟩
      have h_23 : r_21 = _ := h_23
      replace hEX := hEX.trans (exc1_eq h_23)
      rw [h_22]
      refine lv_iload_n hx hb dX12_spotOf_15 rfl (lv_at hl 2 rfl) ?_
      refine lv_icmp_ne (tgt := 21) hx hb dX12_spotOf_16 rfl (fun c_24 => ?_) (fun c_24 => ?_)
      · replace hEX := hEX.trans (if_neg c_24)
        refine lv_iinc (v := 3) (lv' := [(2, .int 3), (0, .ref ts8), (1, .int p1)]) hx hb dX12_spotOf_21 hl (k := 0) rfl (by decide +kernel) (Nat.le_of_ble_eq_true rfl) rfl (fun ls hl => ?_)
        refine lv_goto (tgt := 2) hx hb dX12_spotOf_24 rfl ?_
        refine lv_iload_n hx hb dX12_spotOf_2 rfl (lv_at hl 0 rfl) ?_
        refine lv_aload_n hx hb dX12_spotOf_3 rfl (lv_at hl 1 rfl) ?_
        obtain ⟨hPc, hDc, hFc, hqc⟩ := cl_cut (wc := []) hP hD hS hA [] (by decide +kernel) rfl
        have hKc := hK.sub (tys' := []) [] rfl
        have hrv := bv_Orecv hE_53 hS
        refine va_calli (va_runV (As := []) (rest := [.int 3]) ⟨hx, hb, hml, hown, hts⟩ (c_J0_length_8abf5_8 l dC dI H.size ts8 tv8) (cwV 0 hts gf_c_X12_spotOf_5_c_J0_length_8abf5_8 rfl rfl rfl mdV_J0_length_8abf5 ⟨Nat.le_of_ble_eq_true rfl, Nat.le_of_ble_eq_true rfl⟩) ⟨fun a U g mk q => by obtain ⟨q0, q1, qP, qK, qD, qE0, qE1, qE2, qE3, qE4⟩ := q; exact ⟨q0, q1, qP, va_K.moved (u := U) (U := U.calling g mk a) (Vm.Alike.refl U.vm) qK, qD, va_OF.moved (u := U) (U := U.calling g mk a) (Vm.Alike.refl U.vm) qE0, va_T.moved (u := U) (U := U.calling g mk a) (Vm.Alike.refl U.vm) qE1, va_Z.moved (u := U) (U := U.calling g mk a) (Vm.Alike.refl U.vm) qE2, va_OF.moved (u := U) (U := U.calling g mk a) (Vm.Alike.refl U.vm) qE3, va_O.moved (u := U) (U := U.calling g mk a) (Vm.Alike.refl U.vm) qE4⟩, hrv, fun U hU hW => ⟨rfl, by rw [hU], by rw [hU]; exact hPc, va_K.moved hW.alike hKc, hDc.weaken (fun _ _ _ _ => trivial), va_OF.moved hW.alike (by rw [hU]; exact (hE_55.kept hS.2.1).narrow hFc), va_T.moved hW.alike (by rw [hU]; exact (hE_56.kept hS.2.1).narrow hFc), va_Z.moved hW.alike (by rw [hU]; exact (hE_10.kept hS.2.1).narrow hFc), va_OF.moved hW.alike (by rw [hU]; exact (hE_54.kept hS.2.1).narrow hFc), va_O.moved hW.alike (by rw [hU]; exact (hE_53.kept hS.2.1).narrow hFc)⟩⟩ rfl rfl hl.1 rfl (lv_room (Nat.le_of_ble_eq_true rfl)) dX12_spotOf_4 ⟨Nat.le_of_ble_eq_true rfl, Nat.le_of_ble_eq_true rfl⟩) hS (fun q _ h => hFc q h) hFc (fun r_25 u t H1 locs ht hvm hw hB hz1 hk1 hS => ?_)
        as_aux_lemma =>
        obtain ⟨hP1, hK1, hD1⟩ := hB
        rw [ht] at hP1
        have hP := bv_still hP hk1
        generalize H1 = H at hP hS ⊢
        as_aux_lemma =>
        rcases hw with ⟨h_26, h_27⟩
        have h_27 : r_25 = _ := h_27
        replace hEX := hEX.trans (exc1_eq h_27)
        rw [h_26]
        refine lv_icmp_ge (tgt := 27) hx hb dX12_spotOf_7 rfl (fun c_28 => absurd c_28 (by decide +kernel)) (fun c_28 => ?_)
        refine lv_aload_n hx hb dX12_spotOf_10 rfl (lv_at hl 1 rfl) ?_
        refine lv_iload_n hx hb dX12_spotOf_11 rfl (lv_at hl 0 rfl) ?_
        obtain ⟨hPc, hDc, hFc, hqc⟩ := cl_cut (wc := []) hP hD hS hA [] (by decide +kernel) rfl
        have hKc := hK.sub (tys' := []) [] rfl
        have hrv := bv_Orecv hE_53 hS
        refine va_calli (va_runV (As := [.int 3]) (rest := []) ⟨hx, hb, hml, hown, hts⟩ (c_J0_charAt_5068e_15 l dC dI H.size ts8 tv8) (cwV 1 hts gf_c_X12_spotOf_5_c_J0_charAt_5068e_15 rfl rfl rfl mdV_J0_charAt_5068e ⟨Nat.le_of_ble_eq_true rfl, Nat.le_of_ble_eq_true rfl⟩) ⟨fun a U g mk q => by obtain ⟨q0, q1, qP, qK, qD, qE0, qE1, qE2, qE3, qE4, qE5⟩ := q; exact ⟨q0, q1, qP, va_K.moved (u := U) (U := U.calling g mk a) (Vm.Alike.refl U.vm) qK, qD, va_Z.moved (u := U) (U := U.calling g mk a) (Vm.Alike.refl U.vm) qE0, va_OF.moved (u := U) (U := U.calling g mk a) (Vm.Alike.refl U.vm) qE1, va_O.moved (u := U) (U := U.calling g mk a) (Vm.Alike.refl U.vm) qE2, va_OF.moved (u := U) (U := U.calling g mk a) (Vm.Alike.refl U.vm) qE3, va_T.moved (u := U) (U := U.calling g mk a) (Vm.Alike.refl U.vm) qE4, va_Zq.moved (u := U) (U := U.calling g mk a) (Vm.Alike.refl U.vm) qE5⟩, hrv, fun U hU hW => ⟨rfl, by rw [hU], by rw [hU]; exact hPc, va_K.moved hW.alike hKc, hDc.weaken (fun _ _ _ _ => trivial), va_Z.moved hW.alike (by rw [hU]; exact (hE_10.kept hS.2.1).narrow hFc), va_OF.moved hW.alike (by rw [hU]; exact (hE_54.kept hS.2.1).narrow hFc), va_O.moved hW.alike (by rw [hU]; exact (hE_53.kept hS.2.1).narrow hFc), va_OF.moved hW.alike (by rw [hU]; exact (hE_55.kept hS.2.1).narrow hFc), va_T.moved hW.alike (by rw [hU]; exact (hE_56.kept hS.2.1).narrow hFc), va_Zq.moved hW.alike (by rw [hU]; exact (hE_11.kept hS.2.1).narrow hFc)⟩⟩ rfl rfl hl.1 rfl (lv_room (Nat.le_of_ble_eq_true rfl)) dX12_spotOf_12 ⟨Nat.le_of_ble_eq_true rfl, Nat.le_of_ble_eq_true rfl⟩) hS (fun q _ h => hFc q h) hFc (fun r_29 u t H1 locs ht hvm hw hB hz1 hk1 hS => ?_)
        obtain ⟨hP1, hK1, hD1⟩ := hB
        rw [ht] at hP1
        have hP := bv_still hP hk1
        generalize H1 = H at hP hS ⊢
        as_aux_lemma =>
        rcases hw with ⟨h_30, h_31⟩
        have h_31 : r_29 = _ := h_31
        replace hEX := hEX.trans (exc1_eq h_31)
        rw [h_30]
        refine lv_iload_n hx hb dX12_spotOf_15 rfl (lv_at hl 2 rfl) ?_
        refine lv_icmp_ne (tgt := 21) hx hb dX12_spotOf_16 rfl (fun c_32 => ?_) (fun c_32 => ?_)
        · replace hEX := hEX.trans (if_neg c_32)
          refine lv_iinc (v := 4) (lv' := [(2, .int 4), (0, .ref ts8), (1, .int p1)]) hx hb dX12_spotOf_21 hl (k := 0) rfl (by decide +kernel) (Nat.le_of_ble_eq_true rfl) rfl (fun ls hl => ?_)
          refine lv_goto (tgt := 2) hx hb dX12_spotOf_24 rfl ?_
          refine lv_iload_n hx hb dX12_spotOf_2 rfl (lv_at hl 0 rfl) ?_
          refine lv_aload_n hx hb dX12_spotOf_3 rfl (lv_at hl 1 rfl) ?_
          obtain ⟨hPc, hDc, hFc, hqc⟩ := cl_cut (wc := []) hP hD hS hA [] (by decide +kernel) rfl
          have hKc := hK.sub (tys' := []) [] rfl
          have hrv := bv_Orecv hE_53 hS
          refine va_calli (va_runV (As := []) (rest := [.int 4]) ⟨hx, hb, hml, hown, hts⟩ (c_J0_length_8abf5_8 l dC dI H.size ts8 tv8) (cwV 0 hts gf_c_X12_spotOf_5_c_J0_length_8abf5_8 rfl rfl rfl mdV_J0_length_8abf5 ⟨Nat.le_of_ble_eq_true rfl, Nat.le_of_ble_eq_true rfl⟩) ⟨fun a U g mk q => by obtain ⟨q0, q1, qP, qK, qD, qE0, qE1, qE2, qE3, qE4⟩ := q; exact ⟨q0, q1, qP, va_K.moved (u := U) (U := U.calling g mk a) (Vm.Alike.refl U.vm) qK, qD, va_OF.moved (u := U) (U := U.calling g mk a) (Vm.Alike.refl U.vm) qE0, va_T.moved (u := U) (U := U.calling g mk a) (Vm.Alike.refl U.vm) qE1, va_Z.moved (u := U) (U := U.calling g mk a) (Vm.Alike.refl U.vm) qE2, va_OF.moved (u := U) (U := U.calling g mk a) (Vm.Alike.refl U.vm) qE3, va_O.moved (u := U) (U := U.calling g mk a) (Vm.Alike.refl U.vm) qE4⟩, hrv, fun U hU hW => ⟨rfl, by rw [hU], by rw [hU]; exact hPc, va_K.moved hW.alike hKc, hDc.weaken (fun _ _ _ _ => trivial), va_OF.moved hW.alike (by rw [hU]; exact (hE_55.kept hS.2.1).narrow hFc), va_T.moved hW.alike (by rw [hU]; exact (hE_56.kept hS.2.1).narrow hFc), va_Z.moved hW.alike (by rw [hU]; exact (hE_10.kept hS.2.1).narrow hFc), va_OF.moved hW.alike (by rw [hU]; exact (hE_54.kept hS.2.1).narrow hFc), va_O.moved hW.alike (by rw [hU]; exact (hE_53.kept hS.2.1).narrow hFc)⟩⟩ rfl rfl hl.1 rfl (lv_room (Nat.le_of_ble_eq_true rfl)) dX12_spotOf_4 ⟨Nat.le_of_ble_eq_true rfl, Nat.le_of_ble_eq_true rfl⟩) hS (fun q _ h => hFc q h) hFc (fun r_33 u t H1 locs ht hvm hw hB hz1 hk1 hS => ?_)
          as_aux_lemma =>
          obtain ⟨hP1, hK1, hD1⟩ := hB
          rw [ht] at hP1
          have hP := bv_still hP hk1
          generalize H1 = H at hP hS ⊢
          as_aux_lemma =>
          rcases hw with ⟨h_34, h_35⟩
          have h_35 : r_33 = _ := h_35
          replace hEX := hEX.trans (exc1_eq h_35)
          rw [h_34]
          refine lv_icmp_ge (tgt := 27) hx hb dX12_spotOf_7 rfl (fun c_36 => ?_) (fun c_36 => absurd c_36 (by decide +kernel))
          refine lv_iconst (v := (-1)) hx hb dX12_spotOf_27 kc_iconst_m1 ?_
          have hK9 := hK.sub (tys' := []) [] rfl
          exact W.iret (v := (-1)) hx hb hr (fun t ht hW => ⟨⟨(-1), (), rfl, (Or.inl ⟨rfl, (hR.trans hEX).symm⟩), by rw [ht]; exact hP, va_K.moved hW.alike hK9, hD⟩, hS.F ht⟩) hS.2.2 dX12_spotOf_28
        · replace hEX := hEX.trans (if_pos c_32)
          have g_37 : RG p1 104 104 := RG_eq1 g_p1 (RG_k 104 104 rfl) c_32.symm (by decide +kernel)
          refine lv_iload_n hx hb dX12_spotOf_19 rfl (lv_at hl 0 rfl) ?_
          have hK9 := hK.sub (tys' := []) [] rfl
          exact W.iret (v := 3) hx hb hr (fun t ht hW => ⟨⟨3, (), rfl, (Or.inr (Or.inl ⟨rfl, g_37, (hR.trans hEX).symm⟩)), by rw [ht]; exact hP, va_K.moved hW.alike hK9, hD⟩, hS.F ht⟩) hS.2.2 dX12_spotOf_20
      · replace hEX := hEX.trans (if_pos c_24)
        have g_38 : RG p1 116 116 := RG_eq1 g_p1 (RG_k 116 116 rfl) c_24.symm (by decide +kernel)
        refine lv_iload_n hx hb dX12_spotOf_19 rfl (lv_at hl 0 rfl) ?_
        as_aux_lemma =>
        have hK9 := hK.sub (tys' := []) [] rfl
        exact W.iret (v := 2) hx hb hr (fun t ht hW => ⟨⟨2, (), rfl, (Or.inr (Or.inr (Or.inl ⟨rfl, g_38, (hR.trans hEX).symm⟩))), by rw [ht]; exact hP, va_K.moved hW.alike hK9, hD⟩, hS.F ht⟩) hS.2.2 dX12_spotOf_20
    · replace hEX := hEX.trans (if_pos c_16)
      have g_39 : RG p1 100 100 := RG_eq1 g_p1 (RG_k 100 100 rfl) c_16.symm (by decide +kernel)
      refine lv_iload_n hx hb dX12_spotOf_19 rfl (lv_at hl 0 rfl) ?_
      have hK9 := hK.sub (tys' := []) [] rfl
      exact W.iret (v := 1) hx hb hr (fun t ht hW => ⟨⟨1, (), rfl, (Or.inr (Or.inr (Or.inr (Or.inl ⟨rfl, g_39, (hR.trans hEX).symm⟩)))), by rw [ht]; exact hP, va_K.moved hW.alike hK9, hD⟩, hS.F ht⟩) hS.2.2 dX12_spotOf_20
  · replace hEX := hEX.trans (if_pos c_8)
    have g_40 : RG p1 119 119 := RG_eq1 g_p1 (RG_k 119 119 rfl) c_8.symm (by decide +kernel)
    refine lv_iload_n hx hb dX12_spotOf_19 rfl (lv_at hl 0 rfl) ?_
    have hK9 := hK.sub (tys' := []) [] rfl
    exact W.iret (v := 0) hx hb hr (fun t ht hW => ⟨⟨0, (), rfl, (Or.inr (Or.inr (Or.inr (Or.inr ⟨rfl, g_40, (hR.trans hEX).symm⟩)))), by rw [ht]; exact hP, va_K.moved hW.alike hK9, hD⟩, hS.F ht⟩) hS.2.2 dX12_spotOf_20
noncomputable def wf_c_X12_leastOf_5 : List Cond := .code yX12_leastOf cX12_leastOf 2 (some .int) :: ([])
set_option maxHeartbeats 4000000 in
set_option maxRecDepth 100000 in
theorem c_X12_leastOf_5 (l : Launch) (dC : Nat → ClassId) (dI : Nat → Nat → Nat) (sz : Nat) (p0 : Int32) (p1 : Int32) (g_p0 : RG p0 115 115) (g_p1 : RG p1 0 0) : Met l yX12_leastOf wf_c_X12_leastOf_5 ({ frames := 0, cells := 0, slots := 0, locals := 0 }) (va_Pc [.int p0, .int p1] (fun U => U.heap.size = sz ∧ va_P (dC, dI) vwCl [] U.heap ∧ va_K (dC, dI) vwCl [] U ∧ va_D (fun _ => True) [])) (va_Qi (fun (r : Int32) (u : Unit) => (r = 0 ∧ r = fx_c_X12_leastOf_5 p0 p1)) (fun (u : Unit) t => va_P (dC, dI) vwCl [] t.heap ∧ va_K (dC, dI) vwCl [] t ∧ va_D (va_A [] sz) []) (va_A [] sz)) 0 0 (va_A [] sz) := by
  refine Met.ofW (cc := cX12_leastOf) (maxL := 2) (ret := (some .int)) (by decide +kernel) rfl ?_
  intro p e s m args below meth c s₁ B hml hv
  obtain ⟨rfl, hsz, hP, hK, hD0⟩ := hv
  have hx := B.exec
  have hb := B.bytes
  have hr := B.returns
  have hts := atoms_spec (ws := wf_c_X12_leastOf_5) B.pre
  have hown : s.vm.findClass RX12 = some m.cls := findClass_of_methodNamed B.named
  have hlocks := B.notSynchronized
  subst hsz
  have hD := hD0.self (sz := s.heap.size)
  generalize hAe : va_A [] s.heap.size = A at hD ⊢
  have hA : ∀ q : Nat, s.heap.size ≤ q → A q := fun q h => by rw [← hAe]; exact Or.inr h
  have hP : va_P (dC, dI) vwCl [] s.heap := hP
  have hl := lv_entry ([.int p0, .int p1]) (n := 2) (Nat.le_of_ble_eq_true rfl)
  rw [lg_entry_eq]
  generalize (lg_sl ([.int p0, .int p1]) ++ List.replicate (2 - (lg_sl ([.int p0, .int p1])).length) Slot.unset).toArray = ls at hl ⊢
  have hl : lv_has ls 2 [(0, .int p0), (1, .int p1)] := hl
  obtain ⟨H, hHe⟩ : ∃ H : Heap, s.heap = H := ⟨_, rfl⟩
  have hS : va_S A s.heap H [] := by rw [hHe]; exact va_S.rf
  have hP : va_P (dC, dI) vwCl [] H := by rw [← hHe]; exact hP
  rw [hHe]
  obtain ⟨RES, hR⟩ : ∃ z, fx_c_X12_leastOf_5 p0 p1 = z := ⟨_, rfl⟩
  have hEX : RES = fx_c_X12_leastOf_5 p0 p1 := hR.symm
  refine wj (fun G hG hU => ?_)
  as_aux_lemma =>
  have J11 : ∀ (g_p0 : RG p0 115 115) (g_p1 : RG p1 0 0) (hEX : RES = fx_c_X12_leastOf_5_p11 p0) (H : Heap) (locs : List Loc) (ls : Array Slot) (hP : va_P (dC, dI) vwCl [] H) (hD : va_D A []) (hS : va_S A s.heap H locs) (hl : lv_has ls 2 [(0, .int p0), (1, .int p1)]), G H locs (F0 m 11 ls []) := by
    as_aux_lemma =>
    intro g_p0 g_p1 hEX H locs ls hP hD hS hl
    refine hG _ _ _ ?_
    refine lv_iload_n hx hb dX12_leastOf_11 rfl (lv_at hl 0 rfl) ?_
    refine lv_bipush (v := 99) hx hb dX12_leastOf_12 kc_bipush_99 ?_
    refine lv_icmp_ne (tgt := 26) hx hb dX12_leastOf_14 rfl (fun c_1 => ?_) (fun c_1 => ?_)
    · replace hEX := hEX.trans (if_neg c_1)
      refine lv_iconst (v := 0) hx hb dX12_leastOf_26 kc_iconst_0 ?_
      have hK9 := hK.sub (tys' := []) [] rfl
      exact W.iret (v := 0) hx hb hr (fun t ht hW => ⟨⟨0, (), rfl, ⟨rfl, (hR.trans hEX).symm⟩, by rw [ht]; exact hP, va_K.moved hW.alike hK9, hD⟩, hS.F ht⟩) hS.2.2 dX12_leastOf_27
    · replace hEX := hEX.trans (if_pos c_1)
      exact RG_dead (RG_eq1 g_p0 (RG_k 99 99 rfl) c_1 (a' := 115) (b' := 99) (by decide +kernel)) (by decide +kernel)
  refine hG _ _ _ ?_
  refine lv_iload_n hx hb dX12_leastOf_0 rfl (lv_at hl 0 rfl) ?_
  refine lv_bipush (v := 115) hx hb dX12_leastOf_1 kc_bipush_115 ?_
  as_aux_lemma =>
  refine lv_icmp_ne (tgt := 11) hx hb dX12_leastOf_3 rfl (fun c_2 => ?_) (fun c_2 => ?_)
  · replace hEX := hEX.trans (if_neg c_2)
    exact RG_dead (RG_ne1 g_p0 (q := 115) rfl c_2 (a' := 116) (b' := 115) (by decide +kernel)) (by decide +kernel)
  · replace hEX := hEX.trans (if_pos c_2)
    refine lv_iload_n hx hb dX12_leastOf_6 rfl (lv_at hl 1 rfl) ?_
    refine lv_iconst (v := 1) hx hb dX12_leastOf_7 kc_iconst_1 ?_
    refine lv_icmp_gt (tgt := 22) hx hb dX12_leastOf_8 rfl (fun c_3 => ?_) (fun c_3 => ?_)
    · replace hEX := hEX.trans (if_pos c_3)
      exact RG_dead (RG_lt1 (RG_k 1 1 rfl) g_p1 c_3 (b' := (-1)) (by decide +kernel)) (by decide +kernel)
    · replace hEX := hEX.trans (if_neg c_3)
      have d_4 := Int32.not_lt.mp c_3
      exact hU _ _ _ (J11 g_p0 g_p1 hEX _ _ _ hP hD hS (lv_sub hl [0, 1] rfl))
noncomputable def wf_c_X12_mostOf_5 : List Cond := .code yX12_mostOf cX12_mostOf 2 (some .int) :: ([])
set_option maxHeartbeats 4000000 in
set_option maxRecDepth 100000 in
theorem c_X12_mostOf_5 (l : Launch) (dC : Nat → ClassId) (dI : Nat → Nat → Nat) (sz : Nat) (p0 : Int32) (p1 : Int32) (g_p0 : RG p0 115 115) (g_p1 : RG p1 0 0) : Met l yX12_mostOf wf_c_X12_mostOf_5 ({ frames := 0, cells := 0, slots := 0, locals := 0 }) (va_Pc [.int p0, .int p1] (fun U => U.heap.size = sz ∧ va_P (dC, dI) vwCl [] U.heap ∧ va_K (dC, dI) vwCl [] U ∧ va_D (fun _ => True) [])) (va_Qi (fun (r : Int32) (u : Unit) => (r = 9 ∧ r = fx_c_X12_mostOf_5 p0 p1)) (fun (u : Unit) t => va_P (dC, dI) vwCl [] t.heap ∧ va_K (dC, dI) vwCl [] t ∧ va_D (va_A [] sz) []) (va_A [] sz)) 0 0 (va_A [] sz) := by
  refine Met.ofW (cc := cX12_mostOf) (maxL := 2) (ret := (some .int)) (by decide +kernel) rfl ?_
  intro p e s m args below meth c s₁ B hml hv
  obtain ⟨rfl, hsz, hP, hK, hD0⟩ := hv
  have hx := B.exec
  have hb := B.bytes
  have hr := B.returns
  have hts := atoms_spec (ws := wf_c_X12_mostOf_5) B.pre
  have hown : s.vm.findClass RX12 = some m.cls := findClass_of_methodNamed B.named
  have hlocks := B.notSynchronized
  subst hsz
  have hD := hD0.self (sz := s.heap.size)
  generalize hAe : va_A [] s.heap.size = A at hD ⊢
  have hA : ∀ q : Nat, s.heap.size ≤ q → A q := fun q h => by rw [← hAe]; exact Or.inr h
  have hP : va_P (dC, dI) vwCl [] s.heap := hP
  have hl := lv_entry ([.int p0, .int p1]) (n := 2) (Nat.le_of_ble_eq_true rfl)
  rw [lg_entry_eq]
  generalize (lg_sl ([.int p0, .int p1]) ++ List.replicate (2 - (lg_sl ([.int p0, .int p1])).length) Slot.unset).toArray = ls at hl ⊢
  have hl : lv_has ls 2 [(0, .int p0), (1, .int p1)] := hl
  obtain ⟨H, hHe⟩ : ∃ H : Heap, s.heap = H := ⟨_, rfl⟩
  have hS : va_S A s.heap H [] := by rw [hHe]; exact va_S.rf
  have hP : va_P (dC, dI) vwCl [] H := by rw [← hHe]; exact hP
  rw [hHe]
  obtain ⟨RES, hR⟩ : ∃ z, fx_c_X12_mostOf_5 p0 p1 = z := ⟨_, rfl⟩
  have hEX : RES = fx_c_X12_mostOf_5 p0 p1 := hR.symm
  refine lv_iload_n hx hb dX12_mostOf_0 rfl (lv_at hl 0 rfl) ?_
  as_aux_lemma =>
  refine lv_bipush (v := 115) hx hb dX12_mostOf_1 kc_bipush_115 ?_
  refine lv_icmp_ne (tgt := 37) hx hb dX12_mostOf_3 rfl (fun c_1 => ?_) (fun c_1 => ?_)
  · replace hEX := hEX.trans (if_neg c_1)
    exact RG_dead (RG_ne1 g_p0 (q := 115) rfl c_1 (a' := 116) (b' := 115) (by decide +kernel)) (by decide +kernel)
  · replace hEX := hEX.trans (if_pos c_1)
    refine lv_iload_n hx hb dX12_mostOf_6 rfl (lv_at hl 1 rfl) ?_
    refine lv_if_ne (tgt := 15) hx hb dX12_mostOf_7 rfl (fun c_2 => ?_) (fun c_2 => ?_)
    · replace hEX := hEX.trans (if_neg c_2)
      exact RG_dead (RG_ne1 g_p1 (q := 0) rfl c_2 (a' := 1) (b' := 0) (by decide +kernel)) (by decide +kernel)
    · replace hEX := hEX.trans (if_pos c_2)
      refine lv_bipush (v := 9) hx hb dX12_mostOf_10 kc_bipush_9 ?_
      refine lv_goto (tgt := 36) hx hb dX12_mostOf_12 rfl ?_
      have hK9 := hK.sub (tys' := []) [] rfl
      exact W.iret (v := 9) hx hb hr (fun t ht hW => ⟨⟨9, (), rfl, ⟨rfl, (hR.trans hEX).symm⟩, by rw [ht]; exact hP, va_K.moved hW.alike hK9, hD⟩, hS.F ht⟩) hS.2.2 dX12_mostOf_36
noncomputable def wf_c_X12_leastOf_6 : List Cond := .code yX12_leastOf cX12_leastOf 2 (some .int) :: ([])
set_option maxHeartbeats 4000000 in
set_option maxRecDepth 100000 in
theorem c_X12_leastOf_6 (l : Launch) (dC : Nat → ClassId) (dI : Nat → Nat → Nat) (sz : Nat) (p0 : Int32) (p1 : Int32) (g_p0 : RG p0 115 115) (g_p1 : RG p1 0 1) : Met l yX12_leastOf wf_c_X12_leastOf_6 ({ frames := 0, cells := 0, slots := 0, locals := 0 }) (va_Pc [.int p0, .int p1] (fun U => U.heap.size = sz ∧ va_P (dC, dI) vwCl [] U.heap ∧ va_K (dC, dI) vwCl [] U ∧ va_D (fun _ => True) [])) (va_Qi (fun (r : Int32) (u : Unit) => (r = 0 ∧ r = fx_c_X12_leastOf_6 p0 p1)) (fun (u : Unit) t => va_P (dC, dI) vwCl [] t.heap ∧ va_K (dC, dI) vwCl [] t ∧ va_D (va_A [] sz) []) (va_A [] sz)) 0 0 (va_A [] sz) := by
  refine Met.ofW (cc := cX12_leastOf) (maxL := 2) (ret := (some .int)) (by decide +kernel) rfl ?_
  intro p e s m args below meth c s₁ B hml hv
  obtain ⟨rfl, hsz, hP, hK, hD0⟩ := hv
  have hx := B.exec
  have hb := B.bytes
  have hr := B.returns
  have hts := atoms_spec (ws := wf_c_X12_leastOf_6) B.pre
  have hown : s.vm.findClass RX12 = some m.cls := findClass_of_methodNamed B.named
  have hlocks := B.notSynchronized
  subst hsz
  have hD := hD0.self (sz := s.heap.size)
  generalize hAe : va_A [] s.heap.size = A at hD ⊢
  have hA : ∀ q : Nat, s.heap.size ≤ q → A q := fun q h => by rw [← hAe]; exact Or.inr h
  have hP : va_P (dC, dI) vwCl [] s.heap := hP
  have hl := lv_entry ([.int p0, .int p1]) (n := 2) (Nat.le_of_ble_eq_true rfl)
  rw [lg_entry_eq]
  generalize (lg_sl ([.int p0, .int p1]) ++ List.replicate (2 - (lg_sl ([.int p0, .int p1])).length) Slot.unset).toArray = ls at hl ⊢
  have hl : lv_has ls 2 [(0, .int p0), (1, .int p1)] := hl
  obtain ⟨H, hHe⟩ : ∃ H : Heap, s.heap = H := ⟨_, rfl⟩
  have hS : va_S A s.heap H [] := by rw [hHe]; exact va_S.rf
  have hP : va_P (dC, dI) vwCl [] H := by rw [← hHe]; exact hP
  rw [hHe]
  obtain ⟨RES, hR⟩ : ∃ z, fx_c_X12_leastOf_6 p0 p1 = z := ⟨_, rfl⟩
  have hEX : RES = fx_c_X12_leastOf_6 p0 p1 := hR.symm
  refine wj (fun G hG hU => ?_)
  as_aux_lemma =>
  have J11 : ∀ (g_p0 : RG p0 115 115) (g_p1 : RG p1 0 1) (hEX : RES = fx_c_X12_leastOf_6_p11 p0) (H : Heap) (locs : List Loc) (ls : Array Slot) (hP : va_P (dC, dI) vwCl [] H) (hD : va_D A []) (hS : va_S A s.heap H locs) (hl : lv_has ls 2 [(0, .int p0), (1, .int p1)]), G H locs (F0 m 11 ls []) := by
    as_aux_lemma =>
    intro g_p0 g_p1 hEX H locs ls hP hD hS hl
    refine hG _ _ _ ?_
    refine lv_iload_n hx hb dX12_leastOf_11 rfl (lv_at hl 0 rfl) ?_
    refine lv_bipush (v := 99) hx hb dX12_leastOf_12 kc_bipush_99 ?_
    refine lv_icmp_ne (tgt := 26) hx hb dX12_leastOf_14 rfl (fun c_1 => ?_) (fun c_1 => ?_)
    · replace hEX := hEX.trans (if_neg c_1)
      refine lv_iconst (v := 0) hx hb dX12_leastOf_26 kc_iconst_0 ?_
      have hK9 := hK.sub (tys' := []) [] rfl
      exact W.iret (v := 0) hx hb hr (fun t ht hW => ⟨⟨0, (), rfl, ⟨rfl, (hR.trans hEX).symm⟩, by rw [ht]; exact hP, va_K.moved hW.alike hK9, hD⟩, hS.F ht⟩) hS.2.2 dX12_leastOf_27
    · replace hEX := hEX.trans (if_pos c_1)
      exact RG_dead (RG_eq1 g_p0 (RG_k 99 99 rfl) c_1 (a' := 115) (b' := 99) (by decide +kernel)) (by decide +kernel)
  refine hG _ _ _ ?_
  refine lv_iload_n hx hb dX12_leastOf_0 rfl (lv_at hl 0 rfl) ?_
  refine lv_bipush (v := 115) hx hb dX12_leastOf_1 kc_bipush_115 ?_
  as_aux_lemma =>
  refine lv_icmp_ne (tgt := 11) hx hb dX12_leastOf_3 rfl (fun c_2 => ?_) (fun c_2 => ?_)
  · replace hEX := hEX.trans (if_neg c_2)
    exact RG_dead (RG_ne1 g_p0 (q := 115) rfl c_2 (a' := 116) (b' := 115) (by decide +kernel)) (by decide +kernel)
  · replace hEX := hEX.trans (if_pos c_2)
    refine lv_iload_n hx hb dX12_leastOf_6 rfl (lv_at hl 1 rfl) ?_
    refine lv_iconst (v := 1) hx hb dX12_leastOf_7 kc_iconst_1 ?_
    refine lv_icmp_gt (tgt := 22) hx hb dX12_leastOf_8 rfl (fun c_3 => ?_) (fun c_3 => ?_)
    · replace hEX := hEX.trans (if_pos c_3)
      exact RG_dead (RG_lt1 (RG_k 1 1 rfl) g_p1 c_3 (b' := 0) (by decide +kernel)) (by decide +kernel)
    · replace hEX := hEX.trans (if_neg c_3)
      have d_4 := Int32.not_lt.mp c_3
      exact hU _ _ _ (J11 g_p0 g_p1 hEX _ _ _ hP hD hS (lv_sub hl [0, 1] rfl))
noncomputable def wf_c_X12_mostOf_6 : List Cond := .code yX12_mostOf cX12_mostOf 2 (some .int) :: ([])
set_option maxHeartbeats 4000000 in
set_option maxRecDepth 100000 in
theorem c_X12_mostOf_6 (l : Launch) (dC : Nat → ClassId) (dI : Nat → Nat → Nat) (sz : Nat) (p0 : Int32) (p1 : Int32) (g_p0 : RG p0 115 115) (g_p1 : RG p1 0 1) : Met l yX12_mostOf wf_c_X12_mostOf_6 ({ frames := 0, cells := 0, slots := 0, locals := 0 }) (va_Pc [.int p0, .int p1] (fun U => U.heap.size = sz ∧ va_P (dC, dI) vwCl [] U.heap ∧ va_K (dC, dI) vwCl [] U ∧ va_D (fun _ => True) [])) (va_Qi (fun (r : Int32) (u : Unit) => (r = 3 ∧ RG p1 1 1 ∧ r = fx_c_X12_mostOf_6 p0 p1) ∨ (r = 9 ∧ RG p1 0 0 ∧ r = fx_c_X12_mostOf_6 p0 p1)) (fun (u : Unit) t => va_P (dC, dI) vwCl [] t.heap ∧ va_K (dC, dI) vwCl [] t ∧ va_D (va_A [] sz) []) (va_A [] sz)) 0 0 (va_A [] sz) := by
  refine Met.ofW (cc := cX12_mostOf) (maxL := 2) (ret := (some .int)) (by decide +kernel) rfl ?_
  intro p e s m args below meth c s₁ B hml hv
  obtain ⟨rfl, hsz, hP, hK, hD0⟩ := hv
  have hx := B.exec
  have hb := B.bytes
  have hr := B.returns
  have hts := atoms_spec (ws := wf_c_X12_mostOf_6) B.pre
  have hown : s.vm.findClass RX12 = some m.cls := findClass_of_methodNamed B.named
  have hlocks := B.notSynchronized
  subst hsz
  have hD := hD0.self (sz := s.heap.size)
  generalize hAe : va_A [] s.heap.size = A at hD ⊢
  have hA : ∀ q : Nat, s.heap.size ≤ q → A q := fun q h => by rw [← hAe]; exact Or.inr h
  have hP : va_P (dC, dI) vwCl [] s.heap := hP
  have hl := lv_entry ([.int p0, .int p1]) (n := 2) (Nat.le_of_ble_eq_true rfl)
  rw [lg_entry_eq]
  generalize (lg_sl ([.int p0, .int p1]) ++ List.replicate (2 - (lg_sl ([.int p0, .int p1])).length) Slot.unset).toArray = ls at hl ⊢
  have hl : lv_has ls 2 [(0, .int p0), (1, .int p1)] := hl
  obtain ⟨H, hHe⟩ : ∃ H : Heap, s.heap = H := ⟨_, rfl⟩
  have hS : va_S A s.heap H [] := by rw [hHe]; exact va_S.rf
  have hP : va_P (dC, dI) vwCl [] H := by rw [← hHe]; exact hP
  rw [hHe]
  obtain ⟨RES, hR⟩ : ∃ z, fx_c_X12_mostOf_6 p0 p1 = z := ⟨_, rfl⟩
  have hEX : RES = fx_c_X12_mostOf_6 p0 p1 := hR.symm
  refine lv_iload_n hx hb dX12_mostOf_0 rfl (lv_at hl 0 rfl) ?_
  as_aux_lemma =>
  refine lv_bipush (v := 115) hx hb dX12_mostOf_1 kc_bipush_115 ?_
  refine lv_icmp_ne (tgt := 37) hx hb dX12_mostOf_3 rfl (fun c_1 => ?_) (fun c_1 => ?_)
  · replace hEX := hEX.trans (if_neg c_1)
    exact RG_dead (RG_ne1 g_p0 (q := 115) rfl c_1 (a' := 116) (b' := 115) (by decide +kernel)) (by decide +kernel)
  · replace hEX := hEX.trans (if_pos c_1)
    refine lv_iload_n hx hb dX12_mostOf_6 rfl (lv_at hl 1 rfl) ?_
    refine lv_if_ne (tgt := 15) hx hb dX12_mostOf_7 rfl (fun c_2 => ?_) (fun c_2 => ?_)
    · replace hEX := hEX.trans (if_neg c_2)
      have g_3 : RG p1 1 1 := RG_ne1 g_p1 (q := 0) rfl c_2 (by decide +kernel)
      refine lv_iload_n hx hb dX12_mostOf_15 rfl (lv_at hl 1 rfl) ?_
      refine lv_iconst (v := 1) hx hb dX12_mostOf_16 kc_iconst_1 ?_
      refine lv_icmp_ne (tgt := 24) hx hb dX12_mostOf_17 rfl (fun c_4 => ?_) (fun c_4 => ?_)
      · replace hEX := hEX.trans (if_neg c_4)
        exact RG_dead (RG_ne1 g_3 (q := 1) rfl c_4 (a' := 2) (b' := 1) (by decide +kernel)) (by decide +kernel)
      · replace hEX := hEX.trans (if_pos c_4)
        refine lv_iconst (v := 3) hx hb dX12_mostOf_20 kc_iconst_3 ?_
        as_aux_lemma =>
        refine lv_goto (tgt := 36) hx hb dX12_mostOf_21 rfl ?_
        have hK9 := hK.sub (tys' := []) [] rfl
        exact W.iret (v := 3) hx hb hr (fun t ht hW => ⟨⟨3, (), rfl, (Or.inl ⟨rfl, g_3, (hR.trans hEX).symm⟩), by rw [ht]; exact hP, va_K.moved hW.alike hK9, hD⟩, hS.F ht⟩) hS.2.2 dX12_mostOf_36
    · replace hEX := hEX.trans (if_pos c_2)
      have g_5 : RG p1 0 0 := RG_eq1 g_p1 (RG_k 0 0 rfl) c_2 (by decide +kernel)
      refine lv_bipush (v := 9) hx hb dX12_mostOf_10 kc_bipush_9 ?_
      refine lv_goto (tgt := 36) hx hb dX12_mostOf_12 rfl ?_
      have hK9 := hK.sub (tys' := []) [] rfl
      exact W.iret (v := 9) hx hb hr (fun t ht hW => ⟨⟨9, (), rfl, (Or.inr ⟨rfl, g_5, (hR.trans hEX).symm⟩), by rw [ht]; exact hP, va_K.moved hW.alike hK9, hD⟩, hS.F ht⟩) hS.2.2 dX12_mostOf_36
noncomputable def wf_c_X12_leastOf_7 : List Cond := .code yX12_leastOf cX12_leastOf 2 (some .int) :: ([])
set_option maxHeartbeats 4000000 in
set_option maxRecDepth 100000 in
theorem c_X12_leastOf_7 (l : Launch) (dC : Nat → ClassId) (dI : Nat → Nat → Nat) (sz : Nat) (p0 : Int32) (p1 : Int32) (g_p0 : RG p0 115 115) (g_p1 : RG p1 0 2) : Met l yX12_leastOf wf_c_X12_leastOf_7 ({ frames := 0, cells := 0, slots := 0, locals := 0 }) (va_Pc [.int p0, .int p1] (fun U => U.heap.size = sz ∧ va_P (dC, dI) vwCl [] U.heap ∧ va_K (dC, dI) vwCl [] U ∧ va_D (fun _ => True) [])) (va_Qi (fun (r : Int32) (u : Unit) => (r = 0 ∧ RG p1 0 1 ∧ r = fx_c_X12_leastOf_7 p0 p1) ∨ (r = 1 ∧ RG p1 2 2 ∧ r = fx_c_X12_leastOf_7 p0 p1)) (fun (u : Unit) t => va_P (dC, dI) vwCl [] t.heap ∧ va_K (dC, dI) vwCl [] t ∧ va_D (va_A [] sz) []) (va_A [] sz)) 0 0 (va_A [] sz) := by
  refine Met.ofW (cc := cX12_leastOf) (maxL := 2) (ret := (some .int)) (by decide +kernel) rfl ?_
  intro p e s m args below meth c s₁ B hml hv
  obtain ⟨rfl, hsz, hP, hK, hD0⟩ := hv
  have hx := B.exec
  have hb := B.bytes
  have hr := B.returns
  have hts := atoms_spec (ws := wf_c_X12_leastOf_7) B.pre
  have hown : s.vm.findClass RX12 = some m.cls := findClass_of_methodNamed B.named
  have hlocks := B.notSynchronized
  subst hsz
  have hD := hD0.self (sz := s.heap.size)
  generalize hAe : va_A [] s.heap.size = A at hD ⊢
  have hA : ∀ q : Nat, s.heap.size ≤ q → A q := fun q h => by rw [← hAe]; exact Or.inr h
  have hP : va_P (dC, dI) vwCl [] s.heap := hP
  have hl := lv_entry ([.int p0, .int p1]) (n := 2) (Nat.le_of_ble_eq_true rfl)
  rw [lg_entry_eq]
  generalize (lg_sl ([.int p0, .int p1]) ++ List.replicate (2 - (lg_sl ([.int p0, .int p1])).length) Slot.unset).toArray = ls at hl ⊢
  have hl : lv_has ls 2 [(0, .int p0), (1, .int p1)] := hl
  obtain ⟨H, hHe⟩ : ∃ H : Heap, s.heap = H := ⟨_, rfl⟩
  have hS : va_S A s.heap H [] := by rw [hHe]; exact va_S.rf
  have hP : va_P (dC, dI) vwCl [] H := by rw [← hHe]; exact hP
  rw [hHe]
  obtain ⟨RES, hR⟩ : ∃ z, fx_c_X12_leastOf_7 p0 p1 = z := ⟨_, rfl⟩
  have hEX : RES = fx_c_X12_leastOf_7 p0 p1 := hR.symm
  refine wj (fun G hG hU => ?_)
  as_aux_lemma =>
  have J11 : ∀ (g_p0 : RG p0 115 115) (g_p1 : RG p1 0 1) (hEX : RES = fx_c_X12_leastOf_7_p11 p0) (H : Heap) (locs : List Loc) (ls : Array Slot) (hP : va_P (dC, dI) vwCl [] H) (hD : va_D A []) (hS : va_S A s.heap H locs) (hl : lv_has ls 2 [(0, .int p0), (1, .int p1)]), G H locs (F0 m 11 ls []) := by
    as_aux_lemma =>
    intro g_p0 g_p1 hEX H locs ls hP hD hS hl
    refine hG _ _ _ ?_
    refine lv_iload_n hx hb dX12_leastOf_11 rfl (lv_at hl 0 rfl) ?_
    refine lv_bipush (v := 99) hx hb dX12_leastOf_12 kc_bipush_99 ?_
    refine lv_icmp_ne (tgt := 26) hx hb dX12_leastOf_14 rfl (fun c_1 => ?_) (fun c_1 => ?_)
    · replace hEX := hEX.trans (if_neg c_1)
      refine lv_iconst (v := 0) hx hb dX12_leastOf_26 kc_iconst_0 ?_
      have hK9 := hK.sub (tys' := []) [] rfl
      exact W.iret (v := 0) hx hb hr (fun t ht hW => ⟨⟨0, (), rfl, (Or.inl ⟨rfl, g_p1, (hR.trans hEX).symm⟩), by rw [ht]; exact hP, va_K.moved hW.alike hK9, hD⟩, hS.F ht⟩) hS.2.2 dX12_leastOf_27
    · replace hEX := hEX.trans (if_pos c_1)
      exact RG_dead (RG_eq1 g_p0 (RG_k 99 99 rfl) c_1 (a' := 115) (b' := 99) (by decide +kernel)) (by decide +kernel)
  have J22 : ∀ (g_p0 : RG p0 115 115) (g_p1 : RG p1 2 2) (hEX : RES = fx_c_X12_leastOf_7_p22) (H : Heap) (locs : List Loc) (ls : Array Slot) (hP : va_P (dC, dI) vwCl [] H) (hD : va_D A []) (hS : va_S A s.heap H locs) (hl : lv_has ls 2 []), G H locs (F0 m 22 ls []) := by
    as_aux_lemma =>
    intro g_p0 g_p1 hEX H locs ls hP hD hS hl
    refine hG _ _ _ ?_
    refine lv_iconst (v := 1) hx hb dX12_leastOf_22 kc_iconst_1 ?_
    refine lv_goto (tgt := 27) hx hb dX12_leastOf_23 rfl ?_
    have hK9 := hK.sub (tys' := []) [] rfl
    exact W.iret (v := 1) hx hb hr (fun t ht hW => ⟨⟨1, (), rfl, (Or.inr ⟨rfl, g_p1, (hR.trans hEX).symm⟩), by rw [ht]; exact hP, va_K.moved hW.alike hK9, hD⟩, hS.F ht⟩) hS.2.2 dX12_leastOf_27
  refine hG _ _ _ ?_
  refine lv_iload_n hx hb dX12_leastOf_0 rfl (lv_at hl 0 rfl) ?_
  refine lv_bipush (v := 115) hx hb dX12_leastOf_1 kc_bipush_115 ?_
  refine lv_icmp_ne (tgt := 11) hx hb dX12_leastOf_3 rfl (fun c_2 => ?_) (fun c_2 => ?_)
  · replace hEX := hEX.trans (if_neg c_2)
    exact RG_dead (RG_ne1 g_p0 (q := 115) rfl c_2 (a' := 116) (b' := 115) (by decide +kernel)) (by decide +kernel)
  · replace hEX := hEX.trans (if_pos c_2)
    refine lv_iload_n hx hb dX12_leastOf_6 rfl (lv_at hl 1 rfl) ?_
    as_aux_lemma =>
    refine lv_iconst (v := 1) hx hb dX12_leastOf_7 kc_iconst_1 ?_
    refine lv_icmp_gt (tgt := 22) hx hb dX12_leastOf_8 rfl (fun c_3 => ?_) (fun c_3 => ?_)
    · replace hEX := hEX.trans (if_pos c_3)
      have g_4 : RG p1 2 2 := RG_lt2 (RG_k 1 1 rfl) g_p1 c_3 (by decide +kernel)
      exact hU _ _ _ (J22 g_p0 g_4 hEX _ _ _ hP hD hS (lv_sub hl [] rfl))
    · replace hEX := hEX.trans (if_neg c_3)
      have d_5 := Int32.not_lt.mp c_3
      have g_6 : RG p1 0 1 := RG_le1 g_p1 (RG_k 1 1 rfl) d_5 (by decide +kernel)
      exact hU _ _ _ (J11 g_p0 g_6 hEX _ _ _ hP hD hS (lv_sub hl [0, 1] rfl))
noncomputable def wf_c_X12_mostOf_7 : List Cond := .code yX12_mostOf cX12_mostOf 2 (some .int) :: ([])
set_option maxHeartbeats 4000000 in
set_option maxRecDepth 100000 in
theorem c_X12_mostOf_7 (l : Launch) (dC : Nat → ClassId) (dI : Nat → Nat → Nat) (sz : Nat) (p0 : Int32) (p1 : Int32) (g_p0 : RG p0 115 115) (g_p1 : RG p1 0 2) : Met l yX12_mostOf wf_c_X12_mostOf_7 ({ frames := 0, cells := 0, slots := 0, locals := 0 }) (va_Pc [.int p0, .int p1] (fun U => U.heap.size = sz ∧ va_P (dC, dI) vwCl [] U.heap ∧ va_K (dC, dI) vwCl [] U ∧ va_D (fun _ => True) [])) (va_Qi (fun (r : Int32) (u : Unit) => (r = 12 ∧ RG p1 2 2 ∧ r = fx_c_X12_mostOf_7 p0 p1) ∨ (r = 3 ∧ RG p1 1 1 ∧ r = fx_c_X12_mostOf_7 p0 p1) ∨ (r = 9 ∧ RG p1 0 0 ∧ r = fx_c_X12_mostOf_7 p0 p1)) (fun (u : Unit) t => va_P (dC, dI) vwCl [] t.heap ∧ va_K (dC, dI) vwCl [] t ∧ va_D (va_A [] sz) []) (va_A [] sz)) 0 0 (va_A [] sz) := by
  refine Met.ofW (cc := cX12_mostOf) (maxL := 2) (ret := (some .int)) (by decide +kernel) rfl ?_
  intro p e s m args below meth c s₁ B hml hv
  obtain ⟨rfl, hsz, hP, hK, hD0⟩ := hv
  have hx := B.exec
  have hb := B.bytes
  have hr := B.returns
  have hts := atoms_spec (ws := wf_c_X12_mostOf_7) B.pre
  have hown : s.vm.findClass RX12 = some m.cls := findClass_of_methodNamed B.named
  have hlocks := B.notSynchronized
  subst hsz
  have hD := hD0.self (sz := s.heap.size)
  generalize hAe : va_A [] s.heap.size = A at hD ⊢
  have hA : ∀ q : Nat, s.heap.size ≤ q → A q := fun q h => by rw [← hAe]; exact Or.inr h
  have hP : va_P (dC, dI) vwCl [] s.heap := hP
  have hl := lv_entry ([.int p0, .int p1]) (n := 2) (Nat.le_of_ble_eq_true rfl)
  rw [lg_entry_eq]
  generalize (lg_sl ([.int p0, .int p1]) ++ List.replicate (2 - (lg_sl ([.int p0, .int p1])).length) Slot.unset).toArray = ls at hl ⊢
  have hl : lv_has ls 2 [(0, .int p0), (1, .int p1)] := hl
  obtain ⟨H, hHe⟩ : ∃ H : Heap, s.heap = H := ⟨_, rfl⟩
  have hS : va_S A s.heap H [] := by rw [hHe]; exact va_S.rf
  have hP : va_P (dC, dI) vwCl [] H := by rw [← hHe]; exact hP
  rw [hHe]
  obtain ⟨RES, hR⟩ : ∃ z, fx_c_X12_mostOf_7 p0 p1 = z := ⟨_, rfl⟩
  have hEX : RES = fx_c_X12_mostOf_7 p0 p1 := hR.symm
  refine lv_iload_n hx hb dX12_mostOf_0 rfl (lv_at hl 0 rfl) ?_
  as_aux_lemma =>
  refine lv_bipush (v := 115) hx hb dX12_mostOf_1 kc_bipush_115 ?_
  refine lv_icmp_ne (tgt := 37) hx hb dX12_mostOf_3 rfl (fun c_1 => ?_) (fun c_1 => ?_)
  · replace hEX := hEX.trans (if_neg c_1)
    exact RG_dead (RG_ne1 g_p0 (q := 115) rfl c_1 (a' := 116) (b' := 115) (by decide +kernel)) (by decide +kernel)
  · replace hEX := hEX.trans (if_pos c_1)
    refine lv_iload_n hx hb dX12_mostOf_6 rfl (lv_at hl 1 rfl) ?_
    refine lv_if_ne (tgt := 15) hx hb dX12_mostOf_7 rfl (fun c_2 => ?_) (fun c_2 => ?_)
    · replace hEX := hEX.trans (if_neg c_2)
      have g_3 : RG p1 1 2 := RG_ne1 g_p1 (q := 0) rfl c_2 (by decide +kernel)
      refine lv_iload_n hx hb dX12_mostOf_15 rfl (lv_at hl 1 rfl) ?_
      refine lv_iconst (v := 1) hx hb dX12_mostOf_16 kc_iconst_1 ?_
      refine lv_icmp_ne (tgt := 24) hx hb dX12_mostOf_17 rfl (fun c_4 => ?_) (fun c_4 => ?_)
      · replace hEX := hEX.trans (if_neg c_4)
        have g_5 : RG p1 2 2 := RG_ne1 g_3 (q := 1) rfl c_4 (by decide +kernel)
        refine lv_iload_n hx hb dX12_mostOf_24 rfl (lv_at hl 1 rfl) ?_
        as_aux_lemma =>
        refine lv_iconst (v := 2) hx hb dX12_mostOf_25 kc_iconst_2 ?_
        refine lv_icmp_ne (tgt := 34) hx hb dX12_mostOf_26 rfl (fun c_6 => ?_) (fun c_6 => ?_)
        · replace hEX := hEX.trans (if_neg c_6)
          exact RG_dead (RG_ne1 g_5 (q := 2) rfl c_6 (a' := 3) (b' := 2) (by decide +kernel)) (by decide +kernel)
        · replace hEX := hEX.trans (if_pos c_6)
          refine lv_bipush (v := 12) hx hb dX12_mostOf_29 kc_bipush_12 ?_
          refine lv_goto (tgt := 36) hx hb dX12_mostOf_31 rfl ?_
          have hK9 := hK.sub (tys' := []) [] rfl
          exact W.iret (v := 12) hx hb hr (fun t ht hW => ⟨⟨12, (), rfl, (Or.inl ⟨rfl, g_5, (hR.trans hEX).symm⟩), by rw [ht]; exact hP, va_K.moved hW.alike hK9, hD⟩, hS.F ht⟩) hS.2.2 dX12_mostOf_36
      · replace hEX := hEX.trans (if_pos c_4)
        have g_7 : RG p1 1 1 := RG_eq1 g_3 (RG_k 1 1 rfl) c_4 (by decide +kernel)
        refine lv_iconst (v := 3) hx hb dX12_mostOf_20 kc_iconst_3 ?_
        refine lv_goto (tgt := 36) hx hb dX12_mostOf_21 rfl ?_
        have hK9 := hK.sub (tys' := []) [] rfl
        exact W.iret (v := 3) hx hb hr (fun t ht hW => ⟨⟨3, (), rfl, (Or.inr (Or.inl ⟨rfl, g_7, (hR.trans hEX).symm⟩)), by rw [ht]; exact hP, va_K.moved hW.alike hK9, hD⟩, hS.F ht⟩) hS.2.2 dX12_mostOf_36
    · replace hEX := hEX.trans (if_pos c_2)
      have g_8 : RG p1 0 0 := RG_eq1 g_p1 (RG_k 0 0 rfl) c_2 (by decide +kernel)
      refine lv_bipush (v := 9) hx hb dX12_mostOf_10 kc_bipush_9 ?_
      as_aux_lemma =>
      refine lv_goto (tgt := 36) hx hb dX12_mostOf_12 rfl ?_
      have hK9 := hK.sub (tys' := []) [] rfl
      exact W.iret (v := 9) hx hb hr (fun t ht hW => ⟨⟨9, (), rfl, (Or.inr (Or.inr ⟨rfl, g_8, (hR.trans hEX).symm⟩)), by rw [ht]; exact hP, va_K.moved hW.alike hK9, hD⟩, hS.F ht⟩) hS.2.2 dX12_mostOf_36
noncomputable def wf_c_X12_isIn_4 : List Cond := .code yX12_isIn cX12_isIn 6 (some .boolean) :: ([])
set_option maxHeartbeats 4000000 in
set_option maxRecDepth 100000 in
theorem c_X12_isIn_4 (l : Launch) (dC : Nat → ClassId) (dI : Nat → Nat → Nat) (sz : Nat) (p0 : Int64) (g_p0 : LG p0 0 99) : Met l yX12_isIn wf_c_X12_isIn_4 ({ frames := 0, cells := 0, slots := 0, locals := 0 }) (va_Pc [.long p0, .long 1, .long 12] (fun U => U.heap.size = sz ∧ va_P (dC, dI) vwCl [] U.heap ∧ va_K (dC, dI) vwCl [] U ∧ va_D (fun _ => True) [])) (va_Qi (fun (r : Int32) (u : Unit) => (r = 0 ∧ r = fx_c_X12_isIn_4 p0) ∨ (r = 1 ∧ LG p0 1 12 ∧ r = fx_c_X12_isIn_4 p0)) (fun (u : Unit) t => va_P (dC, dI) vwCl [] t.heap ∧ va_K (dC, dI) vwCl [] t ∧ va_D (va_A [] sz) []) (va_A [] sz)) 0 0 (va_A [] sz) := by
  refine Met.ofW (cc := cX12_isIn) (maxL := 6) (ret := (some .boolean)) (by decide +kernel) rfl ?_
  intro p e s m args below meth c s₁ B hml hv
  obtain ⟨rfl, hsz, hP, hK, hD0⟩ := hv
  have hx := B.exec
  have hb := B.bytes
  have hr := B.returns
  have hts := atoms_spec (ws := wf_c_X12_isIn_4) B.pre
  have hown : s.vm.findClass RX12 = some m.cls := findClass_of_methodNamed B.named
  have hlocks := B.notSynchronized
  subst hsz
  have hD := hD0.self (sz := s.heap.size)
  generalize hAe : va_A [] s.heap.size = A at hD ⊢
  have hA : ∀ q : Nat, s.heap.size ≤ q → A q := fun q h => by rw [← hAe]; exact Or.inr h
  have hP : va_P (dC, dI) vwCl [] s.heap := hP
  have hl := lv_entry ([.long p0, .long 1, .long 12]) (n := 6) (Nat.le_of_ble_eq_true rfl)
  rw [lg_entry_eq]
  generalize (lg_sl ([.long p0, .long 1, .long 12]) ++ List.replicate (6 - (lg_sl ([.long p0, .long 1, .long 12])).length) Slot.unset).toArray = ls at hl ⊢
  have hl : lv_has ls 6 [(0, .long p0), (2, .long 1), (4, .long 12)] := hl
  obtain ⟨H, hHe⟩ : ∃ H : Heap, s.heap = H := ⟨_, rfl⟩
  have hS : va_S A s.heap H [] := by rw [hHe]; exact va_S.rf
  have hP : va_P (dC, dI) vwCl [] H := by rw [← hHe]; exact hP
  rw [hHe]
  obtain ⟨RES, hR⟩ : ∃ z, fx_c_X12_isIn_4 p0 = z := ⟨_, rfl⟩
  have hEX : RES = fx_c_X12_isIn_4 p0 := hR.symm
  refine lv_lload_n hx hb dX12_isIn_0 rfl (lv_at hl 0 rfl) ?_
  as_aux_lemma =>
  refine lv_lload_n hx hb dX12_isIn_1 rfl (lv_at hl 1 rfl) ?_
  refine W.lcmp hx hb dX12_isIn_2 ?_
  refine lv_if_lt (tgt := 17) hx hb dX12_isIn_3 rfl (fun c_1 => ?_) (fun c_1 => ?_)
  · replace c_1 := lc_lt_t c_1
    replace hEX := hEX.trans (if_pos c_1)
    have g_2 : LG p0 0 0 := LG_lt1 g_p0 (LG_k 1 1 rfl) c_1 (by decide +kernel)
    refine lv_iconst (v := 0) hx hb dX12_isIn_17 kc_iconst_0 ?_
    have hK9 := hK.sub (tys' := []) [] rfl
    exact W.zret (v := 0) hx hb hr rfl (fun t ht hW => ⟨⟨0, (), rfl, (Or.inl ⟨rfl, (hR.trans hEX).symm⟩), by rw [ht]; exact hP, va_K.moved hW.alike hK9, hD⟩, hS.F ht⟩) hS.2.2 dX12_isIn_18
  · replace c_1 := lc_lt_f c_1
    replace hEX := hEX.trans (if_neg c_1)
    have d_3 := Int64.not_lt.mp c_1
    have g_4 : LG p0 1 99 := LG_le2 (LG_k 1 1 rfl) g_p0 d_3 (by decide +kernel)
    refine lv_lload_n hx hb dX12_isIn_6 rfl (lv_at hl 0 rfl) ?_
    as_aux_lemma =>
    refine lv_lload hx hb dX12_isIn_7 (lv_at hl 2 rfl) ?_
    refine W.lcmp hx hb dX12_isIn_12 ?_
    refine lv_if_gt (tgt := 17) hx hb dX12_isIn_10 rfl (fun c_5 => ?_) (fun c_5 => ?_)
    · replace c_5 := lc_gt_t c_5
      replace hEX := hEX.trans (if_pos c_5)
      have g_6 : LG p0 13 99 := LG_lt2 (LG_k 12 12 rfl) g_4 c_5 (by decide +kernel)
      refine lv_iconst (v := 0) hx hb dX12_isIn_17 kc_iconst_0 ?_
      have hK9 := hK.sub (tys' := []) [] rfl
      exact W.zret (v := 0) hx hb hr rfl (fun t ht hW => ⟨⟨0, (), rfl, (Or.inl ⟨rfl, (hR.trans hEX).symm⟩), by rw [ht]; exact hP, va_K.moved hW.alike hK9, hD⟩, hS.F ht⟩) hS.2.2 dX12_isIn_18
    · replace c_5 := lc_gt_f c_5
      replace hEX := hEX.trans (if_neg c_5)
      have d_7 := Int64.not_lt.mp c_5
      have g_8 : LG p0 1 12 := LG_le1 g_4 (LG_k 12 12 rfl) d_7 (by decide +kernel)
      refine lv_iconst (v := 1) hx hb dX12_isIn_13 kc_iconst_1 ?_
      as_aux_lemma =>
      refine lv_goto (tgt := 18) hx hb dX12_isIn_14 rfl ?_
      have hK9 := hK.sub (tys' := []) [] rfl
      exact W.zret (v := 1) hx hb hr rfl (fun t ht hW => ⟨⟨1, (), rfl, (Or.inr ⟨rfl, g_8, (hR.trans hEX).symm⟩), by rw [ht]; exact hP, va_K.moved hW.alike hK9, hD⟩, hS.F ht⟩) hS.2.2 dX12_isIn_18
noncomputable def wd_c_X12_number_3 (a0 : Nat) (a1 : Int32) (a2 : Nat) (a3 : Nat) (a4 : Nat) (a5 : Nat) (a6 : Nat) (a7 : Int32) (a8 : Int32) (a9 : Int32) (a10 : Int32) (a11 : Int32) (a12 : Int32) (a13 : Int32) (a14 : Int32) (a15 : Int32) (a16 : Nat) (a17 : Nat) (a18 : Int32) (a19 : Nat) (a20 : Nat) (a21 : Nat) (a22 : Nat) (a23 : Nat) (a24 : Nat) (a25 : Nat) (a26 : Nat) (a27 : Int32) (a28 : Int32) (a29 : Int32) (a30 : Int32) (a31 : Int32) (a32 : Int32) (a33 : Nat) (a34 : Nat) (a35 : Int32) (a36 : Nat) (a37 : Nat) (a38 : Nat) (a39 : Nat) (a40 : Nat) (a41 : Nat) (a42 : Int32) (a43 : Int64) (a44 : Int32) (a45 : Int32) (a46 : Nat) (a47 : Nat) (a48 : Nat) (a49 : Nat) (a50 : Nat) (a51 : Nat) (a52 : Int32) (a53 : Nat) (a54 : Int32) (a55 : Nat) (a56 : ClassId) (a57 : Nat) (a58 : Nat → Int32) : va_W := [(a0, .inr (12, [.int a1, .ref a2, .ref a3, .ref a4, .ref a5, .ref a6, .int a7, .int a8, .int a9, .int a10, .int a11, .int a12, .int a13, .int a14, .int a15, .ref a16, .ref a17, .int a18, .ref a19, .ref a20, .ref a21, .ref a22, .ref a23, .ref a24, .ref a25, .ref a26, .int a27, .int a28, .int a29, .int a30, .int a31, .int a32, .ref a33, .ref a34, .int a35, .ref a36, .ref a37, .ref a38, .ref a39, .ref a40, .ref a41, .int a42, .long a43, .int a44, .int a45, .ref a46, .ref a47, .ref a48, .ref a49, .ref a50, .ref a51, .int a52, .ref a53, .int a54])), (a55, .inl (a56, a57, .inl a58))]
noncomputable def wf_c_X12_number_3 : List Cond := List.cons (.code yX12_number cX12_number 5 (some .int)) (@HAppend.hAppend (List Cond) (List Cond) (List Cond) _ [.methodLink RX12 153 yX12_look, .instanceMethod yX12_look, .selects RX12 yX12_look yX12_look, .initialized RX12, .code yX12_look cX12_look 1 (some .int), .fieldLink RX12 134 "BuoyVoteModel" "at" "I", .fieldLink RX12 137 "BuoyVoteModel" "ends" "I", .fieldLink RX12 23 "BuoyVoteModel" "text" "[B", .fieldLink RX12 140 "BuoyVoteModel" "begins" "I", .methodLink RX12 183 yX12_isDigit, .instanceMethod yX12_isDigit, .selects RX12 yX12_isDigit yX12_isDigit, .code yX12_isDigit cX12_isDigit 1 (some .boolean), .methodLink RX12 149 yX12_fails, .instanceMethod yX12_fails, .selects RX12 yX12_fails yX12_fails, .code yX12_fails cX12_fails 1 (some .boolean), .fieldLink RX12 143 "BuoyVoteModel" "fault" "I", .methodLink RX12 229 yX12_here, .instanceMethod yX12_here, .selects RX12 yX12_here yX12_here, .code yX12_here cX12_here 1 (some .int), .methodLink RX12 232 yX12_isIn, .static yX12_isIn, .code yX12_isIn cX12_isIn 6 (some .boolean)] wsX120)
theorem iw_c_X12_number_3_X12 : ∀ w ∈ wsX120, w ∈ wf_c_X12_number_3 := fun w h => List.mem_cons_of_mem _ (List.mem_append_right _ h)
set_option maxRecDepth 20000 in
theorem gf_c_X12_number_3_c_X12_isDigit : GoodIn wf_c_X12_number_3 (wsV RX12 183 RX12 yX12_isDigit wf_c_X12_isDigit) := goodIn_app (gi_l [10, 11, 12, 4] rfl rfl) (gi_cons (j := 13) rfl rfl (goodIn_app (gi_l [6, 7, 8, 9] rfl rfl) (goodIn_sub iw_c_X12_number_3_X12 gw_X12)))
set_option maxRecDepth 20000 in
theorem gf_c_X12_number_3_c_X12_isIn_4 : GoodIn wf_c_X12_number_3 (va_wsS RX12 232 yX12_isIn wf_c_X12_isIn_4) := goodIn_app (gi_l [23, 24, 4] rfl rfl) (gi_cons (j := 25) rfl rfl gi_nil)
set_option maxRecDepth 20000 in
theorem gf_c_X12_number_3_c_X12_fails : GoodIn wf_c_X12_number_3 (wsV RX12 149 RX12 yX12_fails wf_c_X12_fails) := goodIn_app (gi_l [14, 15, 16, 4] rfl rfl) (gi_cons (j := 17) rfl rfl (goodIn_app (gi_l [18, 6] rfl rfl) (goodIn_sub iw_c_X12_number_3_X12 gw_X12)))
set_option maxRecDepth 20000 in
theorem gf_c_X12_number_3_c_X12_look : GoodIn wf_c_X12_number_3 (wsV RX12 153 RX12 yX12_look wf_c_X12_look) := goodIn_app (gi_l [1, 2, 3, 4] rfl rfl) (gi_cons (j := 5) rfl rfl (goodIn_app (gi_l [6, 7, 8, 9] rfl rfl) (goodIn_sub iw_c_X12_number_3_X12 gw_X12)))
set_option maxRecDepth 20000 in
theorem gf_c_X12_number_3_c_X12_here : GoodIn wf_c_X12_number_3 (wsV RX12 229 RX12 yX12_here wf_c_X12_here) := goodIn_app (gi_l [19, 20, 21, 4] rfl rfl) (gi_cons (j := 22) rfl rfl (goodIn_app (gi_l [6, 7, 8, 9] rfl rfl) (goodIn_sub iw_c_X12_number_3_X12 gw_X12)))
set_option maxHeartbeats 4000000 in
set_option maxRecDepth 100000 in
theorem c_X12_number_3 (l : Launch) (dC : Nat → ClassId) (dI : Nat → Nat → Nat) (sz : Nat) (h0 : Nat) (h0_f0 : Int32) (h0_1 : Nat) (h0_2 : Nat) (h0_3 : Nat) (h0_4 : Nat) (h0_5 : Nat) (h0_f6 : Int32) (h0_f7 : Int32) (h0_f8 : Int32) (h0_f9 : Int32) (h0_f10 : Int32) (h0_f12 : Int32) (h0_f13 : Int32) (h0_f14 : Int32) (h0_15 : Nat) (h0_16 : Nat) (h0_f17 : Int32) (h0_18 : Nat) (h0_19 : Nat) (h0_20 : Nat) (h0_21 : Nat) (h0_22 : Nat) (h0_23 : Nat) (h0_24 : Nat) (h0_25 : Nat) (h0_f26 : Int32) (h0_f27 : Int32) (h0_f28 : Int32) (h0_f29 : Int32) (h0_f30 : Int32) (h0_f31 : Int32) (h0_32 : Nat) (h0_33 : Nat) (h0_f34 : Int32) (h0_35 : Nat) (h0_36 : Nat) (h0_37 : Nat) (h0_38 : Nat) (h0_39 : Nat) (h0_40 : Nat) (h0_f41 : Int32) (h0_f42 : Int64) (h0_f43 : Int32) (h0_f44 : Int32) (h0_45 : Nat) (h0_46 : Nat) (h0_47 : Nat) (h0_48 : Nat) (h0_49 : Nat) (h0_50 : Nat) (h0_f51 : Int32) (h0_52 : Nat) (h0_f53 : Int32) (h0_5k : ClassId) (h0_5c : Nat → Int32) (tN : Nat) (g_h0_f6 : RG h0_f6 0 240) (g_h0_f7 : RG h0_f7 0 4) (g_h0_f8 : RG h0_f8 0 720) (g_h0_f9 : RG h0_f9 0 240) (g_h0_f10 : RG h0_f10 0 240) (g_h0_f17 : RG h0_f17 0 1) (g_h0_f26 : RG h0_f26 0 8) (g_h0_f27 : RG h0_f27 0 3) (g_h0_f28 : RG h0_f28 0 8) (g_h0_f29 : RG h0_f29 0 3) (g_h0_f30 : RG h0_f30 0 4) (g_h0_f31 : RG h0_f31 0 1) (g_h0_f34 : RG h0_f34 (-1) 3) (g_h0_f41 : RG h0_f41 0 40) (g_h0_f51 : RG h0_f51 0 10) (g_h0_f53 : RG h0_f53 0 1) (htN : h0_f8.toInt + 240 ≤ (tN : Int)) : Met l yX12_number wf_c_X12_number_3 ({ frames := 1, cells := 0, slots := 0, locals := 25 }) (va_Pc [.ref h0, .int 1, .int 12] (fun U => U.heap.size = sz ∧ va_P (dC, dI) vwCl (wd_c_X12_number_3 h0 h0_f0 h0_1 h0_2 h0_3 h0_4 h0_5 h0_f6 h0_f7 h0_f8 h0_f9 h0_f10 (-1) h0_f12 h0_f13 h0_f14 h0_15 h0_16 h0_f17 h0_18 h0_19 h0_20 h0_21 h0_22 h0_23 h0_24 h0_25 h0_f26 h0_f27 h0_f28 h0_f29 h0_f30 h0_f31 h0_32 h0_33 h0_f34 h0_35 h0_36 h0_37 h0_38 h0_39 h0_40 h0_f41 h0_f42 h0_f43 h0_f44 h0_45 h0_46 h0_47 h0_48 h0_49 h0_50 h0_f51 h0_52 h0_f53 h0_5 h0_5k tN h0_5c) U.heap ∧ va_K (dC, dI) vwCl [(h0_5k, .byte)] U ∧ va_D (fun _ => True) (wd_c_X12_number_3 h0 h0_f0 h0_1 h0_2 h0_3 h0_4 h0_5 h0_f6 h0_f7 h0_f8 h0_f9 h0_f10 (-1) h0_f12 h0_f13 h0_f14 h0_15 h0_16 h0_f17 h0_18 h0_19 h0_20 h0_21 h0_22 h0_23 h0_24 h0_25 h0_f26 h0_f27 h0_f28 h0_f29 h0_f30 h0_f31 h0_32 h0_33 h0_f34 h0_35 h0_36 h0_37 h0_38 h0_39 h0_40 h0_f41 h0_f42 h0_f43 h0_f44 h0_45 h0_46 h0_47 h0_48 h0_49 h0_50 h0_f51 h0_52 h0_f53 h0_5 h0_5k tN h0_5c))) (va_Qi (fun (r : Int32) (u : (Int32) × (Int32)) => (RG r 1 12 ∧ RG u.1 1 240 ∧ u.2 = (-1) ∧ RG h0_f9 1 240 ∧ h0_f10.toInt + 1 ≤ (u.1).toInt ∧ (r, u.1, u.2) = fx_c_X12_number_3 h0_f8 h0_f9 h0_f10 h0_5c) ∨ (RG r 0 99 ∧ RG u.1 0 240 ∧ RG u.2 0 240 ∧ (r, u.1, u.2) = fx_c_X12_number_3 h0_f8 h0_f9 h0_f10 h0_5c)) (fun (u : (Int32) × (Int32)) t => va_P (dC, dI) vwCl (wd_c_X12_number_3 h0 h0_f0 h0_1 h0_2 h0_3 h0_4 h0_5 h0_f6 h0_f7 h0_f8 h0_f9 (u.1) (u.2) h0_f12 h0_f13 h0_f14 h0_15 h0_16 h0_f17 h0_18 h0_19 h0_20 h0_21 h0_22 h0_23 h0_24 h0_25 h0_f26 h0_f27 h0_f28 h0_f29 h0_f30 h0_f31 h0_32 h0_33 h0_f34 h0_35 h0_36 h0_37 h0_38 h0_39 h0_40 h0_f41 h0_f42 h0_f43 h0_f44 h0_45 h0_46 h0_47 h0_48 h0_49 h0_50 h0_f51 h0_52 h0_f53 h0_5 h0_5k tN h0_5c) t.heap ∧ va_K (dC, dI) vwCl [] t ∧ va_D (va_A (wd_c_X12_number_3 h0 h0_f0 h0_1 h0_2 h0_3 h0_4 h0_5 h0_f6 h0_f7 h0_f8 h0_f9 h0_f10 (-1) h0_f12 h0_f13 h0_f14 h0_15 h0_16 h0_f17 h0_18 h0_19 h0_20 h0_21 h0_22 h0_23 h0_24 h0_25 h0_f26 h0_f27 h0_f28 h0_f29 h0_f30 h0_f31 h0_32 h0_33 h0_f34 h0_35 h0_36 h0_37 h0_38 h0_39 h0_40 h0_f41 h0_f42 h0_f43 h0_f44 h0_45 h0_46 h0_47 h0_48 h0_49 h0_50 h0_f51 h0_52 h0_f53 h0_5 h0_5k tN h0_5c) sz) (wd_c_X12_number_3 h0 h0_f0 h0_1 h0_2 h0_3 h0_4 h0_5 h0_f6 h0_f7 h0_f8 h0_f9 (u.1) (u.2) h0_f12 h0_f13 h0_f14 h0_15 h0_16 h0_f17 h0_18 h0_19 h0_20 h0_21 h0_22 h0_23 h0_24 h0_25 h0_f26 h0_f27 h0_f28 h0_f29 h0_f30 h0_f31 h0_32 h0_33 h0_f34 h0_35 h0_36 h0_37 h0_38 h0_39 h0_40 h0_f41 h0_f42 h0_f43 h0_f44 h0_45 h0_46 h0_47 h0_48 h0_49 h0_50 h0_f51 h0_52 h0_f53 h0_5 h0_5k tN h0_5c)) (va_A (wd_c_X12_number_3 h0 h0_f0 h0_1 h0_2 h0_3 h0_4 h0_5 h0_f6 h0_f7 h0_f8 h0_f9 h0_f10 (-1) h0_f12 h0_f13 h0_f14 h0_15 h0_16 h0_f17 h0_18 h0_19 h0_20 h0_21 h0_22 h0_23 h0_24 h0_25 h0_f26 h0_f27 h0_f28 h0_f29 h0_f30 h0_f31 h0_32 h0_33 h0_f34 h0_35 h0_36 h0_37 h0_38 h0_39 h0_40 h0_f41 h0_f42 h0_f43 h0_f44 h0_45 h0_46 h0_47 h0_48 h0_49 h0_50 h0_f51 h0_52 h0_f53 h0_5 h0_5k tN h0_5c) sz)) 0 0 (va_A (wd_c_X12_number_3 h0 h0_f0 h0_1 h0_2 h0_3 h0_4 h0_5 h0_f6 h0_f7 h0_f8 h0_f9 h0_f10 (-1) h0_f12 h0_f13 h0_f14 h0_15 h0_16 h0_f17 h0_18 h0_19 h0_20 h0_21 h0_22 h0_23 h0_24 h0_25 h0_f26 h0_f27 h0_f28 h0_f29 h0_f30 h0_f31 h0_32 h0_33 h0_f34 h0_35 h0_36 h0_37 h0_38 h0_39 h0_40 h0_f41 h0_f42 h0_f43 h0_f44 h0_45 h0_46 h0_47 h0_48 h0_49 h0_50 h0_f51 h0_52 h0_f53 h0_5 h0_5k tN h0_5c) sz) := by
  refine Met.ofW (cc := cX12_number) (maxL := 5) (ret := (some .int)) (by decide +kernel) rfl ?_
  intro p e s m args below meth c s₁ B hml hv
  obtain ⟨rfl, hsz, hP, hK, hD0⟩ := hv
  have hx := B.exec
  have hb := B.bytes
  have hr := B.returns
  have hts := atoms_spec (ws := wf_c_X12_number_3) B.pre
  have hown : s.vm.findClass RX12 = some m.cls := findClass_of_methodNamed B.named
  have hlocks := B.notSynchronized
  subst hsz
  have hD := hD0.self (sz := s.heap.size)
  generalize hAe : va_A (wd_c_X12_number_3 h0 h0_f0 h0_1 h0_2 h0_3 h0_4 h0_5 h0_f6 h0_f7 h0_f8 h0_f9 h0_f10 (-1) h0_f12 h0_f13 h0_f14 h0_15 h0_16 h0_f17 h0_18 h0_19 h0_20 h0_21 h0_22 h0_23 h0_24 h0_25 h0_f26 h0_f27 h0_f28 h0_f29 h0_f30 h0_f31 h0_32 h0_33 h0_f34 h0_35 h0_36 h0_37 h0_38 h0_39 h0_40 h0_f41 h0_f42 h0_f43 h0_f44 h0_45 h0_46 h0_47 h0_48 h0_49 h0_50 h0_f51 h0_52 h0_f53 h0_5 h0_5k tN h0_5c) s.heap.size = A at hD ⊢
  have hA : ∀ q : Nat, s.heap.size ≤ q → A q := fun q h => by rw [← hAe]; exact Or.inr h
  have hP : va_P (dC, dI) vwCl (wd_c_X12_number_3 h0 h0_f0 h0_1 h0_2 h0_3 h0_4 h0_5 h0_f6 h0_f7 h0_f8 h0_f9 h0_f10 (-1) h0_f12 h0_f13 h0_f14 h0_15 h0_16 h0_f17 h0_18 h0_19 h0_20 h0_21 h0_22 h0_23 h0_24 h0_25 h0_f26 h0_f27 h0_f28 h0_f29 h0_f30 h0_f31 h0_32 h0_33 h0_f34 h0_35 h0_36 h0_37 h0_38 h0_39 h0_40 h0_f41 h0_f42 h0_f43 h0_f44 h0_45 h0_46 h0_47 h0_48 h0_49 h0_50 h0_f51 h0_52 h0_f53 h0_5 h0_5k tN h0_5c) s.heap := hP
  have hl := lv_entry ([.ref h0, .int 1, .int 12]) (n := 5) (Nat.le_of_ble_eq_true rfl)
  rw [lg_entry_eq]
  generalize (lg_sl ([.ref h0, .int 1, .int 12]) ++ List.replicate (5 - (lg_sl ([.ref h0, .int 1, .int 12])).length) Slot.unset).toArray = ls at hl ⊢
  have hl : lv_has ls 5 [(0, .ref h0), (1, .int 1), (2, .int 12)] := hl
  obtain ⟨H, hHe⟩ : ∃ H : Heap, s.heap = H := ⟨_, rfl⟩
  have hS : va_S A s.heap H [] := by rw [hHe]; exact va_S.rf
  have hP : va_P (dC, dI) vwCl (wd_c_X12_number_3 h0 h0_f0 h0_1 h0_2 h0_3 h0_4 h0_5 h0_f6 h0_f7 h0_f8 h0_f9 h0_f10 (-1) h0_f12 h0_f13 h0_f14 h0_15 h0_16 h0_f17 h0_18 h0_19 h0_20 h0_21 h0_22 h0_23 h0_24 h0_25 h0_f26 h0_f27 h0_f28 h0_f29 h0_f30 h0_f31 h0_32 h0_33 h0_f34 h0_35 h0_36 h0_37 h0_38 h0_39 h0_40 h0_f41 h0_f42 h0_f43 h0_f44 h0_45 h0_46 h0_47 h0_48 h0_49 h0_50 h0_f51 h0_52 h0_f53 h0_5 h0_5k tN h0_5c) H := by rw [← hHe]; exact hP
  rw [hHe]
  obtain ⟨RES, hR⟩ : ∃ z, fx_c_X12_number_3 h0_f8 h0_f9 h0_f10 h0_5c = z := ⟨_, rfl⟩
  have hEX : RES = fx_c_X12_number_3 h0_f8 h0_f9 h0_f10 h0_5c := hR.symm
  refine wj (fun G hG hU => ?_)
  as_aux_lemma =>
  have J67 : ∀ (j67_l4 : Int32) (j67_h0_f10 : Int32) (g_h0_f10 : RG h0_f10 0 240) (g_h0_f17 : RG h0_f17 0 1) (g_h0_f26 : RG h0_f26 0 8) (g_h0_f27 : RG h0_f27 0 3) (g_h0_f28 : RG h0_f28 0 8) (g_h0_f29 : RG h0_f29 0 3) (g_h0_f30 : RG h0_f30 0 4) (g_h0_f31 : RG h0_f31 0 1) (g_h0_f34 : RG h0_f34 (-1) 3) (g_h0_f41 : RG h0_f41 0 40) (g_h0_f51 : RG h0_f51 0 10) (g_h0_f53 : RG h0_f53 0 1) (g_h0_f6 : RG h0_f6 0 240) (g_h0_f7 : RG h0_f7 0 4) (g_h0_f8 : RG h0_f8 0 720) (g_h0_f9 : RG h0_f9 1 240) (g_j67_h0_f10 : RG j67_h0_f10 1 240) (g_j67_l4 : RG j67_l4 0 99) (r_h0_f10_j67_h0_f10 : h0_f10.toInt + 1 ≤ j67_h0_f10.toInt) (hEX : RES = fx_c_X12_number_3_p67 h0_f8 h0_f9 h0_5c j67_l4 j67_h0_f10) (H : Heap) (locs : List Loc) (ls : Array Slot) (hP : va_P (dC, dI) vwCl (wd_c_X12_number_3 h0 h0_f0 h0_1 h0_2 h0_3 h0_4 h0_5 h0_f6 h0_f7 h0_f8 h0_f9 j67_h0_f10 (-1) h0_f12 h0_f13 h0_f14 h0_15 h0_16 h0_f17 h0_18 h0_19 h0_20 h0_21 h0_22 h0_23 h0_24 h0_25 h0_f26 h0_f27 h0_f28 h0_f29 h0_f30 h0_f31 h0_32 h0_33 h0_f34 h0_35 h0_36 h0_37 h0_38 h0_39 h0_40 h0_f41 h0_f42 h0_f43 h0_f44 h0_45 h0_46 h0_47 h0_48 h0_49 h0_50 h0_f51 h0_52 h0_f53 h0_5 h0_5k tN h0_5c) H) (hD : va_D A (wd_c_X12_number_3 h0 h0_f0 h0_1 h0_2 h0_3 h0_4 h0_5 h0_f6 h0_f7 h0_f8 h0_f9 j67_h0_f10 (-1) h0_f12 h0_f13 h0_f14 h0_15 h0_16 h0_f17 h0_18 h0_19 h0_20 h0_21 h0_22 h0_23 h0_24 h0_25 h0_f26 h0_f27 h0_f28 h0_f29 h0_f30 h0_f31 h0_32 h0_33 h0_f34 h0_35 h0_36 h0_37 h0_38 h0_39 h0_40 h0_f41 h0_f42 h0_f43 h0_f44 h0_45 h0_46 h0_47 h0_48 h0_49 h0_50 h0_f51 h0_52 h0_f53 h0_5 h0_5k tN h0_5c)) (hS : va_S A s.heap H locs) (hl : lv_has ls 5 [(4, .int j67_l4), (0, .ref h0), (1, .int 1), (2, .int 12)]), G H locs (F0 m 67 ls []) := by
    as_aux_lemma =>
    intro j67_l4 j67_h0_f10 g_h0_f10 g_h0_f17 g_h0_f26 g_h0_f27 g_h0_f28 g_h0_f29 g_h0_f30 g_h0_f31 g_h0_f34 g_h0_f41 g_h0_f51 g_h0_f53 g_h0_f6 g_h0_f7 g_h0_f8 g_h0_f9 g_j67_h0_f10 g_j67_l4 r_h0_f10_j67_h0_f10 hEX H locs ls hP hD hS hl
    refine hG _ _ _ ?_
    refine lv_aload_n hx hb dX12_number_67 rfl (lv_at hl 1 rfl) ?_
    obtain ⟨hPc, hDc, hFc, hqc⟩ := cl_cut (wc := (wd_c_X12_isDigit h0 h0_f0 h0_1 h0_2 h0_3 h0_4 h0_5 h0_f6 h0_f7 h0_f8 h0_f9 j67_h0_f10 (-1) h0_f12 h0_f13 h0_f14 h0_15 h0_16 h0_f17 h0_18 h0_19 h0_20 h0_21 h0_22 h0_23 h0_24 h0_25 h0_f26 h0_f27 h0_f28 h0_f29 h0_f30 h0_f31 h0_32 h0_33 h0_f34 h0_35 h0_36 h0_37 h0_38 h0_39 h0_40 h0_f41 h0_f42 h0_f43 h0_f44 h0_45 h0_46 h0_47 h0_48 h0_49 h0_50 h0_f51 h0_52 h0_f53 h0_5 h0_5k tN h0_5c)) hP hD hS hA [0, 1] (by decide +kernel) rfl
    have hKc := hK.sub (tys' := [(h0_5k, .byte)]) [0] rfl
    have hrv := va_recv hKc hPc (ci := 12) (q0 := 0) rfl rfl
    refine va_calli (va_runV (As := []) (rest := []) ⟨hx, hb, hml, hown, hts⟩ (c_X12_isDigit l dC dI H.size h0 h0_f0 h0_1 h0_2 h0_3 h0_4 h0_5 h0_f6 h0_f7 h0_f8 h0_f9 j67_h0_f10 h0_f12 h0_f13 h0_f14 h0_15 h0_16 h0_f17 h0_18 h0_19 h0_20 h0_21 h0_22 h0_23 h0_24 h0_25 h0_f26 h0_f27 h0_f28 h0_f29 h0_f30 h0_f31 h0_32 h0_33 h0_f34 h0_35 h0_36 h0_37 h0_38 h0_39 h0_40 h0_f41 h0_f42 h0_f43 h0_f44 h0_45 h0_46 h0_47 h0_48 h0_49 h0_50 h0_f51 h0_52 h0_f53 h0_5k h0_5c tN g_h0_f6 g_h0_f7 g_h0_f8 (RG_w g_h0_f9 (by decide +kernel)) (RG_w g_j67_h0_f10 (by decide +kernel)) g_h0_f17 g_h0_f26 g_h0_f27 g_h0_f28 g_h0_f29 g_h0_f30 g_h0_f31 g_h0_f34 g_h0_f41 g_h0_f51 g_h0_f53 htN) (cwV 0 hts gf_c_X12_number_3_c_X12_isDigit rfl rfl rfl mdV_X12_isDigit ⟨Nat.le_of_ble_eq_true rfl, Nat.le_of_ble_eq_true rfl⟩) ⟨fun a U g mk q => by obtain ⟨q0, q1, qP, qK, qD⟩ := q; exact ⟨q0, q1, qP, va_K.moved (u := U) (U := U.calling g mk a) (Vm.Alike.refl U.vm) qK, qD⟩, hrv, fun U hU hW => ⟨rfl, by rw [hU], by rw [hU]; exact hPc, va_K.moved hW.alike hKc, hDc.weaken (fun _ _ _ _ => trivial)⟩⟩ rfl rfl hl.1 rfl (lv_room (Nat.le_of_ble_eq_true rfl)) dX12_number_68 ⟨Nat.le_of_ble_eq_true rfl, Nat.le_of_ble_eq_true rfl⟩) hS (fun q _ h => hFc q h) hFc (fun r_1 u t H1 locs ht hvm hw hB hz1 hk1 hS => ?_)
    obtain ⟨hP1, hK1, hD1⟩ := hB
    rw [ht] at hP1
    obtain ⟨hP, hD⟩ := cl_put (w1 := (wd_c_X12_isDigit h0 h0_f0 h0_1 h0_2 h0_3 h0_4 h0_5 h0_f6 h0_f7 h0_f8 h0_f9 j67_h0_f10 (-1) h0_f12 h0_f13 h0_f14 h0_15 h0_16 h0_f17 h0_18 h0_19 h0_20 h0_21 h0_22 h0_23 h0_24 h0_25 h0_f26 h0_f27 h0_f28 h0_f29 h0_f30 h0_f31 h0_32 h0_33 h0_f34 h0_35 h0_36 h0_37 h0_38 h0_39 h0_40 h0_f41 h0_f42 h0_f43 h0_f44 h0_45 h0_46 h0_47 h0_48 h0_49 h0_50 h0_f51 h0_52 h0_f53 h0_5 h0_5k tN h0_5c)) (nw := (wd_c_X12_number_3 h0 h0_f0 h0_1 h0_2 h0_3 h0_4 h0_5 h0_f6 h0_f7 h0_f8 h0_f9 j67_h0_f10 (-1) h0_f12 h0_f13 h0_f14 h0_15 h0_16 h0_f17 h0_18 h0_19 h0_20 h0_21 h0_22 h0_23 h0_24 h0_25 h0_f26 h0_f27 h0_f28 h0_f29 h0_f30 h0_f31 h0_32 h0_33 h0_f34 h0_35 h0_36 h0_37 h0_38 h0_39 h0_40 h0_f41 h0_f42 h0_f43 h0_f44 h0_45 h0_46 h0_47 h0_48 h0_49 h0_50 h0_f51 h0_52 h0_f53 h0_5 h0_5k tN h0_5c)) hP hD [0, 1] [2, 3] 2 rfl hqc (by decide +kernel) rfl hk1 hFc hP1 hD1
    generalize H1 = H at hP hS ⊢
    as_aux_lemma =>
    rcases hw with ⟨h_2, h_3, h_4⟩ | ⟨h_5, h_6, h_7, h_8, h_9, h_10⟩
    · have h_4 : r_1 = _ := h_4
      replace hEX := hEX.trans (exc1_eq h_4)
      replace hEX := hEX.trans (if_pos (show r_1 = 0 from h_2))
      rw [h_2]
      refine lv_if_eq (tgt := 81) hx hb dX12_number_71 rfl (fun c_11 => ?_) (fun c_11 => absurd c_11 (by decide +kernel))
      refine lv_iload hx hb dX12_number_81 (lv_at hl 0 rfl) ?_
      refine lv_i2l (v := j67_l4.toInt64) hx hb dX12_number_83 rfl ?_
      refine lv_topl (fun x_12 ex_12 => ?_)
      replace hEX := hEX.trans (exl_eq ex_12)
      have g_13 : LG x_12 0 99 := LG_i2l ex_12 g_j67_l4
      refine lv_iload_n hx hb dX12_number_84 rfl (lv_at hl 2 rfl) ?_
      refine lv_i2l (v := 1) hx hb dX12_number_85 (by decide +kernel) ?_
      refine lv_iload_n hx hb dX12_number_86 rfl (lv_at hl 3 rfl) ?_
      as_aux_lemma =>
      refine lv_i2l (v := 12) hx hb dX12_number_87 (by decide +kernel) ?_
      obtain ⟨hPc, hDc, hFc, hqc⟩ := cl_cut (wc := []) hP hD hS hA [] (by decide +kernel) rfl
      have hKc := hK.sub (tys' := []) [] rfl
      refine va_calli (va_runS (As := [.long x_12, .long 1, .long 12]) (rest := []) ⟨hx, hb, hml, hown, hts⟩ (c_X12_isIn_4 l dC dI H.size x_12 g_13) (va_cwS 3 hts gf_c_X12_number_3_c_X12_isIn_4 rfl rfl rfl md_X12_isIn ⟨Nat.le_of_ble_eq_true rfl, Nat.le_of_ble_eq_true rfl⟩) ⟨fun a U g mk q => by obtain ⟨q0, q1, qP, qK, qD⟩ := q; exact ⟨q0, q1, qP, va_K.moved (u := U) (U := U.calling g mk a) (Vm.Alike.refl U.vm) qK, qD⟩, fun U hU hW => ⟨rfl, by rw [hU], by rw [hU]; exact hPc, va_K.moved hW.alike hKc, hDc.weaken (fun _ _ _ _ => trivial)⟩⟩ rfl rfl hl.1 rfl (lv_room (Nat.le_of_ble_eq_true rfl)) dX12_number_88 ⟨Nat.le_of_ble_eq_true rfl, Nat.le_of_ble_eq_true rfl⟩) hS (fun q _ h => hFc q h) hFc (fun r_14 u t H1 locs ht hvm hw hB hz1 hk1 hS => ?_)
      obtain ⟨hP1, hK1, hD1⟩ := hB
      rw [ht] at hP1
      have hP := bv_still hP hk1
      generalize H1 = H at hP hS ⊢
      as_aux_lemma =>
      rcases hw with ⟨h_15, h_16⟩ | ⟨h_17, h_18, h_19⟩
      · have h_16 : r_14 = _ := h_16
        replace hEX := hEX.trans (exc1_eq h_16)
        replace hEX := hEX.trans (if_pos (show r_14 = 0 from h_15))
        rw [h_15]
        refine lv_if_ne (tgt := 109) hx hb dX12_number_91 rfl (fun c_20 => absurd c_20 (by decide +kernel)) (fun c_20 => ?_)
        refine lv_aload_n hx hb dX12_number_94 rfl (lv_at hl 1 rfl) ?_
        refine lv_dup hx hb dX12_number_95 rfl ?_
        refine va_get (D := (dC, dI)) (ci := 12) (v := .int j67_h0_f10) (C := RX12) (T := TX12) (N := 54) hx hb hts iw_c_X12_number_3_X12 hown hK hP 0 rfl rfl 10 (by decide +kernel) (hts (.fieldLink RX12 134 "BuoyVoteModel" "at" "I") (List.mem_of_getElem? (i := 6) rfl)) (fun _ h9 => h9) rfl dX12_number_96 ?_
        refine lv_iconst (v := 1) hx hb dX12_number_99 kc_iconst_1 ?_
        refine lv_isub hx hb dX12_number_100 ?_
        refine lv_topi (fun x_21 ex_21 => ?_)
        replace hEX := hEX.trans (exl_eq ex_21)
        have g_22 : RG x_21 0 239 := RG_sub ex_21 g_j67_h0_f10 (RG_k 1 1 rfl) (by decide +kernel)
        refine va_put (D := (dC, dI)) (ci := 12) (v := .int x_21) (ty := .int) (C := RX12) (T := TX12) (N := 54) hx hb hts iw_c_X12_number_3_X12 tyX12 tyX12_ok nmX12 hown hK hP hD hS 0 rfl rfl 10 (by decide +kernel) (hts (.fieldLink RX12 134 "BuoyVoteModel" "at" "I") (List.mem_of_getElem? (i := 6) rfl)) (fun _ h9 => h9) rfl (by decide +kernel) rfl rfl (Nat.le_of_ble_eq_true rfl) dX12_number_101 (fun H locs hP hD hS => ?_)
        as_aux_lemma =>
        have hP : va_P (dC, dI) vwCl (wd_c_X12_number_3 h0 h0_f0 h0_1 h0_2 h0_3 h0_4 h0_5 h0_f6 h0_f7 h0_f8 h0_f9 x_21 (-1) h0_f12 h0_f13 h0_f14 h0_15 h0_16 h0_f17 h0_18 h0_19 h0_20 h0_21 h0_22 h0_23 h0_24 h0_25 h0_f26 h0_f27 h0_f28 h0_f29 h0_f30 h0_f31 h0_32 h0_33 h0_f34 h0_35 h0_36 h0_37 h0_38 h0_39 h0_40 h0_f41 h0_f42 h0_f43 h0_f44 h0_45 h0_46 h0_47 h0_48 h0_49 h0_50 h0_f51 h0_52 h0_f53 h0_5 h0_5k tN h0_5c) H := hP
        have hD : va_D A (wd_c_X12_number_3 h0 h0_f0 h0_1 h0_2 h0_3 h0_4 h0_5 h0_f6 h0_f7 h0_f8 h0_f9 x_21 (-1) h0_f12 h0_f13 h0_f14 h0_15 h0_16 h0_f17 h0_18 h0_19 h0_20 h0_21 h0_22 h0_23 h0_24 h0_25 h0_f26 h0_f27 h0_f28 h0_f29 h0_f30 h0_f31 h0_32 h0_33 h0_f34 h0_35 h0_36 h0_37 h0_38 h0_39 h0_40 h0_f41 h0_f42 h0_f43 h0_f44 h0_45 h0_46 h0_47 h0_48 h0_49 h0_50 h0_f51 h0_52 h0_f53 h0_5 h0_5k tN h0_5c) := hD
        refine lv_aload_n hx hb dX12_number_104 rfl (lv_at hl 1 rfl) ?_
        obtain ⟨hPc, hDc, hFc, hqc⟩ := cl_cut (wc := (wd_c_X12_fails h0 h0_f0 h0_1 h0_2 h0_3 h0_4 h0_5 h0_f6 h0_f7 h0_f8 h0_f9 x_21 (-1) h0_f12 h0_f13 h0_f14 h0_15 h0_16 h0_f17 h0_18 h0_19 h0_20 h0_21 h0_22 h0_23 h0_24 h0_25 h0_f26 h0_f27 h0_f28 h0_f29 h0_f30 h0_f31 h0_32 h0_33 h0_f34 h0_35 h0_36 h0_37 h0_38 h0_39 h0_40 h0_f41 h0_f42 h0_f43 h0_f44 h0_45 h0_46 h0_47 h0_48 h0_49 h0_50 h0_f51 h0_52 h0_f53)) hP hD hS hA [0] (by decide +kernel) rfl
        have hKc := hK.sub (tys' := []) [] rfl
        have hrv := va_recv hKc hPc (ci := 12) (q0 := 0) rfl rfl
        refine va_calli (va_runV (As := []) (rest := []) ⟨hx, hb, hml, hown, hts⟩ (c_X12_fails l dC dI H.size h0 h0_f0 h0_1 h0_2 h0_3 h0_4 h0_5 h0_f6 h0_f7 h0_f8 h0_f9 x_21 h0_f12 h0_f13 h0_f14 h0_15 h0_16 h0_f17 h0_18 h0_19 h0_20 h0_21 h0_22 h0_23 h0_24 h0_25 h0_f26 h0_f27 h0_f28 h0_f29 h0_f30 h0_f31 h0_32 h0_33 h0_f34 h0_35 h0_36 h0_37 h0_38 h0_39 h0_40 h0_f41 h0_f42 h0_f43 h0_f44 h0_45 h0_46 h0_47 h0_48 h0_49 h0_50 h0_f51 h0_52 h0_f53 g_h0_f6 g_h0_f7 g_h0_f8 (RG_w g_h0_f9 (by decide +kernel)) (RG_w g_22 (by decide +kernel)) g_h0_f17 g_h0_f26 g_h0_f27 g_h0_f28 g_h0_f29 g_h0_f30 g_h0_f31 g_h0_f34 g_h0_f41 g_h0_f51 g_h0_f53) (cwV 0 hts gf_c_X12_number_3_c_X12_fails rfl rfl rfl mdV_X12_fails ⟨Nat.le_of_ble_eq_true rfl, Nat.le_of_ble_eq_true rfl⟩) ⟨fun a U g mk q => by obtain ⟨q0, q1, qP, qK, qD⟩ := q; exact ⟨q0, q1, qP, va_K.moved (u := U) (U := U.calling g mk a) (Vm.Alike.refl U.vm) qK, qD⟩, hrv, fun U hU hW => ⟨rfl, by rw [hU], by rw [hU]; exact hPc, va_K.moved hW.alike hKc, hDc.weaken (fun _ _ _ _ => trivial)⟩⟩ rfl rfl hl.1 rfl (lv_room (Nat.le_of_ble_eq_true rfl)) dX12_number_105 ⟨Nat.le_of_ble_eq_true rfl, Nat.le_of_ble_eq_true rfl⟩) hS (fun q _ h => hFc q h) hFc (fun r_23 u t H1 locs ht hvm hw hB hz1 hk1 hS => ?_)
        obtain ⟨hP1, hK1, hD1⟩ := hB
        rw [ht] at hP1
        obtain ⟨hP, hD⟩ := cl_put (w1 := (wd_c_X12_fails h0 h0_f0 h0_1 h0_2 h0_3 h0_4 h0_5 h0_f6 h0_f7 h0_f8 h0_f9 x_21 x_21 h0_f12 h0_f13 h0_f14 h0_15 h0_16 h0_f17 h0_18 h0_19 h0_20 h0_21 h0_22 h0_23 h0_24 h0_25 h0_f26 h0_f27 h0_f28 h0_f29 h0_f30 h0_f31 h0_32 h0_33 h0_f34 h0_35 h0_36 h0_37 h0_38 h0_39 h0_40 h0_f41 h0_f42 h0_f43 h0_f44 h0_45 h0_46 h0_47 h0_48 h0_49 h0_50 h0_f51 h0_52 h0_f53)) (nw := (wd_c_X12_number_3 h0 h0_f0 h0_1 h0_2 h0_3 h0_4 h0_5 h0_f6 h0_f7 h0_f8 h0_f9 x_21 x_21 h0_f12 h0_f13 h0_f14 h0_15 h0_16 h0_f17 h0_18 h0_19 h0_20 h0_21 h0_22 h0_23 h0_24 h0_25 h0_f26 h0_f27 h0_f28 h0_f29 h0_f30 h0_f31 h0_32 h0_33 h0_f34 h0_35 h0_36 h0_37 h0_38 h0_39 h0_40 h0_f41 h0_f42 h0_f43 h0_f44 h0_45 h0_46 h0_47 h0_48 h0_49 h0_50 h0_f51 h0_52 h0_f53 h0_5 h0_5k tN h0_5c)) hP hD [0] [2, 1] 2 rfl hqc (by decide +kernel) rfl hk1 hFc hP1 hD1
        generalize H1 = H at hP hS ⊢
        as_aux_lemma =>
        rcases hw with ⟨h_24, h_25⟩
        have h_25 : r_23 = _ := h_25
        replace hEX := hEX.trans (exc1_eq h_25)
        rw [h_24]
        refine lv_pop hx hb dX12_number_108 rfl ?_
        refine lv_iload hx hb dX12_number_109 (lv_at hl 0 rfl) ?_
        have hK9 := hK.sub (tys' := []) [] rfl
        exact W.iret (v := j67_l4) hx hb hr (fun t ht hW => ⟨⟨j67_l4, (x_21, x_21), rfl, (Or.inr ⟨g_j67_l4, (RG_w g_22 (by decide +kernel)), (RG_w g_22 (by decide +kernel)), (hR.trans hEX).symm⟩), by rw [ht]; exact hP, va_K.moved hW.alike hK9, hD⟩, hS.F ht⟩) hS.2.2 dX12_number_111
      · have h_19 : r_14 = _ := h_19
        replace hEX := hEX.trans (exc1_eq h_19)
        replace hEX := hEX.trans (if_neg (fun q9 : r_14 = 0 => absurd ((show r_14 = 1 from h_17).symm.trans q9) (by decide +kernel)))
        rw [h_17]
        have g_26 : RG j67_l4 1 12 := RG_of_LG g_j67_l4 h_18 ex_12 (by decide +kernel)
        refine lv_if_ne (tgt := 109) hx hb dX12_number_91 rfl (fun c_27 => ?_) (fun c_27 => absurd c_27 (by decide +kernel))
        refine lv_iload hx hb dX12_number_109 (lv_at hl 0 rfl) ?_
        as_aux_lemma =>
        have hK9 := hK.sub (tys' := []) [] rfl
        exact W.iret (v := j67_l4) hx hb hr (fun t ht hW => ⟨⟨j67_l4, (j67_h0_f10, (-1)), rfl, (Or.inl ⟨g_26, g_j67_h0_f10, rfl, g_h0_f9, (by have := r_h0_f10_j67_h0_f10; show h0_f10.toInt + 1 ≤ j67_h0_f10.toInt; omega), (hR.trans hEX).symm⟩), by rw [ht]; exact hP, va_K.moved hW.alike hK9, hD⟩, hS.F ht⟩) hS.2.2 dX12_number_111
    · have h_10 : r_1 = _ := h_10
      replace hEX := hEX.trans (exc1_eq h_10)
      replace hEX := hEX.trans (if_neg (fun q9 : r_1 = 0 => absurd ((show r_1 = 1 from h_5).symm.trans q9) (by decide +kernel)))
      rw [h_5]
      have g_28 : RG j67_h0_f10 1 239 := RG_eq1 g_j67_h0_f10 h_6 rfl (by decide +kernel)
      have g_29 := h_9 h_5
      refine lv_if_eq (tgt := 81) hx hb dX12_number_71 rfl (fun c_30 => absurd c_30 (by decide +kernel)) (fun c_30 => ?_)
      refine lv_aload_n hx hb dX12_number_74 rfl (lv_at hl 1 rfl) ?_
      obtain ⟨hPc, hDc, hFc, hqc⟩ := cl_cut (wc := (wd_c_X12_fails h0 h0_f0 h0_1 h0_2 h0_3 h0_4 h0_5 h0_f6 h0_f7 h0_f8 h0_f9 j67_h0_f10 (-1) h0_f12 h0_f13 h0_f14 h0_15 h0_16 h0_f17 h0_18 h0_19 h0_20 h0_21 h0_22 h0_23 h0_24 h0_25 h0_f26 h0_f27 h0_f28 h0_f29 h0_f30 h0_f31 h0_32 h0_33 h0_f34 h0_35 h0_36 h0_37 h0_38 h0_39 h0_40 h0_f41 h0_f42 h0_f43 h0_f44 h0_45 h0_46 h0_47 h0_48 h0_49 h0_50 h0_f51 h0_52 h0_f53)) hP hD hS hA [0] (by decide +kernel) rfl
      have hKc := hK.sub (tys' := []) [] rfl
      have hrv := va_recv hKc hPc (ci := 12) (q0 := 0) rfl rfl
      refine va_calli (va_runV (As := []) (rest := []) ⟨hx, hb, hml, hown, hts⟩ (c_X12_fails l dC dI H.size h0 h0_f0 h0_1 h0_2 h0_3 h0_4 h0_5 h0_f6 h0_f7 h0_f8 h0_f9 j67_h0_f10 h0_f12 h0_f13 h0_f14 h0_15 h0_16 h0_f17 h0_18 h0_19 h0_20 h0_21 h0_22 h0_23 h0_24 h0_25 h0_f26 h0_f27 h0_f28 h0_f29 h0_f30 h0_f31 h0_32 h0_33 h0_f34 h0_35 h0_36 h0_37 h0_38 h0_39 h0_40 h0_f41 h0_f42 h0_f43 h0_f44 h0_45 h0_46 h0_47 h0_48 h0_49 h0_50 h0_f51 h0_52 h0_f53 g_h0_f6 g_h0_f7 g_h0_f8 (RG_w g_h0_f9 (by decide +kernel)) (RG_w g_28 (by decide +kernel)) g_h0_f17 g_h0_f26 g_h0_f27 g_h0_f28 g_h0_f29 g_h0_f30 g_h0_f31 g_h0_f34 g_h0_f41 g_h0_f51 g_h0_f53) (cwV 0 hts gf_c_X12_number_3_c_X12_fails rfl rfl rfl mdV_X12_fails ⟨Nat.le_of_ble_eq_true rfl, Nat.le_of_ble_eq_true rfl⟩) ⟨fun a U g mk q => by obtain ⟨q0, q1, qP, qK, qD⟩ := q; exact ⟨q0, q1, qP, va_K.moved (u := U) (U := U.calling g mk a) (Vm.Alike.refl U.vm) qK, qD⟩, hrv, fun U hU hW => ⟨rfl, by rw [hU], by rw [hU]; exact hPc, va_K.moved hW.alike hKc, hDc.weaken (fun _ _ _ _ => trivial)⟩⟩ rfl rfl hl.1 rfl (lv_room (Nat.le_of_ble_eq_true rfl)) dX12_number_75 ⟨Nat.le_of_ble_eq_true rfl, Nat.le_of_ble_eq_true rfl⟩) hS (fun q _ h => hFc q h) hFc (fun r_31 u t H1 locs ht hvm hw hB hz1 hk1 hS => ?_)
      as_aux_lemma =>
      obtain ⟨hP1, hK1, hD1⟩ := hB
      rw [ht] at hP1
      obtain ⟨hP, hD⟩ := cl_put (w1 := (wd_c_X12_fails h0 h0_f0 h0_1 h0_2 h0_3 h0_4 h0_5 h0_f6 h0_f7 h0_f8 h0_f9 j67_h0_f10 j67_h0_f10 h0_f12 h0_f13 h0_f14 h0_15 h0_16 h0_f17 h0_18 h0_19 h0_20 h0_21 h0_22 h0_23 h0_24 h0_25 h0_f26 h0_f27 h0_f28 h0_f29 h0_f30 h0_f31 h0_32 h0_33 h0_f34 h0_35 h0_36 h0_37 h0_38 h0_39 h0_40 h0_f41 h0_f42 h0_f43 h0_f44 h0_45 h0_46 h0_47 h0_48 h0_49 h0_50 h0_f51 h0_52 h0_f53)) (nw := (wd_c_X12_number_3 h0 h0_f0 h0_1 h0_2 h0_3 h0_4 h0_5 h0_f6 h0_f7 h0_f8 h0_f9 j67_h0_f10 j67_h0_f10 h0_f12 h0_f13 h0_f14 h0_15 h0_16 h0_f17 h0_18 h0_19 h0_20 h0_21 h0_22 h0_23 h0_24 h0_25 h0_f26 h0_f27 h0_f28 h0_f29 h0_f30 h0_f31 h0_32 h0_33 h0_f34 h0_35 h0_36 h0_37 h0_38 h0_39 h0_40 h0_f41 h0_f42 h0_f43 h0_f44 h0_45 h0_46 h0_47 h0_48 h0_49 h0_50 h0_f51 h0_52 h0_f53 h0_5 h0_5k tN h0_5c)) hP hD [0] [2, 1] 2 rfl hqc (by decide +kernel) rfl hk1 hFc hP1 hD1
      generalize H1 = H at hP hS ⊢
      as_aux_lemma =>
      rcases hw with ⟨h_32, h_33⟩
      have h_33 : r_31 = _ := h_33
      replace hEX := hEX.trans (exc1_eq h_33)
      rw [h_32]
      refine lv_pop hx hb dX12_number_78 rfl ?_
      refine lv_iconst (v := 0) hx hb dX12_number_79 kc_iconst_0 ?_
      have hK9 := hK.sub (tys' := []) [] rfl
      exact W.iret (v := 0) hx hb hr (fun t ht hW => ⟨⟨0, (j67_h0_f10, j67_h0_f10), rfl, (Or.inr ⟨(RG_w (RG_k 0 0 rfl) (by decide +kernel)), (RG_w g_28 (by decide +kernel)), (RG_w g_28 (by decide +kernel)), (hR.trans hEX).symm⟩), by rw [ht]; exact hP, va_K.moved hW.alike hK9, hD⟩, hS.F ht⟩) hS.2.2 dX12_number_80
  refine hG _ _ _ ?_
  refine lv_aload_n hx hb dX12_number_0 rfl (lv_at hl 0 rfl) ?_
  obtain ⟨hPc, hDc, hFc, hqc⟩ := cl_cut (wc := (wd_c_X12_look h0 h0_f0 h0_1 h0_2 h0_3 h0_4 h0_5 h0_f6 h0_f7 h0_f8 h0_f9 h0_f10 (-1) h0_f12 h0_f13 h0_f14 h0_15 h0_16 h0_f17 h0_18 h0_19 h0_20 h0_21 h0_22 h0_23 h0_24 h0_25 h0_f26 h0_f27 h0_f28 h0_f29 h0_f30 h0_f31 h0_32 h0_33 h0_f34 h0_35 h0_36 h0_37 h0_38 h0_39 h0_40 h0_f41 h0_f42 h0_f43 h0_f44 h0_45 h0_46 h0_47 h0_48 h0_49 h0_50 h0_f51 h0_52 h0_f53 h0_5 h0_5k tN h0_5c)) hP hD hS hA [0, 1] (by decide +kernel) rfl
  have hKc := hK.sub (tys' := [(h0_5k, .byte)]) [0] rfl
  have hrv := va_recv hKc hPc (ci := 12) (q0 := 0) rfl rfl
  refine va_calli (va_runV (As := []) (rest := []) ⟨hx, hb, hml, hown, hts⟩ (c_X12_look l dC dI H.size h0 h0_f0 h0_1 h0_2 h0_3 h0_4 h0_5 h0_f6 h0_f7 h0_f8 h0_f9 h0_f10 h0_f12 h0_f13 h0_f14 h0_15 h0_16 h0_f17 h0_18 h0_19 h0_20 h0_21 h0_22 h0_23 h0_24 h0_25 h0_f26 h0_f27 h0_f28 h0_f29 h0_f30 h0_f31 h0_32 h0_33 h0_f34 h0_35 h0_36 h0_37 h0_38 h0_39 h0_40 h0_f41 h0_f42 h0_f43 h0_f44 h0_45 h0_46 h0_47 h0_48 h0_49 h0_50 h0_f51 h0_52 h0_f53 h0_5k h0_5c tN g_h0_f6 g_h0_f7 g_h0_f8 g_h0_f9 g_h0_f10 g_h0_f17 g_h0_f26 g_h0_f27 g_h0_f28 g_h0_f29 g_h0_f30 g_h0_f31 g_h0_f34 g_h0_f41 g_h0_f51 g_h0_f53 htN) (cwV 0 hts gf_c_X12_number_3_c_X12_look rfl rfl rfl mdV_X12_look ⟨Nat.le_of_ble_eq_true rfl, Nat.le_of_ble_eq_true rfl⟩) ⟨fun a U g mk q => by obtain ⟨q0, q1, qP, qK, qD⟩ := q; exact ⟨q0, q1, qP, va_K.moved (u := U) (U := U.calling g mk a) (Vm.Alike.refl U.vm) qK, qD⟩, hrv, fun U hU hW => ⟨rfl, by rw [hU], by rw [hU]; exact hPc, va_K.moved hW.alike hKc, hDc.weaken (fun _ _ _ _ => trivial)⟩⟩ rfl rfl hl.1 rfl (lv_room (Nat.le_of_ble_eq_true rfl)) dX12_number_1 ⟨Nat.le_of_ble_eq_true rfl, Nat.le_of_ble_eq_true rfl⟩) hS (fun q _ h => hFc q h) hFc (fun r_34 x_35 t H1 locs ht hvm hw hB hz1 hk1 hS => ?_)
  as_aux_lemma =>
  obtain ⟨hP1, hK1, hD1⟩ := hB
  rw [ht] at hP1
  obtain ⟨hP, hD⟩ := cl_put (w1 := (wd_c_X12_look h0 h0_f0 h0_1 h0_2 h0_3 h0_4 h0_5 h0_f6 h0_f7 h0_f8 h0_f9 x_35 (-1) h0_f12 h0_f13 h0_f14 h0_15 h0_16 h0_f17 h0_18 h0_19 h0_20 h0_21 h0_22 h0_23 h0_24 h0_25 h0_f26 h0_f27 h0_f28 h0_f29 h0_f30 h0_f31 h0_32 h0_33 h0_f34 h0_35 h0_36 h0_37 h0_38 h0_39 h0_40 h0_f41 h0_f42 h0_f43 h0_f44 h0_45 h0_46 h0_47 h0_48 h0_49 h0_50 h0_f51 h0_52 h0_f53 h0_5 h0_5k tN h0_5c)) (nw := (wd_c_X12_number_3 h0 h0_f0 h0_1 h0_2 h0_3 h0_4 h0_5 h0_f6 h0_f7 h0_f8 h0_f9 x_35 (-1) h0_f12 h0_f13 h0_f14 h0_15 h0_16 h0_f17 h0_18 h0_19 h0_20 h0_21 h0_22 h0_23 h0_24 h0_25 h0_f26 h0_f27 h0_f28 h0_f29 h0_f30 h0_f31 h0_32 h0_33 h0_f34 h0_35 h0_36 h0_37 h0_38 h0_39 h0_40 h0_f41 h0_f42 h0_f43 h0_f44 h0_45 h0_46 h0_47 h0_48 h0_49 h0_50 h0_f51 h0_52 h0_f53 h0_5 h0_5k tN h0_5c)) hP hD [0, 1] [2, 3] 2 rfl hqc (by decide +kernel) rfl hk1 hFc hP1 hD1
  generalize H1 = H at hP hS ⊢
  as_aux_lemma =>
  rcases hw with ⟨h_36, h_37, h_38, h_39, h_40, h_41⟩ | ⟨h_42, h_43, h_44, h_45, h_46, h_47, h_48⟩
  · have h_41 : (r_34, x_35) = _ := h_41
    replace hEX := hEX.trans (exc2_eq h_41)
    replace hEX := hEX.trans (if_pos (show r_34 = (-1) from h_36))
    rw [h_36]
    refine lv_istore_n (lv' := [(3, .int (-1)), (0, .ref h0), (1, .int 1), (2, .int 12)]) hx hb dX12_number_4 rfl hl (Nat.le_of_ble_eq_true rfl) rfl (fun ls hl => ?_)
    refine lv_aload_n hx hb dX12_number_5 rfl (lv_at hl 1 rfl) ?_
    obtain ⟨hPc, hDc, hFc, hqc⟩ := cl_cut (wc := (wd_c_X12_isDigit h0 h0_f0 h0_1 h0_2 h0_3 h0_4 h0_5 h0_f6 h0_f7 h0_f8 h0_f9 x_35 (-1) h0_f12 h0_f13 h0_f14 h0_15 h0_16 h0_f17 h0_18 h0_19 h0_20 h0_21 h0_22 h0_23 h0_24 h0_25 h0_f26 h0_f27 h0_f28 h0_f29 h0_f30 h0_f31 h0_32 h0_33 h0_f34 h0_35 h0_36 h0_37 h0_38 h0_39 h0_40 h0_f41 h0_f42 h0_f43 h0_f44 h0_45 h0_46 h0_47 h0_48 h0_49 h0_50 h0_f51 h0_52 h0_f53 h0_5 h0_5k tN h0_5c)) hP hD hS hA [0, 1] (by decide +kernel) rfl
    have hKc := hK.sub (tys' := [(h0_5k, .byte)]) [0] rfl
    have hrv := va_recv hKc hPc (ci := 12) (q0 := 0) rfl rfl
    refine va_calli (va_runV (As := []) (rest := []) ⟨hx, hb, hml, hown, hts⟩ (c_X12_isDigit l dC dI H.size h0 h0_f0 h0_1 h0_2 h0_3 h0_4 h0_5 h0_f6 h0_f7 h0_f8 h0_f9 x_35 h0_f12 h0_f13 h0_f14 h0_15 h0_16 h0_f17 h0_18 h0_19 h0_20 h0_21 h0_22 h0_23 h0_24 h0_25 h0_f26 h0_f27 h0_f28 h0_f29 h0_f30 h0_f31 h0_32 h0_33 h0_f34 h0_35 h0_36 h0_37 h0_38 h0_39 h0_40 h0_f41 h0_f42 h0_f43 h0_f44 h0_45 h0_46 h0_47 h0_48 h0_49 h0_50 h0_f51 h0_52 h0_f53 h0_5k h0_5c tN g_h0_f6 g_h0_f7 g_h0_f8 g_h0_f9 h_37 g_h0_f17 g_h0_f26 g_h0_f27 g_h0_f28 g_h0_f29 g_h0_f30 g_h0_f31 g_h0_f34 g_h0_f41 g_h0_f51 g_h0_f53 htN) (cwV 0 hts gf_c_X12_number_3_c_X12_isDigit rfl rfl rfl mdV_X12_isDigit ⟨Nat.le_of_ble_eq_true rfl, Nat.le_of_ble_eq_true rfl⟩) ⟨fun a U g mk q => by obtain ⟨q0, q1, qP, qK, qD⟩ := q; exact ⟨q0, q1, qP, va_K.moved (u := U) (U := U.calling g mk a) (Vm.Alike.refl U.vm) qK, qD⟩, hrv, fun U hU hW => ⟨rfl, by rw [hU], by rw [hU]; exact hPc, va_K.moved hW.alike hKc, hDc.weaken (fun _ _ _ _ => trivial)⟩⟩ rfl rfl hl.1 rfl (lv_room (Nat.le_of_ble_eq_true rfl)) dX12_number_6 ⟨Nat.le_of_ble_eq_true rfl, Nat.le_of_ble_eq_true rfl⟩) hS (fun q _ h => hFc q h) hFc (fun r_49 u t H1 locs ht hvm hw hB hz1 hk1 hS => ?_)
    obtain ⟨hP1, hK1, hD1⟩ := hB
    rw [ht] at hP1
    obtain ⟨hP, hD⟩ := cl_put (w1 := (wd_c_X12_isDigit h0 h0_f0 h0_1 h0_2 h0_3 h0_4 h0_5 h0_f6 h0_f7 h0_f8 h0_f9 x_35 (-1) h0_f12 h0_f13 h0_f14 h0_15 h0_16 h0_f17 h0_18 h0_19 h0_20 h0_21 h0_22 h0_23 h0_24 h0_25 h0_f26 h0_f27 h0_f28 h0_f29 h0_f30 h0_f31 h0_32 h0_33 h0_f34 h0_35 h0_36 h0_37 h0_38 h0_39 h0_40 h0_f41 h0_f42 h0_f43 h0_f44 h0_45 h0_46 h0_47 h0_48 h0_49 h0_50 h0_f51 h0_52 h0_f53 h0_5 h0_5k tN h0_5c)) (nw := (wd_c_X12_number_3 h0 h0_f0 h0_1 h0_2 h0_3 h0_4 h0_5 h0_f6 h0_f7 h0_f8 h0_f9 x_35 (-1) h0_f12 h0_f13 h0_f14 h0_15 h0_16 h0_f17 h0_18 h0_19 h0_20 h0_21 h0_22 h0_23 h0_24 h0_25 h0_f26 h0_f27 h0_f28 h0_f29 h0_f30 h0_f31 h0_32 h0_33 h0_f34 h0_35 h0_36 h0_37 h0_38 h0_39 h0_40 h0_f41 h0_f42 h0_f43 h0_f44 h0_45 h0_46 h0_47 h0_48 h0_49 h0_50 h0_f51 h0_52 h0_f53 h0_5 h0_5k tN h0_5c)) hP hD [0, 1] [2, 3] 2 rfl hqc (by decide +kernel) rfl hk1 hFc hP1 hD1
    generalize H1 = H at hP hS ⊢
    as_aux_lemma =>
    rcases hw with ⟨h_50, h_51, h_52⟩ | ⟨h_53, h_54, h_55, h_56, h_57, h_58⟩
    · have h_52 : r_49 = _ := h_52
      replace hEX := hEX.trans (exc1_eq h_52)
      replace hEX := hEX.trans (if_pos (show r_49 = 0 from h_50))
      rw [h_50]
      refine lv_if_ne (tgt := 19) hx hb dX12_number_9 rfl (fun c_59 => absurd c_59 (by decide +kernel)) (fun c_59 => ?_)
      refine lv_aload_n hx hb dX12_number_12 rfl (lv_at hl 1 rfl) ?_
      obtain ⟨hPc, hDc, hFc, hqc⟩ := cl_cut (wc := (wd_c_X12_fails h0 h0_f0 h0_1 h0_2 h0_3 h0_4 h0_5 h0_f6 h0_f7 h0_f8 h0_f9 x_35 (-1) h0_f12 h0_f13 h0_f14 h0_15 h0_16 h0_f17 h0_18 h0_19 h0_20 h0_21 h0_22 h0_23 h0_24 h0_25 h0_f26 h0_f27 h0_f28 h0_f29 h0_f30 h0_f31 h0_32 h0_33 h0_f34 h0_35 h0_36 h0_37 h0_38 h0_39 h0_40 h0_f41 h0_f42 h0_f43 h0_f44 h0_45 h0_46 h0_47 h0_48 h0_49 h0_50 h0_f51 h0_52 h0_f53)) hP hD hS hA [0] (by decide +kernel) rfl
      have hKc := hK.sub (tys' := []) [] rfl
      have hrv := va_recv hKc hPc (ci := 12) (q0 := 0) rfl rfl
      refine va_calli (va_runV (As := []) (rest := []) ⟨hx, hb, hml, hown, hts⟩ (c_X12_fails l dC dI H.size h0 h0_f0 h0_1 h0_2 h0_3 h0_4 h0_5 h0_f6 h0_f7 h0_f8 h0_f9 x_35 h0_f12 h0_f13 h0_f14 h0_15 h0_16 h0_f17 h0_18 h0_19 h0_20 h0_21 h0_22 h0_23 h0_24 h0_25 h0_f26 h0_f27 h0_f28 h0_f29 h0_f30 h0_f31 h0_32 h0_33 h0_f34 h0_35 h0_36 h0_37 h0_38 h0_39 h0_40 h0_f41 h0_f42 h0_f43 h0_f44 h0_45 h0_46 h0_47 h0_48 h0_49 h0_50 h0_f51 h0_52 h0_f53 g_h0_f6 g_h0_f7 g_h0_f8 g_h0_f9 h_37 g_h0_f17 g_h0_f26 g_h0_f27 g_h0_f28 g_h0_f29 g_h0_f30 g_h0_f31 g_h0_f34 g_h0_f41 g_h0_f51 g_h0_f53) (cwV 0 hts gf_c_X12_number_3_c_X12_fails rfl rfl rfl mdV_X12_fails ⟨Nat.le_of_ble_eq_true rfl, Nat.le_of_ble_eq_true rfl⟩) ⟨fun a U g mk q => by obtain ⟨q0, q1, qP, qK, qD⟩ := q; exact ⟨q0, q1, qP, va_K.moved (u := U) (U := U.calling g mk a) (Vm.Alike.refl U.vm) qK, qD⟩, hrv, fun U hU hW => ⟨rfl, by rw [hU], by rw [hU]; exact hPc, va_K.moved hW.alike hKc, hDc.weaken (fun _ _ _ _ => trivial)⟩⟩ rfl rfl hl.1 rfl (lv_room (Nat.le_of_ble_eq_true rfl)) dX12_number_13 ⟨Nat.le_of_ble_eq_true rfl, Nat.le_of_ble_eq_true rfl⟩) hS (fun q _ h => hFc q h) hFc (fun r_60 u t H1 locs ht hvm hw hB hz1 hk1 hS => ?_)
      obtain ⟨hP1, hK1, hD1⟩ := hB
      rw [ht] at hP1
      obtain ⟨hP, hD⟩ := cl_put (w1 := (wd_c_X12_fails h0 h0_f0 h0_1 h0_2 h0_3 h0_4 h0_5 h0_f6 h0_f7 h0_f8 h0_f9 x_35 x_35 h0_f12 h0_f13 h0_f14 h0_15 h0_16 h0_f17 h0_18 h0_19 h0_20 h0_21 h0_22 h0_23 h0_24 h0_25 h0_f26 h0_f27 h0_f28 h0_f29 h0_f30 h0_f31 h0_32 h0_33 h0_f34 h0_35 h0_36 h0_37 h0_38 h0_39 h0_40 h0_f41 h0_f42 h0_f43 h0_f44 h0_45 h0_46 h0_47 h0_48 h0_49 h0_50 h0_f51 h0_52 h0_f53)) (nw := (wd_c_X12_number_3 h0 h0_f0 h0_1 h0_2 h0_3 h0_4 h0_5 h0_f6 h0_f7 h0_f8 h0_f9 x_35 x_35 h0_f12 h0_f13 h0_f14 h0_15 h0_16 h0_f17 h0_18 h0_19 h0_20 h0_21 h0_22 h0_23 h0_24 h0_25 h0_f26 h0_f27 h0_f28 h0_f29 h0_f30 h0_f31 h0_32 h0_33 h0_f34 h0_35 h0_36 h0_37 h0_38 h0_39 h0_40 h0_f41 h0_f42 h0_f43 h0_f44 h0_45 h0_46 h0_47 h0_48 h0_49 h0_50 h0_f51 h0_52 h0_f53 h0_5 h0_5k tN h0_5c)) hP hD [0] [2, 1] 2 rfl hqc (by decide +kernel) rfl hk1 hFc hP1 hD1
      generalize H1 = H at hP hS ⊢
      as_aux_lemma =>
      rcases hw with ⟨h_61, h_62⟩
      have h_62 : r_60 = _ := h_62
      replace hEX := hEX.trans (exc1_eq h_62)
      rw [h_61]
      refine lv_pop hx hb dX12_number_16 rfl ?_
      refine lv_iconst (v := 0) hx hb dX12_number_17 kc_iconst_0 ?_
      have hK9 := hK.sub (tys' := []) [] rfl
      exact W.iret (v := 0) hx hb hr (fun t ht hW => ⟨⟨0, (x_35, x_35), rfl, (Or.inr ⟨(RG_w (RG_k 0 0 rfl) (by decide +kernel)), h_37, h_37, (hR.trans hEX).symm⟩), by rw [ht]; exact hP, va_K.moved hW.alike hK9, hD⟩, hS.F ht⟩) hS.2.2 dX12_number_18
    · have h_58 : r_49 = _ := h_58
      replace hEX := hEX.trans (exc1_eq h_58)
      replace hEX := hEX.trans (if_neg (fun q9 : r_49 = 0 => absurd ((show r_49 = 1 from h_53).symm.trans q9) (by decide +kernel)))
      rw [h_53]
      exfalso
      have := h_56
      have := h_39
      omega
  · have h_48 : (r_34, x_35) = _ := h_48
    replace hEX := hEX.trans (exc2_eq h_48)
    replace hEX := hEX.trans (if_neg (RG_neq (x := r_34) (c := (-1)) (show RG r_34 0 255 from h_42) (by decide +kernel)))
    have nb_63 := h_47.2.resolve_left (fun q => by have g9 := h_42; rw [q] at g9; exact absurd g9.1 (by decide +kernel))
    refine lv_istore_n (lv' := [(3, .int r_34), (0, .ref h0), (1, .int 1), (2, .int 12)]) hx hb dX12_number_4 rfl hl (Nat.le_of_ble_eq_true rfl) rfl (fun ls hl => ?_)
    as_aux_lemma =>
    refine lv_aload_n hx hb dX12_number_5 rfl (lv_at hl 1 rfl) ?_
    obtain ⟨hPc, hDc, hFc, hqc⟩ := cl_cut (wc := (wd_c_X12_isDigit h0 h0_f0 h0_1 h0_2 h0_3 h0_4 h0_5 h0_f6 h0_f7 h0_f8 h0_f9 x_35 (-1) h0_f12 h0_f13 h0_f14 h0_15 h0_16 h0_f17 h0_18 h0_19 h0_20 h0_21 h0_22 h0_23 h0_24 h0_25 h0_f26 h0_f27 h0_f28 h0_f29 h0_f30 h0_f31 h0_32 h0_33 h0_f34 h0_35 h0_36 h0_37 h0_38 h0_39 h0_40 h0_f41 h0_f42 h0_f43 h0_f44 h0_45 h0_46 h0_47 h0_48 h0_49 h0_50 h0_f51 h0_52 h0_f53 h0_5 h0_5k tN h0_5c)) hP hD hS hA [0, 1] (by decide +kernel) rfl
    have hKc := hK.sub (tys' := [(h0_5k, .byte)]) [0] rfl
    have hrv := va_recv hKc hPc (ci := 12) (q0 := 0) rfl rfl
    refine va_calli (va_runV (As := []) (rest := []) ⟨hx, hb, hml, hown, hts⟩ (c_X12_isDigit l dC dI H.size h0 h0_f0 h0_1 h0_2 h0_3 h0_4 h0_5 h0_f6 h0_f7 h0_f8 h0_f9 x_35 h0_f12 h0_f13 h0_f14 h0_15 h0_16 h0_f17 h0_18 h0_19 h0_20 h0_21 h0_22 h0_23 h0_24 h0_25 h0_f26 h0_f27 h0_f28 h0_f29 h0_f30 h0_f31 h0_32 h0_33 h0_f34 h0_35 h0_36 h0_37 h0_38 h0_39 h0_40 h0_f41 h0_f42 h0_f43 h0_f44 h0_45 h0_46 h0_47 h0_48 h0_49 h0_50 h0_f51 h0_52 h0_f53 h0_5k h0_5c tN g_h0_f6 g_h0_f7 g_h0_f8 (RG_w h_44 (by decide +kernel)) (RG_w h_43 (by decide +kernel)) g_h0_f17 g_h0_f26 g_h0_f27 g_h0_f28 g_h0_f29 g_h0_f30 g_h0_f31 g_h0_f34 g_h0_f41 g_h0_f51 g_h0_f53 htN) (cwV 0 hts gf_c_X12_number_3_c_X12_isDigit rfl rfl rfl mdV_X12_isDigit ⟨Nat.le_of_ble_eq_true rfl, Nat.le_of_ble_eq_true rfl⟩) ⟨fun a U g mk q => by obtain ⟨q0, q1, qP, qK, qD⟩ := q; exact ⟨q0, q1, qP, va_K.moved (u := U) (U := U.calling g mk a) (Vm.Alike.refl U.vm) qK, qD⟩, hrv, fun U hU hW => ⟨rfl, by rw [hU], by rw [hU]; exact hPc, va_K.moved hW.alike hKc, hDc.weaken (fun _ _ _ _ => trivial)⟩⟩ rfl rfl hl.1 rfl (lv_room (Nat.le_of_ble_eq_true rfl)) dX12_number_6 ⟨Nat.le_of_ble_eq_true rfl, Nat.le_of_ble_eq_true rfl⟩) hS (fun q _ h => hFc q h) hFc (fun r_64 u t H1 locs ht hvm hw hB hz1 hk1 hS => ?_)
    obtain ⟨hP1, hK1, hD1⟩ := hB
    rw [ht] at hP1
    obtain ⟨hP, hD⟩ := cl_put (w1 := (wd_c_X12_isDigit h0 h0_f0 h0_1 h0_2 h0_3 h0_4 h0_5 h0_f6 h0_f7 h0_f8 h0_f9 x_35 (-1) h0_f12 h0_f13 h0_f14 h0_15 h0_16 h0_f17 h0_18 h0_19 h0_20 h0_21 h0_22 h0_23 h0_24 h0_25 h0_f26 h0_f27 h0_f28 h0_f29 h0_f30 h0_f31 h0_32 h0_33 h0_f34 h0_35 h0_36 h0_37 h0_38 h0_39 h0_40 h0_f41 h0_f42 h0_f43 h0_f44 h0_45 h0_46 h0_47 h0_48 h0_49 h0_50 h0_f51 h0_52 h0_f53 h0_5 h0_5k tN h0_5c)) (nw := (wd_c_X12_number_3 h0 h0_f0 h0_1 h0_2 h0_3 h0_4 h0_5 h0_f6 h0_f7 h0_f8 h0_f9 x_35 (-1) h0_f12 h0_f13 h0_f14 h0_15 h0_16 h0_f17 h0_18 h0_19 h0_20 h0_21 h0_22 h0_23 h0_24 h0_25 h0_f26 h0_f27 h0_f28 h0_f29 h0_f30 h0_f31 h0_32 h0_33 h0_f34 h0_35 h0_36 h0_37 h0_38 h0_39 h0_40 h0_f41 h0_f42 h0_f43 h0_f44 h0_45 h0_46 h0_47 h0_48 h0_49 h0_50 h0_f51 h0_52 h0_f53 h0_5 h0_5k tN h0_5c)) hP hD [0, 1] [2, 3] 2 rfl hqc (by decide +kernel) rfl hk1 hFc hP1 hD1
    generalize H1 = H at hP hS ⊢
    as_aux_lemma =>
    rcases hw with ⟨h_65, h_66, h_67⟩ | ⟨h_68, h_69, h_70, h_71, h_72, h_73⟩
    · have h_67 : r_64 = _ := h_67
      replace hEX := hEX.trans (exc1_eq h_67)
      replace hEX := hEX.trans (if_pos (show r_64 = 0 from h_65))
      rw [h_65]
      refine lv_if_ne (tgt := 19) hx hb dX12_number_9 rfl (fun c_74 => absurd c_74 (by decide +kernel)) (fun c_74 => ?_)
      refine lv_aload_n hx hb dX12_number_12 rfl (lv_at hl 1 rfl) ?_
      obtain ⟨hPc, hDc, hFc, hqc⟩ := cl_cut (wc := (wd_c_X12_fails h0 h0_f0 h0_1 h0_2 h0_3 h0_4 h0_5 h0_f6 h0_f7 h0_f8 h0_f9 x_35 (-1) h0_f12 h0_f13 h0_f14 h0_15 h0_16 h0_f17 h0_18 h0_19 h0_20 h0_21 h0_22 h0_23 h0_24 h0_25 h0_f26 h0_f27 h0_f28 h0_f29 h0_f30 h0_f31 h0_32 h0_33 h0_f34 h0_35 h0_36 h0_37 h0_38 h0_39 h0_40 h0_f41 h0_f42 h0_f43 h0_f44 h0_45 h0_46 h0_47 h0_48 h0_49 h0_50 h0_f51 h0_52 h0_f53)) hP hD hS hA [0] (by decide +kernel) rfl
      have hKc := hK.sub (tys' := []) [] rfl
      have hrv := va_recv hKc hPc (ci := 12) (q0 := 0) rfl rfl
      refine va_calli (va_runV (As := []) (rest := []) ⟨hx, hb, hml, hown, hts⟩ (c_X12_fails l dC dI H.size h0 h0_f0 h0_1 h0_2 h0_3 h0_4 h0_5 h0_f6 h0_f7 h0_f8 h0_f9 x_35 h0_f12 h0_f13 h0_f14 h0_15 h0_16 h0_f17 h0_18 h0_19 h0_20 h0_21 h0_22 h0_23 h0_24 h0_25 h0_f26 h0_f27 h0_f28 h0_f29 h0_f30 h0_f31 h0_32 h0_33 h0_f34 h0_35 h0_36 h0_37 h0_38 h0_39 h0_40 h0_f41 h0_f42 h0_f43 h0_f44 h0_45 h0_46 h0_47 h0_48 h0_49 h0_50 h0_f51 h0_52 h0_f53 g_h0_f6 g_h0_f7 g_h0_f8 (RG_w h_44 (by decide +kernel)) (RG_w h_43 (by decide +kernel)) g_h0_f17 g_h0_f26 g_h0_f27 g_h0_f28 g_h0_f29 g_h0_f30 g_h0_f31 g_h0_f34 g_h0_f41 g_h0_f51 g_h0_f53) (cwV 0 hts gf_c_X12_number_3_c_X12_fails rfl rfl rfl mdV_X12_fails ⟨Nat.le_of_ble_eq_true rfl, Nat.le_of_ble_eq_true rfl⟩) ⟨fun a U g mk q => by obtain ⟨q0, q1, qP, qK, qD⟩ := q; exact ⟨q0, q1, qP, va_K.moved (u := U) (U := U.calling g mk a) (Vm.Alike.refl U.vm) qK, qD⟩, hrv, fun U hU hW => ⟨rfl, by rw [hU], by rw [hU]; exact hPc, va_K.moved hW.alike hKc, hDc.weaken (fun _ _ _ _ => trivial)⟩⟩ rfl rfl hl.1 rfl (lv_room (Nat.le_of_ble_eq_true rfl)) dX12_number_13 ⟨Nat.le_of_ble_eq_true rfl, Nat.le_of_ble_eq_true rfl⟩) hS (fun q _ h => hFc q h) hFc (fun r_75 u t H1 locs ht hvm hw hB hz1 hk1 hS => ?_)
      obtain ⟨hP1, hK1, hD1⟩ := hB
      rw [ht] at hP1
      obtain ⟨hP, hD⟩ := cl_put (w1 := (wd_c_X12_fails h0 h0_f0 h0_1 h0_2 h0_3 h0_4 h0_5 h0_f6 h0_f7 h0_f8 h0_f9 x_35 x_35 h0_f12 h0_f13 h0_f14 h0_15 h0_16 h0_f17 h0_18 h0_19 h0_20 h0_21 h0_22 h0_23 h0_24 h0_25 h0_f26 h0_f27 h0_f28 h0_f29 h0_f30 h0_f31 h0_32 h0_33 h0_f34 h0_35 h0_36 h0_37 h0_38 h0_39 h0_40 h0_f41 h0_f42 h0_f43 h0_f44 h0_45 h0_46 h0_47 h0_48 h0_49 h0_50 h0_f51 h0_52 h0_f53)) (nw := (wd_c_X12_number_3 h0 h0_f0 h0_1 h0_2 h0_3 h0_4 h0_5 h0_f6 h0_f7 h0_f8 h0_f9 x_35 x_35 h0_f12 h0_f13 h0_f14 h0_15 h0_16 h0_f17 h0_18 h0_19 h0_20 h0_21 h0_22 h0_23 h0_24 h0_25 h0_f26 h0_f27 h0_f28 h0_f29 h0_f30 h0_f31 h0_32 h0_33 h0_f34 h0_35 h0_36 h0_37 h0_38 h0_39 h0_40 h0_f41 h0_f42 h0_f43 h0_f44 h0_45 h0_46 h0_47 h0_48 h0_49 h0_50 h0_f51 h0_52 h0_f53 h0_5 h0_5k tN h0_5c)) hP hD [0] [2, 1] 2 rfl hqc (by decide +kernel) rfl hk1 hFc hP1 hD1
      generalize H1 = H at hP hS ⊢
      as_aux_lemma =>
      rcases hw with ⟨h_76, h_77⟩
      have h_77 : r_75 = _ := h_77
      replace hEX := hEX.trans (exc1_eq h_77)
      rw [h_76]
      refine lv_pop hx hb dX12_number_16 rfl ?_
      refine lv_iconst (v := 0) hx hb dX12_number_17 kc_iconst_0 ?_
      have hK9 := hK.sub (tys' := []) [] rfl
      exact W.iret (v := 0) hx hb hr (fun t ht hW => ⟨⟨0, (x_35, x_35), rfl, (Or.inr ⟨(RG_w (RG_k 0 0 rfl) (by decide +kernel)), (RG_w h_43 (by decide +kernel)), (RG_w h_43 (by decide +kernel)), (hR.trans hEX).symm⟩), by rw [ht]; exact hP, va_K.moved hW.alike hK9, hD⟩, hS.F ht⟩) hS.2.2 dX12_number_18
    · have h_73 : r_64 = _ := h_73
      replace hEX := hEX.trans (exc1_eq h_73)
      replace hEX := hEX.trans (if_neg (fun q9 : r_64 = 0 => absurd ((show r_64 = 1 from h_68).symm.trans q9) (by decide +kernel)))
      rw [h_68]
      have g_78 := h_72 h_68
      have g_79 : RG r_34 48 57 := RG_dig h_47.1 g_78 trivial h_42 (by decide +kernel)
      refine lv_if_ne (tgt := 19) hx hb dX12_number_9 rfl (fun c_80 => ?_) (fun c_80 => absurd c_80 (by decide +kernel))
      refine lv_iload_n hx hb dX12_number_19 rfl (lv_at hl 0 rfl) ?_
      as_aux_lemma =>
      refine lv_bipush (v := 48) hx hb dX12_number_20 kc_bipush_48 ?_
      refine lv_isub hx hb dX12_number_22 ?_
      refine lv_topi (fun x_81 ex_81 => ?_)
      replace hEX := hEX.trans (exl_eq ex_81)
      have g_82 : RG x_81 0 9 := RG_sub ex_81 g_79 (RG_k 48 48 rfl) (by decide +kernel)
      refine lv_istore (lv' := [(4, .int x_81), (3, .int r_34), (0, .ref h0), (1, .int 1), (2, .int 12)]) hx hb dX12_number_23 hl (Nat.le_of_ble_eq_true rfl) rfl (fun ls hl => ?_)
      refine lv_aload_n hx hb dX12_number_25 rfl (lv_at hl 2 rfl) ?_
      refine lv_dup hx hb dX12_number_26 rfl ?_
      refine va_get (D := (dC, dI)) (ci := 12) (v := .int x_35) (C := RX12) (T := TX12) (N := 54) hx hb hts iw_c_X12_number_3_X12 hown hK hP 0 rfl rfl 10 (by decide +kernel) (hts (.fieldLink RX12 134 "BuoyVoteModel" "at" "I") (List.mem_of_getElem? (i := 6) rfl)) (fun _ h9 => h9) rfl dX12_number_27 ?_
      refine lv_iconst (v := 1) hx hb dX12_number_30 kc_iconst_1 ?_
      refine lv_iadd hx hb dX12_number_31 ?_
      refine lv_topi (fun x_83 ex_83 => ?_)
      replace hEX := hEX.trans (exl_eq ex_83)
      have g_84 : RG x_83 1 240 := RG_add ex_83 h_43 (RG_k 1 1 rfl) (by decide +kernel)
      have q_85 : x_83.toInt = x_35.toInt + 1 := eq_add ex_83 h_43 (q := 1) rfl (by decide +kernel)
      refine va_put (D := (dC, dI)) (ci := 12) (v := .int x_83) (ty := .int) (C := RX12) (T := TX12) (N := 54) hx hb hts iw_c_X12_number_3_X12 tyX12 tyX12_ok nmX12 hown hK hP hD hS 0 rfl rfl 10 (by decide +kernel) (hts (.fieldLink RX12 134 "BuoyVoteModel" "at" "I") (List.mem_of_getElem? (i := 6) rfl)) (fun _ h9 => h9) rfl (by decide +kernel) rfl rfl (Nat.le_of_ble_eq_true rfl) dX12_number_32 (fun H locs hP hD hS => ?_)
      as_aux_lemma =>
      have hP : va_P (dC, dI) vwCl (wd_c_X12_number_3 h0 h0_f0 h0_1 h0_2 h0_3 h0_4 h0_5 h0_f6 h0_f7 h0_f8 h0_f9 x_83 (-1) h0_f12 h0_f13 h0_f14 h0_15 h0_16 h0_f17 h0_18 h0_19 h0_20 h0_21 h0_22 h0_23 h0_24 h0_25 h0_f26 h0_f27 h0_f28 h0_f29 h0_f30 h0_f31 h0_32 h0_33 h0_f34 h0_35 h0_36 h0_37 h0_38 h0_39 h0_40 h0_f41 h0_f42 h0_f43 h0_f44 h0_45 h0_46 h0_47 h0_48 h0_49 h0_50 h0_f51 h0_52 h0_f53 h0_5 h0_5k tN h0_5c) H := hP
      have hD : va_D A (wd_c_X12_number_3 h0 h0_f0 h0_1 h0_2 h0_3 h0_4 h0_5 h0_f6 h0_f7 h0_f8 h0_f9 x_83 (-1) h0_f12 h0_f13 h0_f14 h0_15 h0_16 h0_f17 h0_18 h0_19 h0_20 h0_21 h0_22 h0_23 h0_24 h0_25 h0_f26 h0_f27 h0_f28 h0_f29 h0_f30 h0_f31 h0_32 h0_33 h0_f34 h0_35 h0_36 h0_37 h0_38 h0_39 h0_40 h0_f41 h0_f42 h0_f43 h0_f44 h0_45 h0_46 h0_47 h0_48 h0_49 h0_50 h0_f51 h0_52 h0_f53 h0_5 h0_5k tN h0_5c) := hD
      refine lv_aload_n hx hb dX12_number_35 rfl (lv_at hl 2 rfl) ?_
      obtain ⟨hPc, hDc, hFc, hqc⟩ := cl_cut (wc := (wd_c_X12_isDigit h0 h0_f0 h0_1 h0_2 h0_3 h0_4 h0_5 h0_f6 h0_f7 h0_f8 h0_f9 x_83 (-1) h0_f12 h0_f13 h0_f14 h0_15 h0_16 h0_f17 h0_18 h0_19 h0_20 h0_21 h0_22 h0_23 h0_24 h0_25 h0_f26 h0_f27 h0_f28 h0_f29 h0_f30 h0_f31 h0_32 h0_33 h0_f34 h0_35 h0_36 h0_37 h0_38 h0_39 h0_40 h0_f41 h0_f42 h0_f43 h0_f44 h0_45 h0_46 h0_47 h0_48 h0_49 h0_50 h0_f51 h0_52 h0_f53 h0_5 h0_5k tN h0_5c)) hP hD hS hA [0, 1] (by decide +kernel) rfl
      have hKc := hK.sub (tys' := [(h0_5k, .byte)]) [0] rfl
      have hrv := va_recv hKc hPc (ci := 12) (q0 := 0) rfl rfl
      refine va_calli (va_runV (As := []) (rest := []) ⟨hx, hb, hml, hown, hts⟩ (c_X12_isDigit l dC dI H.size h0 h0_f0 h0_1 h0_2 h0_3 h0_4 h0_5 h0_f6 h0_f7 h0_f8 h0_f9 x_83 h0_f12 h0_f13 h0_f14 h0_15 h0_16 h0_f17 h0_18 h0_19 h0_20 h0_21 h0_22 h0_23 h0_24 h0_25 h0_f26 h0_f27 h0_f28 h0_f29 h0_f30 h0_f31 h0_32 h0_33 h0_f34 h0_35 h0_36 h0_37 h0_38 h0_39 h0_40 h0_f41 h0_f42 h0_f43 h0_f44 h0_45 h0_46 h0_47 h0_48 h0_49 h0_50 h0_f51 h0_52 h0_f53 h0_5k h0_5c tN g_h0_f6 g_h0_f7 g_h0_f8 (RG_w h_44 (by decide +kernel)) (RG_w g_84 (by decide +kernel)) g_h0_f17 g_h0_f26 g_h0_f27 g_h0_f28 g_h0_f29 g_h0_f30 g_h0_f31 g_h0_f34 g_h0_f41 g_h0_f51 g_h0_f53 htN) (cwV 0 hts gf_c_X12_number_3_c_X12_isDigit rfl rfl rfl mdV_X12_isDigit ⟨Nat.le_of_ble_eq_true rfl, Nat.le_of_ble_eq_true rfl⟩) ⟨fun a U g mk q => by obtain ⟨q0, q1, qP, qK, qD⟩ := q; exact ⟨q0, q1, qP, va_K.moved (u := U) (U := U.calling g mk a) (Vm.Alike.refl U.vm) qK, qD⟩, hrv, fun U hU hW => ⟨rfl, by rw [hU], by rw [hU]; exact hPc, va_K.moved hW.alike hKc, hDc.weaken (fun _ _ _ _ => trivial)⟩⟩ rfl rfl hl.1 rfl (lv_room (Nat.le_of_ble_eq_true rfl)) dX12_number_36 ⟨Nat.le_of_ble_eq_true rfl, Nat.le_of_ble_eq_true rfl⟩) hS (fun q _ h => hFc q h) hFc (fun r_86 u t H1 locs ht hvm hw hB hz1 hk1 hS => ?_)
      obtain ⟨hP1, hK1, hD1⟩ := hB
      rw [ht] at hP1
      obtain ⟨hP, hD⟩ := cl_put (w1 := (wd_c_X12_isDigit h0 h0_f0 h0_1 h0_2 h0_3 h0_4 h0_5 h0_f6 h0_f7 h0_f8 h0_f9 x_83 (-1) h0_f12 h0_f13 h0_f14 h0_15 h0_16 h0_f17 h0_18 h0_19 h0_20 h0_21 h0_22 h0_23 h0_24 h0_25 h0_f26 h0_f27 h0_f28 h0_f29 h0_f30 h0_f31 h0_32 h0_33 h0_f34 h0_35 h0_36 h0_37 h0_38 h0_39 h0_40 h0_f41 h0_f42 h0_f43 h0_f44 h0_45 h0_46 h0_47 h0_48 h0_49 h0_50 h0_f51 h0_52 h0_f53 h0_5 h0_5k tN h0_5c)) (nw := (wd_c_X12_number_3 h0 h0_f0 h0_1 h0_2 h0_3 h0_4 h0_5 h0_f6 h0_f7 h0_f8 h0_f9 x_83 (-1) h0_f12 h0_f13 h0_f14 h0_15 h0_16 h0_f17 h0_18 h0_19 h0_20 h0_21 h0_22 h0_23 h0_24 h0_25 h0_f26 h0_f27 h0_f28 h0_f29 h0_f30 h0_f31 h0_32 h0_33 h0_f34 h0_35 h0_36 h0_37 h0_38 h0_39 h0_40 h0_f41 h0_f42 h0_f43 h0_f44 h0_45 h0_46 h0_47 h0_48 h0_49 h0_50 h0_f51 h0_52 h0_f53 h0_5 h0_5k tN h0_5c)) hP hD [0, 1] [2, 3] 2 rfl hqc (by decide +kernel) rfl hk1 hFc hP1 hD1
      generalize H1 = H at hP hS ⊢
      as_aux_lemma =>
      rcases hw with ⟨h_87, h_88, h_89⟩ | ⟨h_90, h_91, h_92, h_93, h_94, h_95⟩
      · have h_89 : r_86 = _ := h_89
        replace hEX := hEX.trans (exc1_eq h_89)
        replace hEX := hEX.trans (if_pos (show r_86 = 0 from h_87))
        rw [h_87]
        refine lv_if_eq (tgt := 67) hx hb dX12_number_39 rfl (fun c_96 => ?_) (fun c_96 => absurd c_96 (by decide +kernel))
        exact hU _ _ _ (J67 x_81 x_83 g_h0_f10 g_h0_f17 g_h0_f26 g_h0_f27 g_h0_f28 g_h0_f29 g_h0_f30 g_h0_f31 g_h0_f34 g_h0_f41 g_h0_f51 g_h0_f53 g_h0_f6 g_h0_f7 g_h0_f8 h_44 g_84 (RG_w g_82 (by decide +kernel)) (by have := h_45; have := q_85; omega) hEX _ _ _ hP hD hS (lv_sub hl [0, 2, 3, 4] rfl))
      · have h_95 : r_86 = _ := h_95
        replace hEX := hEX.trans (exc1_eq h_95)
        replace hEX := hEX.trans (if_neg (fun q9 : r_86 = 0 => absurd ((show r_86 = 1 from h_90).symm.trans q9) (by decide +kernel)))
        rw [h_90]
        have g_97 : RG x_83 1 239 := RG_eq1 g_84 h_91 rfl (by decide +kernel)
        have g_98 : RG x_35 0 238 := RG_addb ex_83 (q := 1) rfl h_43 g_97 (by decide +kernel)
        have g_99 := h_94 h_90
        refine lv_if_eq (tgt := 67) hx hb dX12_number_39 rfl (fun c_100 => absurd c_100 (by decide +kernel)) (fun c_100 => ?_)
        as_aux_lemma =>
        refine lv_bipush (v := 10) hx hb dX12_number_42 kc_bipush_10 ?_
        refine lv_iload hx hb dX12_number_44 (lv_at hl 0 rfl) ?_
        refine lv_imul hx hb dX12_number_46 ?_
        refine lv_topi (fun x_101 ex_101 => ?_)
        replace hEX := hEX.trans (exl_eq ex_101)
        have g_102 : RG x_101 0 90 := RG_mulc (RG_com ex_101) (q := 10) rfl g_82 (by decide +kernel)
        refine lv_aload_n hx hb dX12_number_47 rfl (lv_at hl 2 rfl) ?_
        obtain ⟨hPc, hDc, hFc, hqc⟩ := cl_cut (wc := (wd_c_X12_here h0 h0_f0 h0_1 h0_2 h0_3 h0_4 h0_5 h0_f6 h0_f7 h0_f8 h0_f9 x_83 (-1) h0_f12 h0_f13 h0_f14 h0_15 h0_16 h0_f17 h0_18 h0_19 h0_20 h0_21 h0_22 h0_23 h0_24 h0_25 h0_f26 h0_f27 h0_f28 h0_f29 h0_f30 h0_f31 h0_32 h0_33 h0_f34 h0_35 h0_36 h0_37 h0_38 h0_39 h0_40 h0_f41 h0_f42 h0_f43 h0_f44 h0_45 h0_46 h0_47 h0_48 h0_49 h0_50 h0_f51 h0_52 h0_f53 h0_5 h0_5k tN h0_5c)) hP hD hS hA [0, 1] (by decide +kernel) rfl
        have hKc := hK.sub (tys' := [(h0_5k, .byte)]) [0] rfl
        have hrv := va_recv hKc hPc (ci := 12) (q0 := 0) rfl rfl
        refine va_calli (va_runV (As := []) (rest := [.int x_101]) ⟨hx, hb, hml, hown, hts⟩ (c_X12_here l dC dI H.size h0 h0_f0 h0_1 h0_2 h0_3 h0_4 h0_5 h0_f6 h0_f7 h0_f8 h0_f9 x_83 h0_f12 h0_f13 h0_f14 h0_15 h0_16 h0_f17 h0_18 h0_19 h0_20 h0_21 h0_22 h0_23 h0_24 h0_25 h0_f26 h0_f27 h0_f28 h0_f29 h0_f30 h0_f31 h0_32 h0_33 h0_f34 h0_35 h0_36 h0_37 h0_38 h0_39 h0_40 h0_f41 h0_f42 h0_f43 h0_f44 h0_45 h0_46 h0_47 h0_48 h0_49 h0_50 h0_f51 h0_52 h0_f53 h0_5k h0_5c tN g_h0_f6 g_h0_f7 g_h0_f8 (RG_w h_44 (by decide +kernel)) (RG_w g_97 (by decide +kernel)) g_h0_f17 g_h0_f26 g_h0_f27 g_h0_f28 g_h0_f29 g_h0_f30 g_h0_f31 g_h0_f34 g_h0_f41 g_h0_f51 g_h0_f53 htN) (cwV 0 hts gf_c_X12_number_3_c_X12_here rfl rfl rfl mdV_X12_here ⟨Nat.le_of_ble_eq_true rfl, Nat.le_of_ble_eq_true rfl⟩) ⟨fun a U g mk q => by obtain ⟨q0, q1, qP, qK, qD⟩ := q; exact ⟨q0, q1, qP, va_K.moved (u := U) (U := U.calling g mk a) (Vm.Alike.refl U.vm) qK, qD⟩, hrv, fun U hU hW => ⟨rfl, by rw [hU], by rw [hU]; exact hPc, va_K.moved hW.alike hKc, hDc.weaken (fun _ _ _ _ => trivial)⟩⟩ rfl rfl hl.1 rfl (lv_room (Nat.le_of_ble_eq_true rfl)) dX12_number_48 ⟨Nat.le_of_ble_eq_true rfl, Nat.le_of_ble_eq_true rfl⟩) hS (fun q _ h => hFc q h) hFc (fun r_103 u t H1 locs ht hvm hw hB hz1 hk1 hS => ?_)
        obtain ⟨hP1, hK1, hD1⟩ := hB
        rw [ht] at hP1
        obtain ⟨hP, hD⟩ := cl_put (w1 := (wd_c_X12_here h0 h0_f0 h0_1 h0_2 h0_3 h0_4 h0_5 h0_f6 h0_f7 h0_f8 h0_f9 x_83 (-1) h0_f12 h0_f13 h0_f14 h0_15 h0_16 h0_f17 h0_18 h0_19 h0_20 h0_21 h0_22 h0_23 h0_24 h0_25 h0_f26 h0_f27 h0_f28 h0_f29 h0_f30 h0_f31 h0_32 h0_33 h0_f34 h0_35 h0_36 h0_37 h0_38 h0_39 h0_40 h0_f41 h0_f42 h0_f43 h0_f44 h0_45 h0_46 h0_47 h0_48 h0_49 h0_50 h0_f51 h0_52 h0_f53 h0_5 h0_5k tN h0_5c)) (nw := (wd_c_X12_number_3 h0 h0_f0 h0_1 h0_2 h0_3 h0_4 h0_5 h0_f6 h0_f7 h0_f8 h0_f9 x_83 (-1) h0_f12 h0_f13 h0_f14 h0_15 h0_16 h0_f17 h0_18 h0_19 h0_20 h0_21 h0_22 h0_23 h0_24 h0_25 h0_f26 h0_f27 h0_f28 h0_f29 h0_f30 h0_f31 h0_32 h0_33 h0_f34 h0_35 h0_36 h0_37 h0_38 h0_39 h0_40 h0_f41 h0_f42 h0_f43 h0_f44 h0_45 h0_46 h0_47 h0_48 h0_49 h0_50 h0_f51 h0_52 h0_f53 h0_5 h0_5k tN h0_5c)) hP hD [0, 1] [2, 3] 2 rfl hqc (by decide +kernel) rfl hk1 hFc hP1 hD1
        generalize H1 = H at hP hS ⊢
        as_aux_lemma =>
        rcases hw with ⟨h_104, h_105, h_106, h_107⟩ | ⟨h_108, h_109, h_110, h_111, h_112⟩
        · have h_107 : r_103 = _ := h_107
          replace hEX := hEX.trans (exc1_eq h_107)
          replace hEX := hEX.trans (if_pos (show r_103 = (-1) from h_104))
          rw [h_104]
          exfalso
          have := h_105
          have := h_93
          omega
        · have h_112 : r_103 = _ := h_112
          replace hEX := hEX.trans (exc1_eq h_112)
          replace hEX := hEX.trans (if_neg (RG_neq (x := r_103) (c := (-1)) (show RG r_103 0 255 from h_108) (by decide +kernel)))
          have g_113 : RG r_103 48 57 := RG_dig h_111 g_99 trivial h_108 (by decide +kernel)
          refine lv_iadd hx hb dX12_number_51 ?_
          as_aux_lemma =>
          refine lv_topi (fun x_114 ex_114 => ?_)
          replace hEX := hEX.trans (exl_eq ex_114)
          have g_115 : RG x_114 48 147 := RG_add ex_114 g_102 g_113 (by decide +kernel)
          refine lv_bipush (v := 48) hx hb dX12_number_52 kc_bipush_48 ?_
          refine lv_isub hx hb dX12_number_54 ?_
          refine lv_topi (fun x_116 ex_116 => ?_)
          replace hEX := hEX.trans (exl_eq ex_116)
          have g_117 : RG x_116 0 99 := RG_sub ex_116 g_115 (RG_k 48 48 rfl) (by decide +kernel)
          refine lv_istore (lv' := [(4, .int x_116), (3, .int r_34), (0, .ref h0), (1, .int 1), (2, .int 12)]) hx hb dX12_number_55 hl (Nat.le_of_ble_eq_true rfl) rfl (fun ls hl => ?_)
          refine lv_aload_n hx hb dX12_number_57 rfl (lv_at hl 2 rfl) ?_
          refine lv_dup hx hb dX12_number_58 rfl ?_
          refine va_get (D := (dC, dI)) (ci := 12) (v := .int x_83) (C := RX12) (T := TX12) (N := 54) hx hb hts iw_c_X12_number_3_X12 hown hK hP 0 rfl rfl 10 (by decide +kernel) (hts (.fieldLink RX12 134 "BuoyVoteModel" "at" "I") (List.mem_of_getElem? (i := 6) rfl)) (fun _ h9 => h9) rfl dX12_number_59 ?_
          refine lv_iconst (v := 1) hx hb dX12_number_62 kc_iconst_1 ?_
          refine lv_iadd hx hb dX12_number_63 ?_
          as_aux_lemma =>
          refine lv_topi (fun x_118 ex_118 => ?_)
          replace hEX := hEX.trans (exl_eq ex_118)
          have g_119 : RG x_118 2 240 := RG_add ex_118 g_97 (RG_k 1 1 rfl) (by decide +kernel)
          have q_120 : x_118.toInt = x_83.toInt + 1 := eq_add ex_118 g_97 (q := 1) rfl (by decide +kernel)
          refine va_put (D := (dC, dI)) (ci := 12) (v := .int x_118) (ty := .int) (C := RX12) (T := TX12) (N := 54) hx hb hts iw_c_X12_number_3_X12 tyX12 tyX12_ok nmX12 hown hK hP hD hS 0 rfl rfl 10 (by decide +kernel) (hts (.fieldLink RX12 134 "BuoyVoteModel" "at" "I") (List.mem_of_getElem? (i := 6) rfl)) (fun _ h9 => h9) rfl (by decide +kernel) rfl rfl (Nat.le_of_ble_eq_true rfl) dX12_number_64 (fun H locs hP hD hS => ?_)
          have hP : va_P (dC, dI) vwCl (wd_c_X12_number_3 h0 h0_f0 h0_1 h0_2 h0_3 h0_4 h0_5 h0_f6 h0_f7 h0_f8 h0_f9 x_118 (-1) h0_f12 h0_f13 h0_f14 h0_15 h0_16 h0_f17 h0_18 h0_19 h0_20 h0_21 h0_22 h0_23 h0_24 h0_25 h0_f26 h0_f27 h0_f28 h0_f29 h0_f30 h0_f31 h0_32 h0_33 h0_f34 h0_35 h0_36 h0_37 h0_38 h0_39 h0_40 h0_f41 h0_f42 h0_f43 h0_f44 h0_45 h0_46 h0_47 h0_48 h0_49 h0_50 h0_f51 h0_52 h0_f53 h0_5 h0_5k tN h0_5c) H := hP
          have hD : va_D A (wd_c_X12_number_3 h0 h0_f0 h0_1 h0_2 h0_3 h0_4 h0_5 h0_f6 h0_f7 h0_f8 h0_f9 x_118 (-1) h0_f12 h0_f13 h0_f14 h0_15 h0_16 h0_f17 h0_18 h0_19 h0_20 h0_21 h0_22 h0_23 h0_24 h0_25 h0_f26 h0_f27 h0_f28 h0_f29 h0_f30 h0_f31 h0_32 h0_33 h0_f34 h0_35 h0_36 h0_37 h0_38 h0_39 h0_40 h0_f41 h0_f42 h0_f43 h0_f44 h0_45 h0_46 h0_47 h0_48 h0_49 h0_50 h0_f51 h0_52 h0_f53 h0_5 h0_5k tN h0_5c) := hD
          exact hU _ _ _ (J67 x_116 x_118 g_h0_f10 g_h0_f17 g_h0_f26 g_h0_f27 g_h0_f28 g_h0_f29 g_h0_f30 g_h0_f31 g_h0_f34 g_h0_f41 g_h0_f51 g_h0_f53 g_h0_f6 g_h0_f7 g_h0_f8 h_44 (RG_w g_119 (by decide +kernel)) g_117 (by have := h_45; have := q_85; have := q_120; omega) hEX _ _ _ hP hD hS (lv_sub hl [0, 2, 3, 4] rfl))
noncomputable def wf_c_X12_leastOf_8 : List Cond := .code yX12_leastOf cX12_leastOf 2 (some .int) :: ([])
set_option maxHeartbeats 4000000 in
set_option maxRecDepth 100000 in
theorem c_X12_leastOf_8 (l : Launch) (dC : Nat → ClassId) (dI : Nat → Nat → Nat) (sz : Nat) (p0 : Int32) (p1 : Int32) (g_p0 : RG p0 115 115) (g_p1 : RG p1 0 3) : Met l yX12_leastOf wf_c_X12_leastOf_8 ({ frames := 0, cells := 0, slots := 0, locals := 0 }) (va_Pc [.int p0, .int p1] (fun U => U.heap.size = sz ∧ va_P (dC, dI) vwCl [] U.heap ∧ va_K (dC, dI) vwCl [] U ∧ va_D (fun _ => True) [])) (va_Qi (fun (r : Int32) (u : Unit) => (r = 0 ∧ RG p1 0 1 ∧ r = fx_c_X12_leastOf_8 p0 p1) ∨ (r = 1 ∧ RG p1 2 3 ∧ r = fx_c_X12_leastOf_8 p0 p1)) (fun (u : Unit) t => va_P (dC, dI) vwCl [] t.heap ∧ va_K (dC, dI) vwCl [] t ∧ va_D (va_A [] sz) []) (va_A [] sz)) 0 0 (va_A [] sz) := by
  refine Met.ofW (cc := cX12_leastOf) (maxL := 2) (ret := (some .int)) (by decide +kernel) rfl ?_
  intro p e s m args below meth c s₁ B hml hv
  obtain ⟨rfl, hsz, hP, hK, hD0⟩ := hv
  have hx := B.exec
  have hb := B.bytes
  have hr := B.returns
  have hts := atoms_spec (ws := wf_c_X12_leastOf_8) B.pre
  have hown : s.vm.findClass RX12 = some m.cls := findClass_of_methodNamed B.named
  have hlocks := B.notSynchronized
  subst hsz
  have hD := hD0.self (sz := s.heap.size)
  generalize hAe : va_A [] s.heap.size = A at hD ⊢
  have hA : ∀ q : Nat, s.heap.size ≤ q → A q := fun q h => by rw [← hAe]; exact Or.inr h
  have hP : va_P (dC, dI) vwCl [] s.heap := hP
  have hl := lv_entry ([.int p0, .int p1]) (n := 2) (Nat.le_of_ble_eq_true rfl)
  rw [lg_entry_eq]
  generalize (lg_sl ([.int p0, .int p1]) ++ List.replicate (2 - (lg_sl ([.int p0, .int p1])).length) Slot.unset).toArray = ls at hl ⊢
  have hl : lv_has ls 2 [(0, .int p0), (1, .int p1)] := hl
  obtain ⟨H, hHe⟩ : ∃ H : Heap, s.heap = H := ⟨_, rfl⟩
  have hS : va_S A s.heap H [] := by rw [hHe]; exact va_S.rf
  have hP : va_P (dC, dI) vwCl [] H := by rw [← hHe]; exact hP
  rw [hHe]
  obtain ⟨RES, hR⟩ : ∃ z, fx_c_X12_leastOf_8 p0 p1 = z := ⟨_, rfl⟩
  have hEX : RES = fx_c_X12_leastOf_8 p0 p1 := hR.symm
  refine wj (fun G hG hU => ?_)
  as_aux_lemma =>
  have J11 : ∀ (g_p0 : RG p0 115 115) (g_p1 : RG p1 0 1) (hEX : RES = fx_c_X12_leastOf_8_p11 p0) (H : Heap) (locs : List Loc) (ls : Array Slot) (hP : va_P (dC, dI) vwCl [] H) (hD : va_D A []) (hS : va_S A s.heap H locs) (hl : lv_has ls 2 [(0, .int p0), (1, .int p1)]), G H locs (F0 m 11 ls []) := by
    as_aux_lemma =>
    intro g_p0 g_p1 hEX H locs ls hP hD hS hl
    refine hG _ _ _ ?_
    refine lv_iload_n hx hb dX12_leastOf_11 rfl (lv_at hl 0 rfl) ?_
    refine lv_bipush (v := 99) hx hb dX12_leastOf_12 kc_bipush_99 ?_
    refine lv_icmp_ne (tgt := 26) hx hb dX12_leastOf_14 rfl (fun c_1 => ?_) (fun c_1 => ?_)
    · replace hEX := hEX.trans (if_neg c_1)
      refine lv_iconst (v := 0) hx hb dX12_leastOf_26 kc_iconst_0 ?_
      have hK9 := hK.sub (tys' := []) [] rfl
      exact W.iret (v := 0) hx hb hr (fun t ht hW => ⟨⟨0, (), rfl, (Or.inl ⟨rfl, g_p1, (hR.trans hEX).symm⟩), by rw [ht]; exact hP, va_K.moved hW.alike hK9, hD⟩, hS.F ht⟩) hS.2.2 dX12_leastOf_27
    · replace hEX := hEX.trans (if_pos c_1)
      exact RG_dead (RG_eq1 g_p0 (RG_k 99 99 rfl) c_1 (a' := 115) (b' := 99) (by decide +kernel)) (by decide +kernel)
  have J22 : ∀ (g_p0 : RG p0 115 115) (g_p1 : RG p1 2 3) (hEX : RES = fx_c_X12_leastOf_8_p22) (H : Heap) (locs : List Loc) (ls : Array Slot) (hP : va_P (dC, dI) vwCl [] H) (hD : va_D A []) (hS : va_S A s.heap H locs) (hl : lv_has ls 2 []), G H locs (F0 m 22 ls []) := by
    as_aux_lemma =>
    intro g_p0 g_p1 hEX H locs ls hP hD hS hl
    refine hG _ _ _ ?_
    refine lv_iconst (v := 1) hx hb dX12_leastOf_22 kc_iconst_1 ?_
    refine lv_goto (tgt := 27) hx hb dX12_leastOf_23 rfl ?_
    have hK9 := hK.sub (tys' := []) [] rfl
    exact W.iret (v := 1) hx hb hr (fun t ht hW => ⟨⟨1, (), rfl, (Or.inr ⟨rfl, g_p1, (hR.trans hEX).symm⟩), by rw [ht]; exact hP, va_K.moved hW.alike hK9, hD⟩, hS.F ht⟩) hS.2.2 dX12_leastOf_27
  refine hG _ _ _ ?_
  refine lv_iload_n hx hb dX12_leastOf_0 rfl (lv_at hl 0 rfl) ?_
  refine lv_bipush (v := 115) hx hb dX12_leastOf_1 kc_bipush_115 ?_
  refine lv_icmp_ne (tgt := 11) hx hb dX12_leastOf_3 rfl (fun c_2 => ?_) (fun c_2 => ?_)
  · replace hEX := hEX.trans (if_neg c_2)
    exact RG_dead (RG_ne1 g_p0 (q := 115) rfl c_2 (a' := 116) (b' := 115) (by decide +kernel)) (by decide +kernel)
  · replace hEX := hEX.trans (if_pos c_2)
    refine lv_iload_n hx hb dX12_leastOf_6 rfl (lv_at hl 1 rfl) ?_
    as_aux_lemma =>
    refine lv_iconst (v := 1) hx hb dX12_leastOf_7 kc_iconst_1 ?_
    refine lv_icmp_gt (tgt := 22) hx hb dX12_leastOf_8 rfl (fun c_3 => ?_) (fun c_3 => ?_)
    · replace hEX := hEX.trans (if_pos c_3)
      have g_4 : RG p1 2 3 := RG_lt2 (RG_k 1 1 rfl) g_p1 c_3 (by decide +kernel)
      exact hU _ _ _ (J22 g_p0 g_4 hEX _ _ _ hP hD hS (lv_sub hl [] rfl))
    · replace hEX := hEX.trans (if_neg c_3)
      have d_5 := Int32.not_lt.mp c_3
      have g_6 : RG p1 0 1 := RG_le1 g_p1 (RG_k 1 1 rfl) d_5 (by decide +kernel)
      exact hU _ _ _ (J11 g_p0 g_6 hEX _ _ _ hP hD hS (lv_sub hl [0, 1] rfl))
noncomputable def wf_c_X12_mostOf_8 : List Cond := .code yX12_mostOf cX12_mostOf 2 (some .int) :: ([])
set_option maxHeartbeats 4000000 in
set_option maxRecDepth 100000 in
theorem c_X12_mostOf_8 (l : Launch) (dC : Nat → ClassId) (dI : Nat → Nat → Nat) (sz : Nat) (p0 : Int32) (p1 : Int32) (g_p0 : RG p0 115 115) (g_p1 : RG p1 0 3) : Met l yX12_mostOf wf_c_X12_mostOf_8 ({ frames := 0, cells := 0, slots := 0, locals := 0 }) (va_Pc [.int p0, .int p1] (fun U => U.heap.size = sz ∧ va_P (dC, dI) vwCl [] U.heap ∧ va_K (dC, dI) vwCl [] U ∧ va_D (fun _ => True) [])) (va_Qi (fun (r : Int32) (u : Unit) => (r = 20 ∧ RG p1 3 3 ∧ r = fx_c_X12_mostOf_8 p0 p1) ∨ (r = 12 ∧ RG p1 2 2 ∧ r = fx_c_X12_mostOf_8 p0 p1) ∨ (r = 3 ∧ RG p1 1 1 ∧ r = fx_c_X12_mostOf_8 p0 p1) ∨ (r = 9 ∧ RG p1 0 0 ∧ r = fx_c_X12_mostOf_8 p0 p1)) (fun (u : Unit) t => va_P (dC, dI) vwCl [] t.heap ∧ va_K (dC, dI) vwCl [] t ∧ va_D (va_A [] sz) []) (va_A [] sz)) 0 0 (va_A [] sz) := by
  refine Met.ofW (cc := cX12_mostOf) (maxL := 2) (ret := (some .int)) (by decide +kernel) rfl ?_
  intro p e s m args below meth c s₁ B hml hv
  obtain ⟨rfl, hsz, hP, hK, hD0⟩ := hv
  have hx := B.exec
  have hb := B.bytes
  have hr := B.returns
  have hts := atoms_spec (ws := wf_c_X12_mostOf_8) B.pre
  have hown : s.vm.findClass RX12 = some m.cls := findClass_of_methodNamed B.named
  have hlocks := B.notSynchronized
  subst hsz
  have hD := hD0.self (sz := s.heap.size)
  generalize hAe : va_A [] s.heap.size = A at hD ⊢
  have hA : ∀ q : Nat, s.heap.size ≤ q → A q := fun q h => by rw [← hAe]; exact Or.inr h
  have hP : va_P (dC, dI) vwCl [] s.heap := hP
  have hl := lv_entry ([.int p0, .int p1]) (n := 2) (Nat.le_of_ble_eq_true rfl)
  rw [lg_entry_eq]
  generalize (lg_sl ([.int p0, .int p1]) ++ List.replicate (2 - (lg_sl ([.int p0, .int p1])).length) Slot.unset).toArray = ls at hl ⊢
  have hl : lv_has ls 2 [(0, .int p0), (1, .int p1)] := hl
  obtain ⟨H, hHe⟩ : ∃ H : Heap, s.heap = H := ⟨_, rfl⟩
  have hS : va_S A s.heap H [] := by rw [hHe]; exact va_S.rf
  have hP : va_P (dC, dI) vwCl [] H := by rw [← hHe]; exact hP
  rw [hHe]
  obtain ⟨RES, hR⟩ : ∃ z, fx_c_X12_mostOf_8 p0 p1 = z := ⟨_, rfl⟩
  have hEX : RES = fx_c_X12_mostOf_8 p0 p1 := hR.symm
  refine lv_iload_n hx hb dX12_mostOf_0 rfl (lv_at hl 0 rfl) ?_
  as_aux_lemma =>
  refine lv_bipush (v := 115) hx hb dX12_mostOf_1 kc_bipush_115 ?_
  refine lv_icmp_ne (tgt := 37) hx hb dX12_mostOf_3 rfl (fun c_1 => ?_) (fun c_1 => ?_)
  · replace hEX := hEX.trans (if_neg c_1)
    exact RG_dead (RG_ne1 g_p0 (q := 115) rfl c_1 (a' := 116) (b' := 115) (by decide +kernel)) (by decide +kernel)
  · replace hEX := hEX.trans (if_pos c_1)
    refine lv_iload_n hx hb dX12_mostOf_6 rfl (lv_at hl 1 rfl) ?_
    refine lv_if_ne (tgt := 15) hx hb dX12_mostOf_7 rfl (fun c_2 => ?_) (fun c_2 => ?_)
    · replace hEX := hEX.trans (if_neg c_2)
      have g_3 : RG p1 1 3 := RG_ne1 g_p1 (q := 0) rfl c_2 (by decide +kernel)
      refine lv_iload_n hx hb dX12_mostOf_15 rfl (lv_at hl 1 rfl) ?_
      refine lv_iconst (v := 1) hx hb dX12_mostOf_16 kc_iconst_1 ?_
      refine lv_icmp_ne (tgt := 24) hx hb dX12_mostOf_17 rfl (fun c_4 => ?_) (fun c_4 => ?_)
      · replace hEX := hEX.trans (if_neg c_4)
        have g_5 : RG p1 2 3 := RG_ne1 g_3 (q := 1) rfl c_4 (by decide +kernel)
        refine lv_iload_n hx hb dX12_mostOf_24 rfl (lv_at hl 1 rfl) ?_
        as_aux_lemma =>
        refine lv_iconst (v := 2) hx hb dX12_mostOf_25 kc_iconst_2 ?_
        refine lv_icmp_ne (tgt := 34) hx hb dX12_mostOf_26 rfl (fun c_6 => ?_) (fun c_6 => ?_)
        · replace hEX := hEX.trans (if_neg c_6)
          have g_7 : RG p1 3 3 := RG_ne1 g_5 (q := 2) rfl c_6 (by decide +kernel)
          refine lv_bipush (v := 20) hx hb dX12_mostOf_34 kc_bipush_20 ?_
          have hK9 := hK.sub (tys' := []) [] rfl
          exact W.iret (v := 20) hx hb hr (fun t ht hW => ⟨⟨20, (), rfl, (Or.inl ⟨rfl, g_7, (hR.trans hEX).symm⟩), by rw [ht]; exact hP, va_K.moved hW.alike hK9, hD⟩, hS.F ht⟩) hS.2.2 dX12_mostOf_36
        · replace hEX := hEX.trans (if_pos c_6)
          have g_8 : RG p1 2 2 := RG_eq1 g_5 (RG_k 2 2 rfl) c_6 (by decide +kernel)
          refine lv_bipush (v := 12) hx hb dX12_mostOf_29 kc_bipush_12 ?_
          refine lv_goto (tgt := 36) hx hb dX12_mostOf_31 rfl ?_
          have hK9 := hK.sub (tys' := []) [] rfl
          exact W.iret (v := 12) hx hb hr (fun t ht hW => ⟨⟨12, (), rfl, (Or.inr (Or.inl ⟨rfl, g_8, (hR.trans hEX).symm⟩)), by rw [ht]; exact hP, va_K.moved hW.alike hK9, hD⟩, hS.F ht⟩) hS.2.2 dX12_mostOf_36
      · replace hEX := hEX.trans (if_pos c_4)
        have g_9 : RG p1 1 1 := RG_eq1 g_3 (RG_k 1 1 rfl) c_4 (by decide +kernel)
        refine lv_iconst (v := 3) hx hb dX12_mostOf_20 kc_iconst_3 ?_
        as_aux_lemma =>
        refine lv_goto (tgt := 36) hx hb dX12_mostOf_21 rfl ?_
        have hK9 := hK.sub (tys' := []) [] rfl
        exact W.iret (v := 3) hx hb hr (fun t ht hW => ⟨⟨3, (), rfl, (Or.inr (Or.inr (Or.inl ⟨rfl, g_9, (hR.trans hEX).symm⟩))), by rw [ht]; exact hP, va_K.moved hW.alike hK9, hD⟩, hS.F ht⟩) hS.2.2 dX12_mostOf_36
    · replace hEX := hEX.trans (if_pos c_2)
      have g_10 : RG p1 0 0 := RG_eq1 g_p1 (RG_k 0 0 rfl) c_2 (by decide +kernel)
      refine lv_bipush (v := 9) hx hb dX12_mostOf_10 kc_bipush_9 ?_
      refine lv_goto (tgt := 36) hx hb dX12_mostOf_12 rfl ?_
      have hK9 := hK.sub (tys' := []) [] rfl
      exact W.iret (v := 9) hx hb hr (fun t ht hW => ⟨⟨9, (), rfl, (Or.inr (Or.inr (Or.inr ⟨rfl, g_10, (hR.trans hEX).symm⟩))), by rw [ht]; exact hP, va_K.moved hW.alike hK9, hD⟩, hS.F ht⟩) hS.2.2 dX12_mostOf_36
noncomputable def wf_c_X12_isIn_5 : List Cond := .code yX12_isIn cX12_isIn 6 (some .boolean) :: ([])
set_option maxHeartbeats 4000000 in
set_option maxRecDepth 100000 in
theorem c_X12_isIn_5 (l : Launch) (dC : Nat → ClassId) (dI : Nat → Nat → Nat) (sz : Nat) (p0 : Int64) (g_p0 : LG p0 0 99) : Met l yX12_isIn wf_c_X12_isIn_5 ({ frames := 0, cells := 0, slots := 0, locals := 0 }) (va_Pc [.long p0, .long 1, .long 20] (fun U => U.heap.size = sz ∧ va_P (dC, dI) vwCl [] U.heap ∧ va_K (dC, dI) vwCl [] U ∧ va_D (fun _ => True) [])) (va_Qi (fun (r : Int32) (u : Unit) => (r = 0 ∧ r = fx_c_X12_isIn_5 p0) ∨ (r = 1 ∧ LG p0 1 20 ∧ r = fx_c_X12_isIn_5 p0)) (fun (u : Unit) t => va_P (dC, dI) vwCl [] t.heap ∧ va_K (dC, dI) vwCl [] t ∧ va_D (va_A [] sz) []) (va_A [] sz)) 0 0 (va_A [] sz) := by
  refine Met.ofW (cc := cX12_isIn) (maxL := 6) (ret := (some .boolean)) (by decide +kernel) rfl ?_
  intro p e s m args below meth c s₁ B hml hv
  obtain ⟨rfl, hsz, hP, hK, hD0⟩ := hv
  have hx := B.exec
  have hb := B.bytes
  have hr := B.returns
  have hts := atoms_spec (ws := wf_c_X12_isIn_5) B.pre
  have hown : s.vm.findClass RX12 = some m.cls := findClass_of_methodNamed B.named
  have hlocks := B.notSynchronized
  subst hsz
  have hD := hD0.self (sz := s.heap.size)
  generalize hAe : va_A [] s.heap.size = A at hD ⊢
  have hA : ∀ q : Nat, s.heap.size ≤ q → A q := fun q h => by rw [← hAe]; exact Or.inr h
  have hP : va_P (dC, dI) vwCl [] s.heap := hP
  have hl := lv_entry ([.long p0, .long 1, .long 20]) (n := 6) (Nat.le_of_ble_eq_true rfl)
  rw [lg_entry_eq]
  generalize (lg_sl ([.long p0, .long 1, .long 20]) ++ List.replicate (6 - (lg_sl ([.long p0, .long 1, .long 20])).length) Slot.unset).toArray = ls at hl ⊢
  have hl : lv_has ls 6 [(0, .long p0), (2, .long 1), (4, .long 20)] := hl
  obtain ⟨H, hHe⟩ : ∃ H : Heap, s.heap = H := ⟨_, rfl⟩
  have hS : va_S A s.heap H [] := by rw [hHe]; exact va_S.rf
  have hP : va_P (dC, dI) vwCl [] H := by rw [← hHe]; exact hP
  rw [hHe]
  obtain ⟨RES, hR⟩ : ∃ z, fx_c_X12_isIn_5 p0 = z := ⟨_, rfl⟩
  have hEX : RES = fx_c_X12_isIn_5 p0 := hR.symm
  refine lv_lload_n hx hb dX12_isIn_0 rfl (lv_at hl 0 rfl) ?_
  as_aux_lemma =>
  refine lv_lload_n hx hb dX12_isIn_1 rfl (lv_at hl 1 rfl) ?_
  refine W.lcmp hx hb dX12_isIn_2 ?_
  refine lv_if_lt (tgt := 17) hx hb dX12_isIn_3 rfl (fun c_1 => ?_) (fun c_1 => ?_)
  · replace c_1 := lc_lt_t c_1
    replace hEX := hEX.trans (if_pos c_1)
    have g_2 : LG p0 0 0 := LG_lt1 g_p0 (LG_k 1 1 rfl) c_1 (by decide +kernel)
    refine lv_iconst (v := 0) hx hb dX12_isIn_17 kc_iconst_0 ?_
    have hK9 := hK.sub (tys' := []) [] rfl
    exact W.zret (v := 0) hx hb hr rfl (fun t ht hW => ⟨⟨0, (), rfl, (Or.inl ⟨rfl, (hR.trans hEX).symm⟩), by rw [ht]; exact hP, va_K.moved hW.alike hK9, hD⟩, hS.F ht⟩) hS.2.2 dX12_isIn_18
  · replace c_1 := lc_lt_f c_1
    replace hEX := hEX.trans (if_neg c_1)
    have d_3 := Int64.not_lt.mp c_1
    have g_4 : LG p0 1 99 := LG_le2 (LG_k 1 1 rfl) g_p0 d_3 (by decide +kernel)
    refine lv_lload_n hx hb dX12_isIn_6 rfl (lv_at hl 0 rfl) ?_
    as_aux_lemma =>
    refine lv_lload hx hb dX12_isIn_7 (lv_at hl 2 rfl) ?_
    refine W.lcmp hx hb dX12_isIn_12 ?_
    refine lv_if_gt (tgt := 17) hx hb dX12_isIn_10 rfl (fun c_5 => ?_) (fun c_5 => ?_)
    · replace c_5 := lc_gt_t c_5
      replace hEX := hEX.trans (if_pos c_5)
      have g_6 : LG p0 21 99 := LG_lt2 (LG_k 20 20 rfl) g_4 c_5 (by decide +kernel)
      refine lv_iconst (v := 0) hx hb dX12_isIn_17 kc_iconst_0 ?_
      have hK9 := hK.sub (tys' := []) [] rfl
      exact W.zret (v := 0) hx hb hr rfl (fun t ht hW => ⟨⟨0, (), rfl, (Or.inl ⟨rfl, (hR.trans hEX).symm⟩), by rw [ht]; exact hP, va_K.moved hW.alike hK9, hD⟩, hS.F ht⟩) hS.2.2 dX12_isIn_18
    · replace c_5 := lc_gt_f c_5
      replace hEX := hEX.trans (if_neg c_5)
      have d_7 := Int64.not_lt.mp c_5
      have g_8 : LG p0 1 20 := LG_le1 g_4 (LG_k 20 20 rfl) d_7 (by decide +kernel)
      refine lv_iconst (v := 1) hx hb dX12_isIn_13 kc_iconst_1 ?_
      as_aux_lemma =>
      refine lv_goto (tgt := 18) hx hb dX12_isIn_14 rfl ?_
      have hK9 := hK.sub (tys' := []) [] rfl
      exact W.zret (v := 1) hx hb hr rfl (fun t ht hW => ⟨⟨1, (), rfl, (Or.inr ⟨rfl, g_8, (hR.trans hEX).symm⟩), by rw [ht]; exact hP, va_K.moved hW.alike hK9, hD⟩, hS.F ht⟩) hS.2.2 dX12_isIn_18
noncomputable def wd_c_X12_number_4 (a0 : Nat) (a1 : Int32) (a2 : Nat) (a3 : Nat) (a4 : Nat) (a5 : Nat) (a6 : Nat) (a7 : Int32) (a8 : Int32) (a9 : Int32) (a10 : Int32) (a11 : Int32) (a12 : Int32) (a13 : Int32) (a14 : Int32) (a15 : Int32) (a16 : Nat) (a17 : Nat) (a18 : Int32) (a19 : Nat) (a20 : Nat) (a21 : Nat) (a22 : Nat) (a23 : Nat) (a24 : Nat) (a25 : Nat) (a26 : Nat) (a27 : Int32) (a28 : Int32) (a29 : Int32) (a30 : Int32) (a31 : Int32) (a32 : Int32) (a33 : Nat) (a34 : Nat) (a35 : Int32) (a36 : Nat) (a37 : Nat) (a38 : Nat) (a39 : Nat) (a40 : Nat) (a41 : Nat) (a42 : Int32) (a43 : Int64) (a44 : Int32) (a45 : Int32) (a46 : Nat) (a47 : Nat) (a48 : Nat) (a49 : Nat) (a50 : Nat) (a51 : Nat) (a52 : Int32) (a53 : Nat) (a54 : Int32) (a55 : Nat) (a56 : ClassId) (a57 : Nat) (a58 : Nat → Int32) : va_W := [(a0, .inr (12, [.int a1, .ref a2, .ref a3, .ref a4, .ref a5, .ref a6, .int a7, .int a8, .int a9, .int a10, .int a11, .int a12, .int a13, .int a14, .int a15, .ref a16, .ref a17, .int a18, .ref a19, .ref a20, .ref a21, .ref a22, .ref a23, .ref a24, .ref a25, .ref a26, .int a27, .int a28, .int a29, .int a30, .int a31, .int a32, .ref a33, .ref a34, .int a35, .ref a36, .ref a37, .ref a38, .ref a39, .ref a40, .ref a41, .int a42, .long a43, .int a44, .int a45, .ref a46, .ref a47, .ref a48, .ref a49, .ref a50, .ref a51, .int a52, .ref a53, .int a54])), (a55, .inl (a56, a57, .inl a58))]
noncomputable def wf_c_X12_number_4 : List Cond := List.cons (.code yX12_number cX12_number 5 (some .int)) (@HAppend.hAppend (List Cond) (List Cond) (List Cond) _ [.methodLink RX12 153 yX12_look, .instanceMethod yX12_look, .selects RX12 yX12_look yX12_look, .initialized RX12, .code yX12_look cX12_look 1 (some .int), .fieldLink RX12 134 "BuoyVoteModel" "at" "I", .fieldLink RX12 137 "BuoyVoteModel" "ends" "I", .fieldLink RX12 23 "BuoyVoteModel" "text" "[B", .fieldLink RX12 140 "BuoyVoteModel" "begins" "I", .methodLink RX12 183 yX12_isDigit, .instanceMethod yX12_isDigit, .selects RX12 yX12_isDigit yX12_isDigit, .code yX12_isDigit cX12_isDigit 1 (some .boolean), .methodLink RX12 149 yX12_fails, .instanceMethod yX12_fails, .selects RX12 yX12_fails yX12_fails, .code yX12_fails cX12_fails 1 (some .boolean), .fieldLink RX12 143 "BuoyVoteModel" "fault" "I", .methodLink RX12 229 yX12_here, .instanceMethod yX12_here, .selects RX12 yX12_here yX12_here, .code yX12_here cX12_here 1 (some .int), .methodLink RX12 232 yX12_isIn, .static yX12_isIn, .code yX12_isIn cX12_isIn 6 (some .boolean)] wsX120)
theorem iw_c_X12_number_4_X12 : ∀ w ∈ wsX120, w ∈ wf_c_X12_number_4 := fun w h => List.mem_cons_of_mem _ (List.mem_append_right _ h)
set_option maxRecDepth 20000 in
theorem gf_c_X12_number_4_c_X12_isDigit : GoodIn wf_c_X12_number_4 (wsV RX12 183 RX12 yX12_isDigit wf_c_X12_isDigit) := goodIn_app (gi_l [10, 11, 12, 4] rfl rfl) (gi_cons (j := 13) rfl rfl (goodIn_app (gi_l [6, 7, 8, 9] rfl rfl) (goodIn_sub iw_c_X12_number_4_X12 gw_X12)))
set_option maxRecDepth 20000 in
theorem gf_c_X12_number_4_c_X12_isIn_5 : GoodIn wf_c_X12_number_4 (va_wsS RX12 232 yX12_isIn wf_c_X12_isIn_5) := goodIn_app (gi_l [23, 24, 4] rfl rfl) (gi_cons (j := 25) rfl rfl gi_nil)
set_option maxRecDepth 20000 in
theorem gf_c_X12_number_4_c_X12_fails : GoodIn wf_c_X12_number_4 (wsV RX12 149 RX12 yX12_fails wf_c_X12_fails) := goodIn_app (gi_l [14, 15, 16, 4] rfl rfl) (gi_cons (j := 17) rfl rfl (goodIn_app (gi_l [18, 6] rfl rfl) (goodIn_sub iw_c_X12_number_4_X12 gw_X12)))
set_option maxRecDepth 20000 in
theorem gf_c_X12_number_4_c_X12_look : GoodIn wf_c_X12_number_4 (wsV RX12 153 RX12 yX12_look wf_c_X12_look) := goodIn_app (gi_l [1, 2, 3, 4] rfl rfl) (gi_cons (j := 5) rfl rfl (goodIn_app (gi_l [6, 7, 8, 9] rfl rfl) (goodIn_sub iw_c_X12_number_4_X12 gw_X12)))
set_option maxRecDepth 20000 in
theorem gf_c_X12_number_4_c_X12_here : GoodIn wf_c_X12_number_4 (wsV RX12 229 RX12 yX12_here wf_c_X12_here) := goodIn_app (gi_l [19, 20, 21, 4] rfl rfl) (gi_cons (j := 22) rfl rfl (goodIn_app (gi_l [6, 7, 8, 9] rfl rfl) (goodIn_sub iw_c_X12_number_4_X12 gw_X12)))
set_option maxHeartbeats 4000000 in
set_option maxRecDepth 100000 in
theorem c_X12_number_4 (l : Launch) (dC : Nat → ClassId) (dI : Nat → Nat → Nat) (sz : Nat) (h0 : Nat) (h0_f0 : Int32) (h0_1 : Nat) (h0_2 : Nat) (h0_3 : Nat) (h0_4 : Nat) (h0_5 : Nat) (h0_f6 : Int32) (h0_f7 : Int32) (h0_f8 : Int32) (h0_f9 : Int32) (h0_f10 : Int32) (h0_f12 : Int32) (h0_f13 : Int32) (h0_f14 : Int32) (h0_15 : Nat) (h0_16 : Nat) (h0_f17 : Int32) (h0_18 : Nat) (h0_19 : Nat) (h0_20 : Nat) (h0_21 : Nat) (h0_22 : Nat) (h0_23 : Nat) (h0_24 : Nat) (h0_25 : Nat) (h0_f26 : Int32) (h0_f27 : Int32) (h0_f28 : Int32) (h0_f29 : Int32) (h0_f30 : Int32) (h0_f31 : Int32) (h0_32 : Nat) (h0_33 : Nat) (h0_f34 : Int32) (h0_35 : Nat) (h0_36 : Nat) (h0_37 : Nat) (h0_38 : Nat) (h0_39 : Nat) (h0_40 : Nat) (h0_f41 : Int32) (h0_f42 : Int64) (h0_f43 : Int32) (h0_f44 : Int32) (h0_45 : Nat) (h0_46 : Nat) (h0_47 : Nat) (h0_48 : Nat) (h0_49 : Nat) (h0_50 : Nat) (h0_f51 : Int32) (h0_52 : Nat) (h0_f53 : Int32) (h0_5k : ClassId) (h0_5c : Nat → Int32) (tN : Nat) (g_h0_f6 : RG h0_f6 0 240) (g_h0_f7 : RG h0_f7 0 4) (g_h0_f8 : RG h0_f8 0 720) (g_h0_f9 : RG h0_f9 0 240) (g_h0_f10 : RG h0_f10 0 240) (g_h0_f17 : RG h0_f17 0 1) (g_h0_f26 : RG h0_f26 0 8) (g_h0_f27 : RG h0_f27 0 3) (g_h0_f28 : RG h0_f28 0 8) (g_h0_f29 : RG h0_f29 0 3) (g_h0_f30 : RG h0_f30 0 4) (g_h0_f31 : RG h0_f31 0 1) (g_h0_f34 : RG h0_f34 (-1) 3) (g_h0_f41 : RG h0_f41 0 40) (g_h0_f51 : RG h0_f51 0 10) (g_h0_f53 : RG h0_f53 0 1) (htN : h0_f8.toInt + 240 ≤ (tN : Int)) : Met l yX12_number wf_c_X12_number_4 ({ frames := 1, cells := 0, slots := 0, locals := 25 }) (va_Pc [.ref h0, .int 1, .int 20] (fun U => U.heap.size = sz ∧ va_P (dC, dI) vwCl (wd_c_X12_number_4 h0 h0_f0 h0_1 h0_2 h0_3 h0_4 h0_5 h0_f6 h0_f7 h0_f8 h0_f9 h0_f10 (-1) h0_f12 h0_f13 h0_f14 h0_15 h0_16 h0_f17 h0_18 h0_19 h0_20 h0_21 h0_22 h0_23 h0_24 h0_25 h0_f26 h0_f27 h0_f28 h0_f29 h0_f30 h0_f31 h0_32 h0_33 h0_f34 h0_35 h0_36 h0_37 h0_38 h0_39 h0_40 h0_f41 h0_f42 h0_f43 h0_f44 h0_45 h0_46 h0_47 h0_48 h0_49 h0_50 h0_f51 h0_52 h0_f53 h0_5 h0_5k tN h0_5c) U.heap ∧ va_K (dC, dI) vwCl [(h0_5k, .byte)] U ∧ va_D (fun _ => True) (wd_c_X12_number_4 h0 h0_f0 h0_1 h0_2 h0_3 h0_4 h0_5 h0_f6 h0_f7 h0_f8 h0_f9 h0_f10 (-1) h0_f12 h0_f13 h0_f14 h0_15 h0_16 h0_f17 h0_18 h0_19 h0_20 h0_21 h0_22 h0_23 h0_24 h0_25 h0_f26 h0_f27 h0_f28 h0_f29 h0_f30 h0_f31 h0_32 h0_33 h0_f34 h0_35 h0_36 h0_37 h0_38 h0_39 h0_40 h0_f41 h0_f42 h0_f43 h0_f44 h0_45 h0_46 h0_47 h0_48 h0_49 h0_50 h0_f51 h0_52 h0_f53 h0_5 h0_5k tN h0_5c))) (va_Qi (fun (r : Int32) (u : (Int32) × (Int32)) => (RG r 1 20 ∧ RG u.1 1 240 ∧ u.2 = (-1) ∧ RG h0_f9 1 240 ∧ h0_f10.toInt + 1 ≤ (u.1).toInt ∧ (r, u.1, u.2) = fx_c_X12_number_4 h0_f8 h0_f9 h0_f10 h0_5c) ∨ (RG r 0 99 ∧ RG u.1 0 240 ∧ RG u.2 0 240 ∧ (r, u.1, u.2) = fx_c_X12_number_4 h0_f8 h0_f9 h0_f10 h0_5c)) (fun (u : (Int32) × (Int32)) t => va_P (dC, dI) vwCl (wd_c_X12_number_4 h0 h0_f0 h0_1 h0_2 h0_3 h0_4 h0_5 h0_f6 h0_f7 h0_f8 h0_f9 (u.1) (u.2) h0_f12 h0_f13 h0_f14 h0_15 h0_16 h0_f17 h0_18 h0_19 h0_20 h0_21 h0_22 h0_23 h0_24 h0_25 h0_f26 h0_f27 h0_f28 h0_f29 h0_f30 h0_f31 h0_32 h0_33 h0_f34 h0_35 h0_36 h0_37 h0_38 h0_39 h0_40 h0_f41 h0_f42 h0_f43 h0_f44 h0_45 h0_46 h0_47 h0_48 h0_49 h0_50 h0_f51 h0_52 h0_f53 h0_5 h0_5k tN h0_5c) t.heap ∧ va_K (dC, dI) vwCl [] t ∧ va_D (va_A (wd_c_X12_number_4 h0 h0_f0 h0_1 h0_2 h0_3 h0_4 h0_5 h0_f6 h0_f7 h0_f8 h0_f9 h0_f10 (-1) h0_f12 h0_f13 h0_f14 h0_15 h0_16 h0_f17 h0_18 h0_19 h0_20 h0_21 h0_22 h0_23 h0_24 h0_25 h0_f26 h0_f27 h0_f28 h0_f29 h0_f30 h0_f31 h0_32 h0_33 h0_f34 h0_35 h0_36 h0_37 h0_38 h0_39 h0_40 h0_f41 h0_f42 h0_f43 h0_f44 h0_45 h0_46 h0_47 h0_48 h0_49 h0_50 h0_f51 h0_52 h0_f53 h0_5 h0_5k tN h0_5c) sz) (wd_c_X12_number_4 h0 h0_f0 h0_1 h0_2 h0_3 h0_4 h0_5 h0_f6 h0_f7 h0_f8 h0_f9 (u.1) (u.2) h0_f12 h0_f13 h0_f14 h0_15 h0_16 h0_f17 h0_18 h0_19 h0_20 h0_21 h0_22 h0_23 h0_24 h0_25 h0_f26 h0_f27 h0_f28 h0_f29 h0_f30 h0_f31 h0_32 h0_33 h0_f34 h0_35 h0_36 h0_37 h0_38 h0_39 h0_40 h0_f41 h0_f42 h0_f43 h0_f44 h0_45 h0_46 h0_47 h0_48 h0_49 h0_50 h0_f51 h0_52 h0_f53 h0_5 h0_5k tN h0_5c)) (va_A (wd_c_X12_number_4 h0 h0_f0 h0_1 h0_2 h0_3 h0_4 h0_5 h0_f6 h0_f7 h0_f8 h0_f9 h0_f10 (-1) h0_f12 h0_f13 h0_f14 h0_15 h0_16 h0_f17 h0_18 h0_19 h0_20 h0_21 h0_22 h0_23 h0_24 h0_25 h0_f26 h0_f27 h0_f28 h0_f29 h0_f30 h0_f31 h0_32 h0_33 h0_f34 h0_35 h0_36 h0_37 h0_38 h0_39 h0_40 h0_f41 h0_f42 h0_f43 h0_f44 h0_45 h0_46 h0_47 h0_48 h0_49 h0_50 h0_f51 h0_52 h0_f53 h0_5 h0_5k tN h0_5c) sz)) 0 0 (va_A (wd_c_X12_number_4 h0 h0_f0 h0_1 h0_2 h0_3 h0_4 h0_5 h0_f6 h0_f7 h0_f8 h0_f9 h0_f10 (-1) h0_f12 h0_f13 h0_f14 h0_15 h0_16 h0_f17 h0_18 h0_19 h0_20 h0_21 h0_22 h0_23 h0_24 h0_25 h0_f26 h0_f27 h0_f28 h0_f29 h0_f30 h0_f31 h0_32 h0_33 h0_f34 h0_35 h0_36 h0_37 h0_38 h0_39 h0_40 h0_f41 h0_f42 h0_f43 h0_f44 h0_45 h0_46 h0_47 h0_48 h0_49 h0_50 h0_f51 h0_52 h0_f53 h0_5 h0_5k tN h0_5c) sz) := by
  refine Met.ofW (cc := cX12_number) (maxL := 5) (ret := (some .int)) (by decide +kernel) rfl ?_
  intro p e s m args below meth c s₁ B hml hv
  obtain ⟨rfl, hsz, hP, hK, hD0⟩ := hv
  have hx := B.exec
  have hb := B.bytes
  have hr := B.returns
  have hts := atoms_spec (ws := wf_c_X12_number_4) B.pre
  have hown : s.vm.findClass RX12 = some m.cls := findClass_of_methodNamed B.named
  have hlocks := B.notSynchronized
  subst hsz
  have hD := hD0.self (sz := s.heap.size)
  generalize hAe : va_A (wd_c_X12_number_4 h0 h0_f0 h0_1 h0_2 h0_3 h0_4 h0_5 h0_f6 h0_f7 h0_f8 h0_f9 h0_f10 (-1) h0_f12 h0_f13 h0_f14 h0_15 h0_16 h0_f17 h0_18 h0_19 h0_20 h0_21 h0_22 h0_23 h0_24 h0_25 h0_f26 h0_f27 h0_f28 h0_f29 h0_f30 h0_f31 h0_32 h0_33 h0_f34 h0_35 h0_36 h0_37 h0_38 h0_39 h0_40 h0_f41 h0_f42 h0_f43 h0_f44 h0_45 h0_46 h0_47 h0_48 h0_49 h0_50 h0_f51 h0_52 h0_f53 h0_5 h0_5k tN h0_5c) s.heap.size = A at hD ⊢
  have hA : ∀ q : Nat, s.heap.size ≤ q → A q := fun q h => by rw [← hAe]; exact Or.inr h
  have hP : va_P (dC, dI) vwCl (wd_c_X12_number_4 h0 h0_f0 h0_1 h0_2 h0_3 h0_4 h0_5 h0_f6 h0_f7 h0_f8 h0_f9 h0_f10 (-1) h0_f12 h0_f13 h0_f14 h0_15 h0_16 h0_f17 h0_18 h0_19 h0_20 h0_21 h0_22 h0_23 h0_24 h0_25 h0_f26 h0_f27 h0_f28 h0_f29 h0_f30 h0_f31 h0_32 h0_33 h0_f34 h0_35 h0_36 h0_37 h0_38 h0_39 h0_40 h0_f41 h0_f42 h0_f43 h0_f44 h0_45 h0_46 h0_47 h0_48 h0_49 h0_50 h0_f51 h0_52 h0_f53 h0_5 h0_5k tN h0_5c) s.heap := hP
  have hl := lv_entry ([.ref h0, .int 1, .int 20]) (n := 5) (Nat.le_of_ble_eq_true rfl)
  rw [lg_entry_eq]
  generalize (lg_sl ([.ref h0, .int 1, .int 20]) ++ List.replicate (5 - (lg_sl ([.ref h0, .int 1, .int 20])).length) Slot.unset).toArray = ls at hl ⊢
  have hl : lv_has ls 5 [(0, .ref h0), (1, .int 1), (2, .int 20)] := hl
  obtain ⟨H, hHe⟩ : ∃ H : Heap, s.heap = H := ⟨_, rfl⟩
  have hS : va_S A s.heap H [] := by rw [hHe]; exact va_S.rf
  have hP : va_P (dC, dI) vwCl (wd_c_X12_number_4 h0 h0_f0 h0_1 h0_2 h0_3 h0_4 h0_5 h0_f6 h0_f7 h0_f8 h0_f9 h0_f10 (-1) h0_f12 h0_f13 h0_f14 h0_15 h0_16 h0_f17 h0_18 h0_19 h0_20 h0_21 h0_22 h0_23 h0_24 h0_25 h0_f26 h0_f27 h0_f28 h0_f29 h0_f30 h0_f31 h0_32 h0_33 h0_f34 h0_35 h0_36 h0_37 h0_38 h0_39 h0_40 h0_f41 h0_f42 h0_f43 h0_f44 h0_45 h0_46 h0_47 h0_48 h0_49 h0_50 h0_f51 h0_52 h0_f53 h0_5 h0_5k tN h0_5c) H := by rw [← hHe]; exact hP
  rw [hHe]
  obtain ⟨RES, hR⟩ : ∃ z, fx_c_X12_number_4 h0_f8 h0_f9 h0_f10 h0_5c = z := ⟨_, rfl⟩
  have hEX : RES = fx_c_X12_number_4 h0_f8 h0_f9 h0_f10 h0_5c := hR.symm
  refine wj (fun G hG hU => ?_)
  as_aux_lemma =>
  have J67 : ∀ (j67_l4 : Int32) (j67_h0_f10 : Int32) (g_h0_f10 : RG h0_f10 0 240) (g_h0_f17 : RG h0_f17 0 1) (g_h0_f26 : RG h0_f26 0 8) (g_h0_f27 : RG h0_f27 0 3) (g_h0_f28 : RG h0_f28 0 8) (g_h0_f29 : RG h0_f29 0 3) (g_h0_f30 : RG h0_f30 0 4) (g_h0_f31 : RG h0_f31 0 1) (g_h0_f34 : RG h0_f34 (-1) 3) (g_h0_f41 : RG h0_f41 0 40) (g_h0_f51 : RG h0_f51 0 10) (g_h0_f53 : RG h0_f53 0 1) (g_h0_f6 : RG h0_f6 0 240) (g_h0_f7 : RG h0_f7 0 4) (g_h0_f8 : RG h0_f8 0 720) (g_h0_f9 : RG h0_f9 1 240) (g_j67_h0_f10 : RG j67_h0_f10 1 240) (g_j67_l4 : RG j67_l4 0 99) (r_h0_f10_j67_h0_f10 : h0_f10.toInt + 1 ≤ j67_h0_f10.toInt) (hEX : RES = fx_c_X12_number_4_p67 h0_f8 h0_f9 h0_5c j67_l4 j67_h0_f10) (H : Heap) (locs : List Loc) (ls : Array Slot) (hP : va_P (dC, dI) vwCl (wd_c_X12_number_4 h0 h0_f0 h0_1 h0_2 h0_3 h0_4 h0_5 h0_f6 h0_f7 h0_f8 h0_f9 j67_h0_f10 (-1) h0_f12 h0_f13 h0_f14 h0_15 h0_16 h0_f17 h0_18 h0_19 h0_20 h0_21 h0_22 h0_23 h0_24 h0_25 h0_f26 h0_f27 h0_f28 h0_f29 h0_f30 h0_f31 h0_32 h0_33 h0_f34 h0_35 h0_36 h0_37 h0_38 h0_39 h0_40 h0_f41 h0_f42 h0_f43 h0_f44 h0_45 h0_46 h0_47 h0_48 h0_49 h0_50 h0_f51 h0_52 h0_f53 h0_5 h0_5k tN h0_5c) H) (hD : va_D A (wd_c_X12_number_4 h0 h0_f0 h0_1 h0_2 h0_3 h0_4 h0_5 h0_f6 h0_f7 h0_f8 h0_f9 j67_h0_f10 (-1) h0_f12 h0_f13 h0_f14 h0_15 h0_16 h0_f17 h0_18 h0_19 h0_20 h0_21 h0_22 h0_23 h0_24 h0_25 h0_f26 h0_f27 h0_f28 h0_f29 h0_f30 h0_f31 h0_32 h0_33 h0_f34 h0_35 h0_36 h0_37 h0_38 h0_39 h0_40 h0_f41 h0_f42 h0_f43 h0_f44 h0_45 h0_46 h0_47 h0_48 h0_49 h0_50 h0_f51 h0_52 h0_f53 h0_5 h0_5k tN h0_5c)) (hS : va_S A s.heap H locs) (hl : lv_has ls 5 [(4, .int j67_l4), (0, .ref h0), (1, .int 1), (2, .int 20)]), G H locs (F0 m 67 ls []) := by
    as_aux_lemma =>
    intro j67_l4 j67_h0_f10 g_h0_f10 g_h0_f17 g_h0_f26 g_h0_f27 g_h0_f28 g_h0_f29 g_h0_f30 g_h0_f31 g_h0_f34 g_h0_f41 g_h0_f51 g_h0_f53 g_h0_f6 g_h0_f7 g_h0_f8 g_h0_f9 g_j67_h0_f10 g_j67_l4 r_h0_f10_j67_h0_f10 hEX H locs ls hP hD hS hl
    refine hG _ _ _ ?_
    refine lv_aload_n hx hb dX12_number_67 rfl (lv_at hl 1 rfl) ?_
    obtain ⟨hPc, hDc, hFc, hqc⟩ := cl_cut (wc := (wd_c_X12_isDigit h0 h0_f0 h0_1 h0_2 h0_3 h0_4 h0_5 h0_f6 h0_f7 h0_f8 h0_f9 j67_h0_f10 (-1) h0_f12 h0_f13 h0_f14 h0_15 h0_16 h0_f17 h0_18 h0_19 h0_20 h0_21 h0_22 h0_23 h0_24 h0_25 h0_f26 h0_f27 h0_f28 h0_f29 h0_f30 h0_f31 h0_32 h0_33 h0_f34 h0_35 h0_36 h0_37 h0_38 h0_39 h0_40 h0_f41 h0_f42 h0_f43 h0_f44 h0_45 h0_46 h0_47 h0_48 h0_49 h0_50 h0_f51 h0_52 h0_f53 h0_5 h0_5k tN h0_5c)) hP hD hS hA [0, 1] (by decide +kernel) rfl
    have hKc := hK.sub (tys' := [(h0_5k, .byte)]) [0] rfl
    have hrv := va_recv hKc hPc (ci := 12) (q0 := 0) rfl rfl
    refine va_calli (va_runV (As := []) (rest := []) ⟨hx, hb, hml, hown, hts⟩ (c_X12_isDigit l dC dI H.size h0 h0_f0 h0_1 h0_2 h0_3 h0_4 h0_5 h0_f6 h0_f7 h0_f8 h0_f9 j67_h0_f10 h0_f12 h0_f13 h0_f14 h0_15 h0_16 h0_f17 h0_18 h0_19 h0_20 h0_21 h0_22 h0_23 h0_24 h0_25 h0_f26 h0_f27 h0_f28 h0_f29 h0_f30 h0_f31 h0_32 h0_33 h0_f34 h0_35 h0_36 h0_37 h0_38 h0_39 h0_40 h0_f41 h0_f42 h0_f43 h0_f44 h0_45 h0_46 h0_47 h0_48 h0_49 h0_50 h0_f51 h0_52 h0_f53 h0_5k h0_5c tN g_h0_f6 g_h0_f7 g_h0_f8 (RG_w g_h0_f9 (by decide +kernel)) (RG_w g_j67_h0_f10 (by decide +kernel)) g_h0_f17 g_h0_f26 g_h0_f27 g_h0_f28 g_h0_f29 g_h0_f30 g_h0_f31 g_h0_f34 g_h0_f41 g_h0_f51 g_h0_f53 htN) (cwV 0 hts gf_c_X12_number_4_c_X12_isDigit rfl rfl rfl mdV_X12_isDigit ⟨Nat.le_of_ble_eq_true rfl, Nat.le_of_ble_eq_true rfl⟩) ⟨fun a U g mk q => by obtain ⟨q0, q1, qP, qK, qD⟩ := q; exact ⟨q0, q1, qP, va_K.moved (u := U) (U := U.calling g mk a) (Vm.Alike.refl U.vm) qK, qD⟩, hrv, fun U hU hW => ⟨rfl, by rw [hU], by rw [hU]; exact hPc, va_K.moved hW.alike hKc, hDc.weaken (fun _ _ _ _ => trivial)⟩⟩ rfl rfl hl.1 rfl (lv_room (Nat.le_of_ble_eq_true rfl)) dX12_number_68 ⟨Nat.le_of_ble_eq_true rfl, Nat.le_of_ble_eq_true rfl⟩) hS (fun q _ h => hFc q h) hFc (fun r_1 u t H1 locs ht hvm hw hB hz1 hk1 hS => ?_)
    obtain ⟨hP1, hK1, hD1⟩ := hB
    rw [ht] at hP1
    obtain ⟨hP, hD⟩ := cl_put (w1 := (wd_c_X12_isDigit h0 h0_f0 h0_1 h0_2 h0_3 h0_4 h0_5 h0_f6 h0_f7 h0_f8 h0_f9 j67_h0_f10 (-1) h0_f12 h0_f13 h0_f14 h0_15 h0_16 h0_f17 h0_18 h0_19 h0_20 h0_21 h0_22 h0_23 h0_24 h0_25 h0_f26 h0_f27 h0_f28 h0_f29 h0_f30 h0_f31 h0_32 h0_33 h0_f34 h0_35 h0_36 h0_37 h0_38 h0_39 h0_40 h0_f41 h0_f42 h0_f43 h0_f44 h0_45 h0_46 h0_47 h0_48 h0_49 h0_50 h0_f51 h0_52 h0_f53 h0_5 h0_5k tN h0_5c)) (nw := (wd_c_X12_number_4 h0 h0_f0 h0_1 h0_2 h0_3 h0_4 h0_5 h0_f6 h0_f7 h0_f8 h0_f9 j67_h0_f10 (-1) h0_f12 h0_f13 h0_f14 h0_15 h0_16 h0_f17 h0_18 h0_19 h0_20 h0_21 h0_22 h0_23 h0_24 h0_25 h0_f26 h0_f27 h0_f28 h0_f29 h0_f30 h0_f31 h0_32 h0_33 h0_f34 h0_35 h0_36 h0_37 h0_38 h0_39 h0_40 h0_f41 h0_f42 h0_f43 h0_f44 h0_45 h0_46 h0_47 h0_48 h0_49 h0_50 h0_f51 h0_52 h0_f53 h0_5 h0_5k tN h0_5c)) hP hD [0, 1] [2, 3] 2 rfl hqc (by decide +kernel) rfl hk1 hFc hP1 hD1
    generalize H1 = H at hP hS ⊢
    as_aux_lemma =>
    rcases hw with ⟨h_2, h_3, h_4⟩ | ⟨h_5, h_6, h_7, h_8, h_9, h_10⟩
    · have h_4 : r_1 = _ := h_4
      replace hEX := hEX.trans (exc1_eq h_4)
      replace hEX := hEX.trans (if_pos (show r_1 = 0 from h_2))
      rw [h_2]
      refine lv_if_eq (tgt := 81) hx hb dX12_number_71 rfl (fun c_11 => ?_) (fun c_11 => absurd c_11 (by decide +kernel))
      refine lv_iload hx hb dX12_number_81 (lv_at hl 0 rfl) ?_
      refine lv_i2l (v := j67_l4.toInt64) hx hb dX12_number_83 rfl ?_
      refine lv_topl (fun x_12 ex_12 => ?_)
      replace hEX := hEX.trans (exl_eq ex_12)
      have g_13 : LG x_12 0 99 := LG_i2l ex_12 g_j67_l4
      refine lv_iload_n hx hb dX12_number_84 rfl (lv_at hl 2 rfl) ?_
      refine lv_i2l (v := 1) hx hb dX12_number_85 (by decide +kernel) ?_
      refine lv_iload_n hx hb dX12_number_86 rfl (lv_at hl 3 rfl) ?_
      as_aux_lemma =>
      refine lv_i2l (v := 20) hx hb dX12_number_87 (by decide +kernel) ?_
      obtain ⟨hPc, hDc, hFc, hqc⟩ := cl_cut (wc := []) hP hD hS hA [] (by decide +kernel) rfl
      have hKc := hK.sub (tys' := []) [] rfl
      refine va_calli (va_runS (As := [.long x_12, .long 1, .long 20]) (rest := []) ⟨hx, hb, hml, hown, hts⟩ (c_X12_isIn_5 l dC dI H.size x_12 g_13) (va_cwS 3 hts gf_c_X12_number_4_c_X12_isIn_5 rfl rfl rfl md_X12_isIn ⟨Nat.le_of_ble_eq_true rfl, Nat.le_of_ble_eq_true rfl⟩) ⟨fun a U g mk q => by obtain ⟨q0, q1, qP, qK, qD⟩ := q; exact ⟨q0, q1, qP, va_K.moved (u := U) (U := U.calling g mk a) (Vm.Alike.refl U.vm) qK, qD⟩, fun U hU hW => ⟨rfl, by rw [hU], by rw [hU]; exact hPc, va_K.moved hW.alike hKc, hDc.weaken (fun _ _ _ _ => trivial)⟩⟩ rfl rfl hl.1 rfl (lv_room (Nat.le_of_ble_eq_true rfl)) dX12_number_88 ⟨Nat.le_of_ble_eq_true rfl, Nat.le_of_ble_eq_true rfl⟩) hS (fun q _ h => hFc q h) hFc (fun r_14 u t H1 locs ht hvm hw hB hz1 hk1 hS => ?_)
      obtain ⟨hP1, hK1, hD1⟩ := hB
      rw [ht] at hP1
      have hP := bv_still hP hk1
      generalize H1 = H at hP hS ⊢
      as_aux_lemma =>
      rcases hw with ⟨h_15, h_16⟩ | ⟨h_17, h_18, h_19⟩
      · have h_16 : r_14 = _ := h_16
        replace hEX := hEX.trans (exc1_eq h_16)
        replace hEX := hEX.trans (if_pos (show r_14 = 0 from h_15))
        rw [h_15]
        refine lv_if_ne (tgt := 109) hx hb dX12_number_91 rfl (fun c_20 => absurd c_20 (by decide +kernel)) (fun c_20 => ?_)
        refine lv_aload_n hx hb dX12_number_94 rfl (lv_at hl 1 rfl) ?_
        refine lv_dup hx hb dX12_number_95 rfl ?_
        refine va_get (D := (dC, dI)) (ci := 12) (v := .int j67_h0_f10) (C := RX12) (T := TX12) (N := 54) hx hb hts iw_c_X12_number_4_X12 hown hK hP 0 rfl rfl 10 (by decide +kernel) (hts (.fieldLink RX12 134 "BuoyVoteModel" "at" "I") (List.mem_of_getElem? (i := 6) rfl)) (fun _ h9 => h9) rfl dX12_number_96 ?_
        refine lv_iconst (v := 1) hx hb dX12_number_99 kc_iconst_1 ?_
        refine lv_isub hx hb dX12_number_100 ?_
        refine lv_topi (fun x_21 ex_21 => ?_)
        replace hEX := hEX.trans (exl_eq ex_21)
        have g_22 : RG x_21 0 239 := RG_sub ex_21 g_j67_h0_f10 (RG_k 1 1 rfl) (by decide +kernel)
        refine va_put (D := (dC, dI)) (ci := 12) (v := .int x_21) (ty := .int) (C := RX12) (T := TX12) (N := 54) hx hb hts iw_c_X12_number_4_X12 tyX12 tyX12_ok nmX12 hown hK hP hD hS 0 rfl rfl 10 (by decide +kernel) (hts (.fieldLink RX12 134 "BuoyVoteModel" "at" "I") (List.mem_of_getElem? (i := 6) rfl)) (fun _ h9 => h9) rfl (by decide +kernel) rfl rfl (Nat.le_of_ble_eq_true rfl) dX12_number_101 (fun H locs hP hD hS => ?_)
        as_aux_lemma =>
        have hP : va_P (dC, dI) vwCl (wd_c_X12_number_4 h0 h0_f0 h0_1 h0_2 h0_3 h0_4 h0_5 h0_f6 h0_f7 h0_f8 h0_f9 x_21 (-1) h0_f12 h0_f13 h0_f14 h0_15 h0_16 h0_f17 h0_18 h0_19 h0_20 h0_21 h0_22 h0_23 h0_24 h0_25 h0_f26 h0_f27 h0_f28 h0_f29 h0_f30 h0_f31 h0_32 h0_33 h0_f34 h0_35 h0_36 h0_37 h0_38 h0_39 h0_40 h0_f41 h0_f42 h0_f43 h0_f44 h0_45 h0_46 h0_47 h0_48 h0_49 h0_50 h0_f51 h0_52 h0_f53 h0_5 h0_5k tN h0_5c) H := hP
        have hD : va_D A (wd_c_X12_number_4 h0 h0_f0 h0_1 h0_2 h0_3 h0_4 h0_5 h0_f6 h0_f7 h0_f8 h0_f9 x_21 (-1) h0_f12 h0_f13 h0_f14 h0_15 h0_16 h0_f17 h0_18 h0_19 h0_20 h0_21 h0_22 h0_23 h0_24 h0_25 h0_f26 h0_f27 h0_f28 h0_f29 h0_f30 h0_f31 h0_32 h0_33 h0_f34 h0_35 h0_36 h0_37 h0_38 h0_39 h0_40 h0_f41 h0_f42 h0_f43 h0_f44 h0_45 h0_46 h0_47 h0_48 h0_49 h0_50 h0_f51 h0_52 h0_f53 h0_5 h0_5k tN h0_5c) := hD
        refine lv_aload_n hx hb dX12_number_104 rfl (lv_at hl 1 rfl) ?_
        obtain ⟨hPc, hDc, hFc, hqc⟩ := cl_cut (wc := (wd_c_X12_fails h0 h0_f0 h0_1 h0_2 h0_3 h0_4 h0_5 h0_f6 h0_f7 h0_f8 h0_f9 x_21 (-1) h0_f12 h0_f13 h0_f14 h0_15 h0_16 h0_f17 h0_18 h0_19 h0_20 h0_21 h0_22 h0_23 h0_24 h0_25 h0_f26 h0_f27 h0_f28 h0_f29 h0_f30 h0_f31 h0_32 h0_33 h0_f34 h0_35 h0_36 h0_37 h0_38 h0_39 h0_40 h0_f41 h0_f42 h0_f43 h0_f44 h0_45 h0_46 h0_47 h0_48 h0_49 h0_50 h0_f51 h0_52 h0_f53)) hP hD hS hA [0] (by decide +kernel) rfl
        have hKc := hK.sub (tys' := []) [] rfl
        have hrv := va_recv hKc hPc (ci := 12) (q0 := 0) rfl rfl
        refine va_calli (va_runV (As := []) (rest := []) ⟨hx, hb, hml, hown, hts⟩ (c_X12_fails l dC dI H.size h0 h0_f0 h0_1 h0_2 h0_3 h0_4 h0_5 h0_f6 h0_f7 h0_f8 h0_f9 x_21 h0_f12 h0_f13 h0_f14 h0_15 h0_16 h0_f17 h0_18 h0_19 h0_20 h0_21 h0_22 h0_23 h0_24 h0_25 h0_f26 h0_f27 h0_f28 h0_f29 h0_f30 h0_f31 h0_32 h0_33 h0_f34 h0_35 h0_36 h0_37 h0_38 h0_39 h0_40 h0_f41 h0_f42 h0_f43 h0_f44 h0_45 h0_46 h0_47 h0_48 h0_49 h0_50 h0_f51 h0_52 h0_f53 g_h0_f6 g_h0_f7 g_h0_f8 (RG_w g_h0_f9 (by decide +kernel)) (RG_w g_22 (by decide +kernel)) g_h0_f17 g_h0_f26 g_h0_f27 g_h0_f28 g_h0_f29 g_h0_f30 g_h0_f31 g_h0_f34 g_h0_f41 g_h0_f51 g_h0_f53) (cwV 0 hts gf_c_X12_number_4_c_X12_fails rfl rfl rfl mdV_X12_fails ⟨Nat.le_of_ble_eq_true rfl, Nat.le_of_ble_eq_true rfl⟩) ⟨fun a U g mk q => by obtain ⟨q0, q1, qP, qK, qD⟩ := q; exact ⟨q0, q1, qP, va_K.moved (u := U) (U := U.calling g mk a) (Vm.Alike.refl U.vm) qK, qD⟩, hrv, fun U hU hW => ⟨rfl, by rw [hU], by rw [hU]; exact hPc, va_K.moved hW.alike hKc, hDc.weaken (fun _ _ _ _ => trivial)⟩⟩ rfl rfl hl.1 rfl (lv_room (Nat.le_of_ble_eq_true rfl)) dX12_number_105 ⟨Nat.le_of_ble_eq_true rfl, Nat.le_of_ble_eq_true rfl⟩) hS (fun q _ h => hFc q h) hFc (fun r_23 u t H1 locs ht hvm hw hB hz1 hk1 hS => ?_)
        obtain ⟨hP1, hK1, hD1⟩ := hB
        rw [ht] at hP1
        obtain ⟨hP, hD⟩ := cl_put (w1 := (wd_c_X12_fails h0 h0_f0 h0_1 h0_2 h0_3 h0_4 h0_5 h0_f6 h0_f7 h0_f8 h0_f9 x_21 x_21 h0_f12 h0_f13 h0_f14 h0_15 h0_16 h0_f17 h0_18 h0_19 h0_20 h0_21 h0_22 h0_23 h0_24 h0_25 h0_f26 h0_f27 h0_f28 h0_f29 h0_f30 h0_f31 h0_32 h0_33 h0_f34 h0_35 h0_36 h0_37 h0_38 h0_39 h0_40 h0_f41 h0_f42 h0_f43 h0_f44 h0_45 h0_46 h0_47 h0_48 h0_49 h0_50 h0_f51 h0_52 h0_f53)) (nw := (wd_c_X12_number_4 h0 h0_f0 h0_1 h0_2 h0_3 h0_4 h0_5 h0_f6 h0_f7 h0_f8 h0_f9 x_21 x_21 h0_f12 h0_f13 h0_f14 h0_15 h0_16 h0_f17 h0_18 h0_19 h0_20 h0_21 h0_22 h0_23 h0_24 h0_25 h0_f26 h0_f27 h0_f28 h0_f29 h0_f30 h0_f31 h0_32 h0_33 h0_f34 h0_35 h0_36 h0_37 h0_38 h0_39 h0_40 h0_f41 h0_f42 h0_f43 h0_f44 h0_45 h0_46 h0_47 h0_48 h0_49 h0_50 h0_f51 h0_52 h0_f53 h0_5 h0_5k tN h0_5c)) hP hD [0] [2, 1] 2 rfl hqc (by decide +kernel) rfl hk1 hFc hP1 hD1
        generalize H1 = H at hP hS ⊢
        as_aux_lemma =>
        rcases hw with ⟨h_24, h_25⟩
        have h_25 : r_23 = _ := h_25
        replace hEX := hEX.trans (exc1_eq h_25)
        rw [h_24]
        refine lv_pop hx hb dX12_number_108 rfl ?_
        refine lv_iload hx hb dX12_number_109 (lv_at hl 0 rfl) ?_
        have hK9 := hK.sub (tys' := []) [] rfl
        exact W.iret (v := j67_l4) hx hb hr (fun t ht hW => ⟨⟨j67_l4, (x_21, x_21), rfl, (Or.inr ⟨g_j67_l4, (RG_w g_22 (by decide +kernel)), (RG_w g_22 (by decide +kernel)), (hR.trans hEX).symm⟩), by rw [ht]; exact hP, va_K.moved hW.alike hK9, hD⟩, hS.F ht⟩) hS.2.2 dX12_number_111
      · have h_19 : r_14 = _ := h_19
        replace hEX := hEX.trans (exc1_eq h_19)
        replace hEX := hEX.trans (if_neg (fun q9 : r_14 = 0 => absurd ((show r_14 = 1 from h_17).symm.trans q9) (by decide +kernel)))
        rw [h_17]
        have g_26 : RG j67_l4 1 20 := RG_of_LG g_j67_l4 h_18 ex_12 (by decide +kernel)
        refine lv_if_ne (tgt := 109) hx hb dX12_number_91 rfl (fun c_27 => ?_) (fun c_27 => absurd c_27 (by decide +kernel))
        refine lv_iload hx hb dX12_number_109 (lv_at hl 0 rfl) ?_
        as_aux_lemma =>
        have hK9 := hK.sub (tys' := []) [] rfl
        exact W.iret (v := j67_l4) hx hb hr (fun t ht hW => ⟨⟨j67_l4, (j67_h0_f10, (-1)), rfl, (Or.inl ⟨g_26, g_j67_h0_f10, rfl, g_h0_f9, (by have := r_h0_f10_j67_h0_f10; show h0_f10.toInt + 1 ≤ j67_h0_f10.toInt; omega), (hR.trans hEX).symm⟩), by rw [ht]; exact hP, va_K.moved hW.alike hK9, hD⟩, hS.F ht⟩) hS.2.2 dX12_number_111
    · have h_10 : r_1 = _ := h_10
      replace hEX := hEX.trans (exc1_eq h_10)
      replace hEX := hEX.trans (if_neg (fun q9 : r_1 = 0 => absurd ((show r_1 = 1 from h_5).symm.trans q9) (by decide +kernel)))
      rw [h_5]
      have g_28 : RG j67_h0_f10 1 239 := RG_eq1 g_j67_h0_f10 h_6 rfl (by decide +kernel)
      have g_29 := h_9 h_5
      refine lv_if_eq (tgt := 81) hx hb dX12_number_71 rfl (fun c_30 => absurd c_30 (by decide +kernel)) (fun c_30 => ?_)
      refine lv_aload_n hx hb dX12_number_74 rfl (lv_at hl 1 rfl) ?_
      obtain ⟨hPc, hDc, hFc, hqc⟩ := cl_cut (wc := (wd_c_X12_fails h0 h0_f0 h0_1 h0_2 h0_3 h0_4 h0_5 h0_f6 h0_f7 h0_f8 h0_f9 j67_h0_f10 (-1) h0_f12 h0_f13 h0_f14 h0_15 h0_16 h0_f17 h0_18 h0_19 h0_20 h0_21 h0_22 h0_23 h0_24 h0_25 h0_f26 h0_f27 h0_f28 h0_f29 h0_f30 h0_f31 h0_32 h0_33 h0_f34 h0_35 h0_36 h0_37 h0_38 h0_39 h0_40 h0_f41 h0_f42 h0_f43 h0_f44 h0_45 h0_46 h0_47 h0_48 h0_49 h0_50 h0_f51 h0_52 h0_f53)) hP hD hS hA [0] (by decide +kernel) rfl
      have hKc := hK.sub (tys' := []) [] rfl
      have hrv := va_recv hKc hPc (ci := 12) (q0 := 0) rfl rfl
      refine va_calli (va_runV (As := []) (rest := []) ⟨hx, hb, hml, hown, hts⟩ (c_X12_fails l dC dI H.size h0 h0_f0 h0_1 h0_2 h0_3 h0_4 h0_5 h0_f6 h0_f7 h0_f8 h0_f9 j67_h0_f10 h0_f12 h0_f13 h0_f14 h0_15 h0_16 h0_f17 h0_18 h0_19 h0_20 h0_21 h0_22 h0_23 h0_24 h0_25 h0_f26 h0_f27 h0_f28 h0_f29 h0_f30 h0_f31 h0_32 h0_33 h0_f34 h0_35 h0_36 h0_37 h0_38 h0_39 h0_40 h0_f41 h0_f42 h0_f43 h0_f44 h0_45 h0_46 h0_47 h0_48 h0_49 h0_50 h0_f51 h0_52 h0_f53 g_h0_f6 g_h0_f7 g_h0_f8 (RG_w g_h0_f9 (by decide +kernel)) (RG_w g_28 (by decide +kernel)) g_h0_f17 g_h0_f26 g_h0_f27 g_h0_f28 g_h0_f29 g_h0_f30 g_h0_f31 g_h0_f34 g_h0_f41 g_h0_f51 g_h0_f53) (cwV 0 hts gf_c_X12_number_4_c_X12_fails rfl rfl rfl mdV_X12_fails ⟨Nat.le_of_ble_eq_true rfl, Nat.le_of_ble_eq_true rfl⟩) ⟨fun a U g mk q => by obtain ⟨q0, q1, qP, qK, qD⟩ := q; exact ⟨q0, q1, qP, va_K.moved (u := U) (U := U.calling g mk a) (Vm.Alike.refl U.vm) qK, qD⟩, hrv, fun U hU hW => ⟨rfl, by rw [hU], by rw [hU]; exact hPc, va_K.moved hW.alike hKc, hDc.weaken (fun _ _ _ _ => trivial)⟩⟩ rfl rfl hl.1 rfl (lv_room (Nat.le_of_ble_eq_true rfl)) dX12_number_75 ⟨Nat.le_of_ble_eq_true rfl, Nat.le_of_ble_eq_true rfl⟩) hS (fun q _ h => hFc q h) hFc (fun r_31 u t H1 locs ht hvm hw hB hz1 hk1 hS => ?_)
      as_aux_lemma =>
      obtain ⟨hP1, hK1, hD1⟩ := hB
      rw [ht] at hP1
      obtain ⟨hP, hD⟩ := cl_put (w1 := (wd_c_X12_fails h0 h0_f0 h0_1 h0_2 h0_3 h0_4 h0_5 h0_f6 h0_f7 h0_f8 h0_f9 j67_h0_f10 j67_h0_f10 h0_f12 h0_f13 h0_f14 h0_15 h0_16 h0_f17 h0_18 h0_19 h0_20 h0_21 h0_22 h0_23 h0_24 h0_25 h0_f26 h0_f27 h0_f28 h0_f29 h0_f30 h0_f31 h0_32 h0_33 h0_f34 h0_35 h0_36 h0_37 h0_38 h0_39 h0_40 h0_f41 h0_f42 h0_f43 h0_f44 h0_45 h0_46 h0_47 h0_48 h0_49 h0_50 h0_f51 h0_52 h0_f53)) (nw := (wd_c_X12_number_4 h0 h0_f0 h0_1 h0_2 h0_3 h0_4 h0_5 h0_f6 h0_f7 h0_f8 h0_f9 j67_h0_f10 j67_h0_f10 h0_f12 h0_f13 h0_f14 h0_15 h0_16 h0_f17 h0_18 h0_19 h0_20 h0_21 h0_22 h0_23 h0_24 h0_25 h0_f26 h0_f27 h0_f28 h0_f29 h0_f30 h0_f31 h0_32 h0_33 h0_f34 h0_35 h0_36 h0_37 h0_38 h0_39 h0_40 h0_f41 h0_f42 h0_f43 h0_f44 h0_45 h0_46 h0_47 h0_48 h0_49 h0_50 h0_f51 h0_52 h0_f53 h0_5 h0_5k tN h0_5c)) hP hD [0] [2, 1] 2 rfl hqc (by decide +kernel) rfl hk1 hFc hP1 hD1
      generalize H1 = H at hP hS ⊢
      as_aux_lemma =>
      rcases hw with ⟨h_32, h_33⟩
      have h_33 : r_31 = _ := h_33
      replace hEX := hEX.trans (exc1_eq h_33)
      rw [h_32]
      refine lv_pop hx hb dX12_number_78 rfl ?_
      refine lv_iconst (v := 0) hx hb dX12_number_79 kc_iconst_0 ?_
      have hK9 := hK.sub (tys' := []) [] rfl
      exact W.iret (v := 0) hx hb hr (fun t ht hW => ⟨⟨0, (j67_h0_f10, j67_h0_f10), rfl, (Or.inr ⟨(RG_w (RG_k 0 0 rfl) (by decide +kernel)), (RG_w g_28 (by decide +kernel)), (RG_w g_28 (by decide +kernel)), (hR.trans hEX).symm⟩), by rw [ht]; exact hP, va_K.moved hW.alike hK9, hD⟩, hS.F ht⟩) hS.2.2 dX12_number_80
  refine hG _ _ _ ?_
  refine lv_aload_n hx hb dX12_number_0 rfl (lv_at hl 0 rfl) ?_
  obtain ⟨hPc, hDc, hFc, hqc⟩ := cl_cut (wc := (wd_c_X12_look h0 h0_f0 h0_1 h0_2 h0_3 h0_4 h0_5 h0_f6 h0_f7 h0_f8 h0_f9 h0_f10 (-1) h0_f12 h0_f13 h0_f14 h0_15 h0_16 h0_f17 h0_18 h0_19 h0_20 h0_21 h0_22 h0_23 h0_24 h0_25 h0_f26 h0_f27 h0_f28 h0_f29 h0_f30 h0_f31 h0_32 h0_33 h0_f34 h0_35 h0_36 h0_37 h0_38 h0_39 h0_40 h0_f41 h0_f42 h0_f43 h0_f44 h0_45 h0_46 h0_47 h0_48 h0_49 h0_50 h0_f51 h0_52 h0_f53 h0_5 h0_5k tN h0_5c)) hP hD hS hA [0, 1] (by decide +kernel) rfl
  have hKc := hK.sub (tys' := [(h0_5k, .byte)]) [0] rfl
  have hrv := va_recv hKc hPc (ci := 12) (q0 := 0) rfl rfl
  refine va_calli (va_runV (As := []) (rest := []) ⟨hx, hb, hml, hown, hts⟩ (c_X12_look l dC dI H.size h0 h0_f0 h0_1 h0_2 h0_3 h0_4 h0_5 h0_f6 h0_f7 h0_f8 h0_f9 h0_f10 h0_f12 h0_f13 h0_f14 h0_15 h0_16 h0_f17 h0_18 h0_19 h0_20 h0_21 h0_22 h0_23 h0_24 h0_25 h0_f26 h0_f27 h0_f28 h0_f29 h0_f30 h0_f31 h0_32 h0_33 h0_f34 h0_35 h0_36 h0_37 h0_38 h0_39 h0_40 h0_f41 h0_f42 h0_f43 h0_f44 h0_45 h0_46 h0_47 h0_48 h0_49 h0_50 h0_f51 h0_52 h0_f53 h0_5k h0_5c tN g_h0_f6 g_h0_f7 g_h0_f8 g_h0_f9 g_h0_f10 g_h0_f17 g_h0_f26 g_h0_f27 g_h0_f28 g_h0_f29 g_h0_f30 g_h0_f31 g_h0_f34 g_h0_f41 g_h0_f51 g_h0_f53 htN) (cwV 0 hts gf_c_X12_number_4_c_X12_look rfl rfl rfl mdV_X12_look ⟨Nat.le_of_ble_eq_true rfl, Nat.le_of_ble_eq_true rfl⟩) ⟨fun a U g mk q => by obtain ⟨q0, q1, qP, qK, qD⟩ := q; exact ⟨q0, q1, qP, va_K.moved (u := U) (U := U.calling g mk a) (Vm.Alike.refl U.vm) qK, qD⟩, hrv, fun U hU hW => ⟨rfl, by rw [hU], by rw [hU]; exact hPc, va_K.moved hW.alike hKc, hDc.weaken (fun _ _ _ _ => trivial)⟩⟩ rfl rfl hl.1 rfl (lv_room (Nat.le_of_ble_eq_true rfl)) dX12_number_1 ⟨Nat.le_of_ble_eq_true rfl, Nat.le_of_ble_eq_true rfl⟩) hS (fun q _ h => hFc q h) hFc (fun r_34 x_35 t H1 locs ht hvm hw hB hz1 hk1 hS => ?_)
  as_aux_lemma =>
  obtain ⟨hP1, hK1, hD1⟩ := hB
  rw [ht] at hP1
  obtain ⟨hP, hD⟩ := cl_put (w1 := (wd_c_X12_look h0 h0_f0 h0_1 h0_2 h0_3 h0_4 h0_5 h0_f6 h0_f7 h0_f8 h0_f9 x_35 (-1) h0_f12 h0_f13 h0_f14 h0_15 h0_16 h0_f17 h0_18 h0_19 h0_20 h0_21 h0_22 h0_23 h0_24 h0_25 h0_f26 h0_f27 h0_f28 h0_f29 h0_f30 h0_f31 h0_32 h0_33 h0_f34 h0_35 h0_36 h0_37 h0_38 h0_39 h0_40 h0_f41 h0_f42 h0_f43 h0_f44 h0_45 h0_46 h0_47 h0_48 h0_49 h0_50 h0_f51 h0_52 h0_f53 h0_5 h0_5k tN h0_5c)) (nw := (wd_c_X12_number_4 h0 h0_f0 h0_1 h0_2 h0_3 h0_4 h0_5 h0_f6 h0_f7 h0_f8 h0_f9 x_35 (-1) h0_f12 h0_f13 h0_f14 h0_15 h0_16 h0_f17 h0_18 h0_19 h0_20 h0_21 h0_22 h0_23 h0_24 h0_25 h0_f26 h0_f27 h0_f28 h0_f29 h0_f30 h0_f31 h0_32 h0_33 h0_f34 h0_35 h0_36 h0_37 h0_38 h0_39 h0_40 h0_f41 h0_f42 h0_f43 h0_f44 h0_45 h0_46 h0_47 h0_48 h0_49 h0_50 h0_f51 h0_52 h0_f53 h0_5 h0_5k tN h0_5c)) hP hD [0, 1] [2, 3] 2 rfl hqc (by decide +kernel) rfl hk1 hFc hP1 hD1
  generalize H1 = H at hP hS ⊢
  as_aux_lemma =>
  rcases hw with ⟨h_36, h_37, h_38, h_39, h_40, h_41⟩ | ⟨h_42, h_43, h_44, h_45, h_46, h_47, h_48⟩
  · have h_41 : (r_34, x_35) = _ := h_41
    replace hEX := hEX.trans (exc2_eq h_41)
    replace hEX := hEX.trans (if_pos (show r_34 = (-1) from h_36))
    rw [h_36]
    refine lv_istore_n (lv' := [(3, .int (-1)), (0, .ref h0), (1, .int 1), (2, .int 20)]) hx hb dX12_number_4 rfl hl (Nat.le_of_ble_eq_true rfl) rfl (fun ls hl => ?_)
    refine lv_aload_n hx hb dX12_number_5 rfl (lv_at hl 1 rfl) ?_
    obtain ⟨hPc, hDc, hFc, hqc⟩ := cl_cut (wc := (wd_c_X12_isDigit h0 h0_f0 h0_1 h0_2 h0_3 h0_4 h0_5 h0_f6 h0_f7 h0_f8 h0_f9 x_35 (-1) h0_f12 h0_f13 h0_f14 h0_15 h0_16 h0_f17 h0_18 h0_19 h0_20 h0_21 h0_22 h0_23 h0_24 h0_25 h0_f26 h0_f27 h0_f28 h0_f29 h0_f30 h0_f31 h0_32 h0_33 h0_f34 h0_35 h0_36 h0_37 h0_38 h0_39 h0_40 h0_f41 h0_f42 h0_f43 h0_f44 h0_45 h0_46 h0_47 h0_48 h0_49 h0_50 h0_f51 h0_52 h0_f53 h0_5 h0_5k tN h0_5c)) hP hD hS hA [0, 1] (by decide +kernel) rfl
    have hKc := hK.sub (tys' := [(h0_5k, .byte)]) [0] rfl
    have hrv := va_recv hKc hPc (ci := 12) (q0 := 0) rfl rfl
    refine va_calli (va_runV (As := []) (rest := []) ⟨hx, hb, hml, hown, hts⟩ (c_X12_isDigit l dC dI H.size h0 h0_f0 h0_1 h0_2 h0_3 h0_4 h0_5 h0_f6 h0_f7 h0_f8 h0_f9 x_35 h0_f12 h0_f13 h0_f14 h0_15 h0_16 h0_f17 h0_18 h0_19 h0_20 h0_21 h0_22 h0_23 h0_24 h0_25 h0_f26 h0_f27 h0_f28 h0_f29 h0_f30 h0_f31 h0_32 h0_33 h0_f34 h0_35 h0_36 h0_37 h0_38 h0_39 h0_40 h0_f41 h0_f42 h0_f43 h0_f44 h0_45 h0_46 h0_47 h0_48 h0_49 h0_50 h0_f51 h0_52 h0_f53 h0_5k h0_5c tN g_h0_f6 g_h0_f7 g_h0_f8 g_h0_f9 h_37 g_h0_f17 g_h0_f26 g_h0_f27 g_h0_f28 g_h0_f29 g_h0_f30 g_h0_f31 g_h0_f34 g_h0_f41 g_h0_f51 g_h0_f53 htN) (cwV 0 hts gf_c_X12_number_4_c_X12_isDigit rfl rfl rfl mdV_X12_isDigit ⟨Nat.le_of_ble_eq_true rfl, Nat.le_of_ble_eq_true rfl⟩) ⟨fun a U g mk q => by obtain ⟨q0, q1, qP, qK, qD⟩ := q; exact ⟨q0, q1, qP, va_K.moved (u := U) (U := U.calling g mk a) (Vm.Alike.refl U.vm) qK, qD⟩, hrv, fun U hU hW => ⟨rfl, by rw [hU], by rw [hU]; exact hPc, va_K.moved hW.alike hKc, hDc.weaken (fun _ _ _ _ => trivial)⟩⟩ rfl rfl hl.1 rfl (lv_room (Nat.le_of_ble_eq_true rfl)) dX12_number_6 ⟨Nat.le_of_ble_eq_true rfl, Nat.le_of_ble_eq_true rfl⟩) hS (fun q _ h => hFc q h) hFc (fun r_49 u t H1 locs ht hvm hw hB hz1 hk1 hS => ?_)
    obtain ⟨hP1, hK1, hD1⟩ := hB
    rw [ht] at hP1
    obtain ⟨hP, hD⟩ := cl_put (w1 := (wd_c_X12_isDigit h0 h0_f0 h0_1 h0_2 h0_3 h0_4 h0_5 h0_f6 h0_f7 h0_f8 h0_f9 x_35 (-1) h0_f12 h0_f13 h0_f14 h0_15 h0_16 h0_f17 h0_18 h0_19 h0_20 h0_21 h0_22 h0_23 h0_24 h0_25 h0_f26 h0_f27 h0_f28 h0_f29 h0_f30 h0_f31 h0_32 h0_33 h0_f34 h0_35 h0_36 h0_37 h0_38 h0_39 h0_40 h0_f41 h0_f42 h0_f43 h0_f44 h0_45 h0_46 h0_47 h0_48 h0_49 h0_50 h0_f51 h0_52 h0_f53 h0_5 h0_5k tN h0_5c)) (nw := (wd_c_X12_number_4 h0 h0_f0 h0_1 h0_2 h0_3 h0_4 h0_5 h0_f6 h0_f7 h0_f8 h0_f9 x_35 (-1) h0_f12 h0_f13 h0_f14 h0_15 h0_16 h0_f17 h0_18 h0_19 h0_20 h0_21 h0_22 h0_23 h0_24 h0_25 h0_f26 h0_f27 h0_f28 h0_f29 h0_f30 h0_f31 h0_32 h0_33 h0_f34 h0_35 h0_36 h0_37 h0_38 h0_39 h0_40 h0_f41 h0_f42 h0_f43 h0_f44 h0_45 h0_46 h0_47 h0_48 h0_49 h0_50 h0_f51 h0_52 h0_f53 h0_5 h0_5k tN h0_5c)) hP hD [0, 1] [2, 3] 2 rfl hqc (by decide +kernel) rfl hk1 hFc hP1 hD1
    generalize H1 = H at hP hS ⊢
    as_aux_lemma =>
    rcases hw with ⟨h_50, h_51, h_52⟩ | ⟨h_53, h_54, h_55, h_56, h_57, h_58⟩
    · have h_52 : r_49 = _ := h_52
      replace hEX := hEX.trans (exc1_eq h_52)
      replace hEX := hEX.trans (if_pos (show r_49 = 0 from h_50))
      rw [h_50]
      refine lv_if_ne (tgt := 19) hx hb dX12_number_9 rfl (fun c_59 => absurd c_59 (by decide +kernel)) (fun c_59 => ?_)
      refine lv_aload_n hx hb dX12_number_12 rfl (lv_at hl 1 rfl) ?_
      obtain ⟨hPc, hDc, hFc, hqc⟩ := cl_cut (wc := (wd_c_X12_fails h0 h0_f0 h0_1 h0_2 h0_3 h0_4 h0_5 h0_f6 h0_f7 h0_f8 h0_f9 x_35 (-1) h0_f12 h0_f13 h0_f14 h0_15 h0_16 h0_f17 h0_18 h0_19 h0_20 h0_21 h0_22 h0_23 h0_24 h0_25 h0_f26 h0_f27 h0_f28 h0_f29 h0_f30 h0_f31 h0_32 h0_33 h0_f34 h0_35 h0_36 h0_37 h0_38 h0_39 h0_40 h0_f41 h0_f42 h0_f43 h0_f44 h0_45 h0_46 h0_47 h0_48 h0_49 h0_50 h0_f51 h0_52 h0_f53)) hP hD hS hA [0] (by decide +kernel) rfl
      have hKc := hK.sub (tys' := []) [] rfl
      have hrv := va_recv hKc hPc (ci := 12) (q0 := 0) rfl rfl
      refine va_calli (va_runV (As := []) (rest := []) ⟨hx, hb, hml, hown, hts⟩ (c_X12_fails l dC dI H.size h0 h0_f0 h0_1 h0_2 h0_3 h0_4 h0_5 h0_f6 h0_f7 h0_f8 h0_f9 x_35 h0_f12 h0_f13 h0_f14 h0_15 h0_16 h0_f17 h0_18 h0_19 h0_20 h0_21 h0_22 h0_23 h0_24 h0_25 h0_f26 h0_f27 h0_f28 h0_f29 h0_f30 h0_f31 h0_32 h0_33 h0_f34 h0_35 h0_36 h0_37 h0_38 h0_39 h0_40 h0_f41 h0_f42 h0_f43 h0_f44 h0_45 h0_46 h0_47 h0_48 h0_49 h0_50 h0_f51 h0_52 h0_f53 g_h0_f6 g_h0_f7 g_h0_f8 g_h0_f9 h_37 g_h0_f17 g_h0_f26 g_h0_f27 g_h0_f28 g_h0_f29 g_h0_f30 g_h0_f31 g_h0_f34 g_h0_f41 g_h0_f51 g_h0_f53) (cwV 0 hts gf_c_X12_number_4_c_X12_fails rfl rfl rfl mdV_X12_fails ⟨Nat.le_of_ble_eq_true rfl, Nat.le_of_ble_eq_true rfl⟩) ⟨fun a U g mk q => by obtain ⟨q0, q1, qP, qK, qD⟩ := q; exact ⟨q0, q1, qP, va_K.moved (u := U) (U := U.calling g mk a) (Vm.Alike.refl U.vm) qK, qD⟩, hrv, fun U hU hW => ⟨rfl, by rw [hU], by rw [hU]; exact hPc, va_K.moved hW.alike hKc, hDc.weaken (fun _ _ _ _ => trivial)⟩⟩ rfl rfl hl.1 rfl (lv_room (Nat.le_of_ble_eq_true rfl)) dX12_number_13 ⟨Nat.le_of_ble_eq_true rfl, Nat.le_of_ble_eq_true rfl⟩) hS (fun q _ h => hFc q h) hFc (fun r_60 u t H1 locs ht hvm hw hB hz1 hk1 hS => ?_)
      obtain ⟨hP1, hK1, hD1⟩ := hB
      rw [ht] at hP1
      obtain ⟨hP, hD⟩ := cl_put (w1 := (wd_c_X12_fails h0 h0_f0 h0_1 h0_2 h0_3 h0_4 h0_5 h0_f6 h0_f7 h0_f8 h0_f9 x_35 x_35 h0_f12 h0_f13 h0_f14 h0_15 h0_16 h0_f17 h0_18 h0_19 h0_20 h0_21 h0_22 h0_23 h0_24 h0_25 h0_f26 h0_f27 h0_f28 h0_f29 h0_f30 h0_f31 h0_32 h0_33 h0_f34 h0_35 h0_36 h0_37 h0_38 h0_39 h0_40 h0_f41 h0_f42 h0_f43 h0_f44 h0_45 h0_46 h0_47 h0_48 h0_49 h0_50 h0_f51 h0_52 h0_f53)) (nw := (wd_c_X12_number_4 h0 h0_f0 h0_1 h0_2 h0_3 h0_4 h0_5 h0_f6 h0_f7 h0_f8 h0_f9 x_35 x_35 h0_f12 h0_f13 h0_f14 h0_15 h0_16 h0_f17 h0_18 h0_19 h0_20 h0_21 h0_22 h0_23 h0_24 h0_25 h0_f26 h0_f27 h0_f28 h0_f29 h0_f30 h0_f31 h0_32 h0_33 h0_f34 h0_35 h0_36 h0_37 h0_38 h0_39 h0_40 h0_f41 h0_f42 h0_f43 h0_f44 h0_45 h0_46 h0_47 h0_48 h0_49 h0_50 h0_f51 h0_52 h0_f53 h0_5 h0_5k tN h0_5c)) hP hD [0] [2, 1] 2 rfl hqc (by decide +kernel) rfl hk1 hFc hP1 hD1
      generalize H1 = H at hP hS ⊢
      as_aux_lemma =>
      rcases hw with ⟨h_61, h_62⟩
      have h_62 : r_60 = _ := h_62
      replace hEX := hEX.trans (exc1_eq h_62)
      rw [h_61]
      refine lv_pop hx hb dX12_number_16 rfl ?_
      refine lv_iconst (v := 0) hx hb dX12_number_17 kc_iconst_0 ?_
      have hK9 := hK.sub (tys' := []) [] rfl
      exact W.iret (v := 0) hx hb hr (fun t ht hW => ⟨⟨0, (x_35, x_35), rfl, (Or.inr ⟨(RG_w (RG_k 0 0 rfl) (by decide +kernel)), h_37, h_37, (hR.trans hEX).symm⟩), by rw [ht]; exact hP, va_K.moved hW.alike hK9, hD⟩, hS.F ht⟩) hS.2.2 dX12_number_18
    · have h_58 : r_49 = _ := h_58
      replace hEX := hEX.trans (exc1_eq h_58)
      replace hEX := hEX.trans (if_neg (fun q9 : r_49 = 0 => absurd ((show r_49 = 1 from h_53).symm.trans q9) (by decide +kernel)))
      rw [h_53]
      exfalso
      have := h_56
      have := h_39
      omega
  · have h_48 : (r_34, x_35) = _ := h_48
    replace hEX := hEX.trans (exc2_eq h_48)
    replace hEX := hEX.trans (if_neg (RG_neq (x := r_34) (c := (-1)) (show RG r_34 0 255 from h_42) (by decide +kernel)))
    have nb_63 := h_47.2.resolve_left (fun q => by have g9 := h_42; rw [q] at g9; exact absurd g9.1 (by decide +kernel))
    refine lv_istore_n (lv' := [(3, .int r_34), (0, .ref h0), (1, .int 1), (2, .int 20)]) hx hb dX12_number_4 rfl hl (Nat.le_of_ble_eq_true rfl) rfl (fun ls hl => ?_)
    as_aux_lemma =>
    refine lv_aload_n hx hb dX12_number_5 rfl (lv_at hl 1 rfl) ?_
    obtain ⟨hPc, hDc, hFc, hqc⟩ := cl_cut (wc := (wd_c_X12_isDigit h0 h0_f0 h0_1 h0_2 h0_3 h0_4 h0_5 h0_f6 h0_f7 h0_f8 h0_f9 x_35 (-1) h0_f12 h0_f13 h0_f14 h0_15 h0_16 h0_f17 h0_18 h0_19 h0_20 h0_21 h0_22 h0_23 h0_24 h0_25 h0_f26 h0_f27 h0_f28 h0_f29 h0_f30 h0_f31 h0_32 h0_33 h0_f34 h0_35 h0_36 h0_37 h0_38 h0_39 h0_40 h0_f41 h0_f42 h0_f43 h0_f44 h0_45 h0_46 h0_47 h0_48 h0_49 h0_50 h0_f51 h0_52 h0_f53 h0_5 h0_5k tN h0_5c)) hP hD hS hA [0, 1] (by decide +kernel) rfl
    have hKc := hK.sub (tys' := [(h0_5k, .byte)]) [0] rfl
    have hrv := va_recv hKc hPc (ci := 12) (q0 := 0) rfl rfl
    refine va_calli (va_runV (As := []) (rest := []) ⟨hx, hb, hml, hown, hts⟩ (c_X12_isDigit l dC dI H.size h0 h0_f0 h0_1 h0_2 h0_3 h0_4 h0_5 h0_f6 h0_f7 h0_f8 h0_f9 x_35 h0_f12 h0_f13 h0_f14 h0_15 h0_16 h0_f17 h0_18 h0_19 h0_20 h0_21 h0_22 h0_23 h0_24 h0_25 h0_f26 h0_f27 h0_f28 h0_f29 h0_f30 h0_f31 h0_32 h0_33 h0_f34 h0_35 h0_36 h0_37 h0_38 h0_39 h0_40 h0_f41 h0_f42 h0_f43 h0_f44 h0_45 h0_46 h0_47 h0_48 h0_49 h0_50 h0_f51 h0_52 h0_f53 h0_5k h0_5c tN g_h0_f6 g_h0_f7 g_h0_f8 (RG_w h_44 (by decide +kernel)) (RG_w h_43 (by decide +kernel)) g_h0_f17 g_h0_f26 g_h0_f27 g_h0_f28 g_h0_f29 g_h0_f30 g_h0_f31 g_h0_f34 g_h0_f41 g_h0_f51 g_h0_f53 htN) (cwV 0 hts gf_c_X12_number_4_c_X12_isDigit rfl rfl rfl mdV_X12_isDigit ⟨Nat.le_of_ble_eq_true rfl, Nat.le_of_ble_eq_true rfl⟩) ⟨fun a U g mk q => by obtain ⟨q0, q1, qP, qK, qD⟩ := q; exact ⟨q0, q1, qP, va_K.moved (u := U) (U := U.calling g mk a) (Vm.Alike.refl U.vm) qK, qD⟩, hrv, fun U hU hW => ⟨rfl, by rw [hU], by rw [hU]; exact hPc, va_K.moved hW.alike hKc, hDc.weaken (fun _ _ _ _ => trivial)⟩⟩ rfl rfl hl.1 rfl (lv_room (Nat.le_of_ble_eq_true rfl)) dX12_number_6 ⟨Nat.le_of_ble_eq_true rfl, Nat.le_of_ble_eq_true rfl⟩) hS (fun q _ h => hFc q h) hFc (fun r_64 u t H1 locs ht hvm hw hB hz1 hk1 hS => ?_)
    obtain ⟨hP1, hK1, hD1⟩ := hB
    rw [ht] at hP1
    obtain ⟨hP, hD⟩ := cl_put (w1 := (wd_c_X12_isDigit h0 h0_f0 h0_1 h0_2 h0_3 h0_4 h0_5 h0_f6 h0_f7 h0_f8 h0_f9 x_35 (-1) h0_f12 h0_f13 h0_f14 h0_15 h0_16 h0_f17 h0_18 h0_19 h0_20 h0_21 h0_22 h0_23 h0_24 h0_25 h0_f26 h0_f27 h0_f28 h0_f29 h0_f30 h0_f31 h0_32 h0_33 h0_f34 h0_35 h0_36 h0_37 h0_38 h0_39 h0_40 h0_f41 h0_f42 h0_f43 h0_f44 h0_45 h0_46 h0_47 h0_48 h0_49 h0_50 h0_f51 h0_52 h0_f53 h0_5 h0_5k tN h0_5c)) (nw := (wd_c_X12_number_4 h0 h0_f0 h0_1 h0_2 h0_3 h0_4 h0_5 h0_f6 h0_f7 h0_f8 h0_f9 x_35 (-1) h0_f12 h0_f13 h0_f14 h0_15 h0_16 h0_f17 h0_18 h0_19 h0_20 h0_21 h0_22 h0_23 h0_24 h0_25 h0_f26 h0_f27 h0_f28 h0_f29 h0_f30 h0_f31 h0_32 h0_33 h0_f34 h0_35 h0_36 h0_37 h0_38 h0_39 h0_40 h0_f41 h0_f42 h0_f43 h0_f44 h0_45 h0_46 h0_47 h0_48 h0_49 h0_50 h0_f51 h0_52 h0_f53 h0_5 h0_5k tN h0_5c)) hP hD [0, 1] [2, 3] 2 rfl hqc (by decide +kernel) rfl hk1 hFc hP1 hD1
    generalize H1 = H at hP hS ⊢
    as_aux_lemma =>
    rcases hw with ⟨h_65, h_66, h_67⟩ | ⟨h_68, h_69, h_70, h_71, h_72, h_73⟩
    · have h_67 : r_64 = _ := h_67
      replace hEX := hEX.trans (exc1_eq h_67)
      replace hEX := hEX.trans (if_pos (show r_64 = 0 from h_65))
      rw [h_65]
      refine lv_if_ne (tgt := 19) hx hb dX12_number_9 rfl (fun c_74 => absurd c_74 (by decide +kernel)) (fun c_74 => ?_)
      refine lv_aload_n hx hb dX12_number_12 rfl (lv_at hl 1 rfl) ?_
      obtain ⟨hPc, hDc, hFc, hqc⟩ := cl_cut (wc := (wd_c_X12_fails h0 h0_f0 h0_1 h0_2 h0_3 h0_4 h0_5 h0_f6 h0_f7 h0_f8 h0_f9 x_35 (-1) h0_f12 h0_f13 h0_f14 h0_15 h0_16 h0_f17 h0_18 h0_19 h0_20 h0_21 h0_22 h0_23 h0_24 h0_25 h0_f26 h0_f27 h0_f28 h0_f29 h0_f30 h0_f31 h0_32 h0_33 h0_f34 h0_35 h0_36 h0_37 h0_38 h0_39 h0_40 h0_f41 h0_f42 h0_f43 h0_f44 h0_45 h0_46 h0_47 h0_48 h0_49 h0_50 h0_f51 h0_52 h0_f53)) hP hD hS hA [0] (by decide +kernel) rfl
      have hKc := hK.sub (tys' := []) [] rfl
      have hrv := va_recv hKc hPc (ci := 12) (q0 := 0) rfl rfl
      refine va_calli (va_runV (As := []) (rest := []) ⟨hx, hb, hml, hown, hts⟩ (c_X12_fails l dC dI H.size h0 h0_f0 h0_1 h0_2 h0_3 h0_4 h0_5 h0_f6 h0_f7 h0_f8 h0_f9 x_35 h0_f12 h0_f13 h0_f14 h0_15 h0_16 h0_f17 h0_18 h0_19 h0_20 h0_21 h0_22 h0_23 h0_24 h0_25 h0_f26 h0_f27 h0_f28 h0_f29 h0_f30 h0_f31 h0_32 h0_33 h0_f34 h0_35 h0_36 h0_37 h0_38 h0_39 h0_40 h0_f41 h0_f42 h0_f43 h0_f44 h0_45 h0_46 h0_47 h0_48 h0_49 h0_50 h0_f51 h0_52 h0_f53 g_h0_f6 g_h0_f7 g_h0_f8 (RG_w h_44 (by decide +kernel)) (RG_w h_43 (by decide +kernel)) g_h0_f17 g_h0_f26 g_h0_f27 g_h0_f28 g_h0_f29 g_h0_f30 g_h0_f31 g_h0_f34 g_h0_f41 g_h0_f51 g_h0_f53) (cwV 0 hts gf_c_X12_number_4_c_X12_fails rfl rfl rfl mdV_X12_fails ⟨Nat.le_of_ble_eq_true rfl, Nat.le_of_ble_eq_true rfl⟩) ⟨fun a U g mk q => by obtain ⟨q0, q1, qP, qK, qD⟩ := q; exact ⟨q0, q1, qP, va_K.moved (u := U) (U := U.calling g mk a) (Vm.Alike.refl U.vm) qK, qD⟩, hrv, fun U hU hW => ⟨rfl, by rw [hU], by rw [hU]; exact hPc, va_K.moved hW.alike hKc, hDc.weaken (fun _ _ _ _ => trivial)⟩⟩ rfl rfl hl.1 rfl (lv_room (Nat.le_of_ble_eq_true rfl)) dX12_number_13 ⟨Nat.le_of_ble_eq_true rfl, Nat.le_of_ble_eq_true rfl⟩) hS (fun q _ h => hFc q h) hFc (fun r_75 u t H1 locs ht hvm hw hB hz1 hk1 hS => ?_)
      obtain ⟨hP1, hK1, hD1⟩ := hB
      rw [ht] at hP1
      obtain ⟨hP, hD⟩ := cl_put (w1 := (wd_c_X12_fails h0 h0_f0 h0_1 h0_2 h0_3 h0_4 h0_5 h0_f6 h0_f7 h0_f8 h0_f9 x_35 x_35 h0_f12 h0_f13 h0_f14 h0_15 h0_16 h0_f17 h0_18 h0_19 h0_20 h0_21 h0_22 h0_23 h0_24 h0_25 h0_f26 h0_f27 h0_f28 h0_f29 h0_f30 h0_f31 h0_32 h0_33 h0_f34 h0_35 h0_36 h0_37 h0_38 h0_39 h0_40 h0_f41 h0_f42 h0_f43 h0_f44 h0_45 h0_46 h0_47 h0_48 h0_49 h0_50 h0_f51 h0_52 h0_f53)) (nw := (wd_c_X12_number_4 h0 h0_f0 h0_1 h0_2 h0_3 h0_4 h0_5 h0_f6 h0_f7 h0_f8 h0_f9 x_35 x_35 h0_f12 h0_f13 h0_f14 h0_15 h0_16 h0_f17 h0_18 h0_19 h0_20 h0_21 h0_22 h0_23 h0_24 h0_25 h0_f26 h0_f27 h0_f28 h0_f29 h0_f30 h0_f31 h0_32 h0_33 h0_f34 h0_35 h0_36 h0_37 h0_38 h0_39 h0_40 h0_f41 h0_f42 h0_f43 h0_f44 h0_45 h0_46 h0_47 h0_48 h0_49 h0_50 h0_f51 h0_52 h0_f53 h0_5 h0_5k tN h0_5c)) hP hD [0] [2, 1] 2 rfl hqc (by decide +kernel) rfl hk1 hFc hP1 hD1
      generalize H1 = H at hP hS ⊢
      as_aux_lemma =>
      rcases hw with ⟨h_76, h_77⟩
      have h_77 : r_75 = _ := h_77
      replace hEX := hEX.trans (exc1_eq h_77)
      rw [h_76]
      refine lv_pop hx hb dX12_number_16 rfl ?_
      refine lv_iconst (v := 0) hx hb dX12_number_17 kc_iconst_0 ?_
      have hK9 := hK.sub (tys' := []) [] rfl
      exact W.iret (v := 0) hx hb hr (fun t ht hW => ⟨⟨0, (x_35, x_35), rfl, (Or.inr ⟨(RG_w (RG_k 0 0 rfl) (by decide +kernel)), (RG_w h_43 (by decide +kernel)), (RG_w h_43 (by decide +kernel)), (hR.trans hEX).symm⟩), by rw [ht]; exact hP, va_K.moved hW.alike hK9, hD⟩, hS.F ht⟩) hS.2.2 dX12_number_18
    · have h_73 : r_64 = _ := h_73
      replace hEX := hEX.trans (exc1_eq h_73)
      replace hEX := hEX.trans (if_neg (fun q9 : r_64 = 0 => absurd ((show r_64 = 1 from h_68).symm.trans q9) (by decide +kernel)))
      rw [h_68]
      have g_78 := h_72 h_68
      have g_79 : RG r_34 48 57 := RG_dig h_47.1 g_78 trivial h_42 (by decide +kernel)
      refine lv_if_ne (tgt := 19) hx hb dX12_number_9 rfl (fun c_80 => ?_) (fun c_80 => absurd c_80 (by decide +kernel))
      refine lv_iload_n hx hb dX12_number_19 rfl (lv_at hl 0 rfl) ?_
      as_aux_lemma =>
      refine lv_bipush (v := 48) hx hb dX12_number_20 kc_bipush_48 ?_
      refine lv_isub hx hb dX12_number_22 ?_
      refine lv_topi (fun x_81 ex_81 => ?_)
      replace hEX := hEX.trans (exl_eq ex_81)
      have g_82 : RG x_81 0 9 := RG_sub ex_81 g_79 (RG_k 48 48 rfl) (by decide +kernel)
      refine lv_istore (lv' := [(4, .int x_81), (3, .int r_34), (0, .ref h0), (1, .int 1), (2, .int 20)]) hx hb dX12_number_23 hl (Nat.le_of_ble_eq_true rfl) rfl (fun ls hl => ?_)
      refine lv_aload_n hx hb dX12_number_25 rfl (lv_at hl 2 rfl) ?_
      refine lv_dup hx hb dX12_number_26 rfl ?_
      refine va_get (D := (dC, dI)) (ci := 12) (v := .int x_35) (C := RX12) (T := TX12) (N := 54) hx hb hts iw_c_X12_number_4_X12 hown hK hP 0 rfl rfl 10 (by decide +kernel) (hts (.fieldLink RX12 134 "BuoyVoteModel" "at" "I") (List.mem_of_getElem? (i := 6) rfl)) (fun _ h9 => h9) rfl dX12_number_27 ?_
      refine lv_iconst (v := 1) hx hb dX12_number_30 kc_iconst_1 ?_
      refine lv_iadd hx hb dX12_number_31 ?_
      refine lv_topi (fun x_83 ex_83 => ?_)
      replace hEX := hEX.trans (exl_eq ex_83)
      have g_84 : RG x_83 1 240 := RG_add ex_83 h_43 (RG_k 1 1 rfl) (by decide +kernel)
      have q_85 : x_83.toInt = x_35.toInt + 1 := eq_add ex_83 h_43 (q := 1) rfl (by decide +kernel)
      refine va_put (D := (dC, dI)) (ci := 12) (v := .int x_83) (ty := .int) (C := RX12) (T := TX12) (N := 54) hx hb hts iw_c_X12_number_4_X12 tyX12 tyX12_ok nmX12 hown hK hP hD hS 0 rfl rfl 10 (by decide +kernel) (hts (.fieldLink RX12 134 "BuoyVoteModel" "at" "I") (List.mem_of_getElem? (i := 6) rfl)) (fun _ h9 => h9) rfl (by decide +kernel) rfl rfl (Nat.le_of_ble_eq_true rfl) dX12_number_32 (fun H locs hP hD hS => ?_)
      as_aux_lemma =>
      have hP : va_P (dC, dI) vwCl (wd_c_X12_number_4 h0 h0_f0 h0_1 h0_2 h0_3 h0_4 h0_5 h0_f6 h0_f7 h0_f8 h0_f9 x_83 (-1) h0_f12 h0_f13 h0_f14 h0_15 h0_16 h0_f17 h0_18 h0_19 h0_20 h0_21 h0_22 h0_23 h0_24 h0_25 h0_f26 h0_f27 h0_f28 h0_f29 h0_f30 h0_f31 h0_32 h0_33 h0_f34 h0_35 h0_36 h0_37 h0_38 h0_39 h0_40 h0_f41 h0_f42 h0_f43 h0_f44 h0_45 h0_46 h0_47 h0_48 h0_49 h0_50 h0_f51 h0_52 h0_f53 h0_5 h0_5k tN h0_5c) H := hP
      have hD : va_D A (wd_c_X12_number_4 h0 h0_f0 h0_1 h0_2 h0_3 h0_4 h0_5 h0_f6 h0_f7 h0_f8 h0_f9 x_83 (-1) h0_f12 h0_f13 h0_f14 h0_15 h0_16 h0_f17 h0_18 h0_19 h0_20 h0_21 h0_22 h0_23 h0_24 h0_25 h0_f26 h0_f27 h0_f28 h0_f29 h0_f30 h0_f31 h0_32 h0_33 h0_f34 h0_35 h0_36 h0_37 h0_38 h0_39 h0_40 h0_f41 h0_f42 h0_f43 h0_f44 h0_45 h0_46 h0_47 h0_48 h0_49 h0_50 h0_f51 h0_52 h0_f53 h0_5 h0_5k tN h0_5c) := hD
      refine lv_aload_n hx hb dX12_number_35 rfl (lv_at hl 2 rfl) ?_
      obtain ⟨hPc, hDc, hFc, hqc⟩ := cl_cut (wc := (wd_c_X12_isDigit h0 h0_f0 h0_1 h0_2 h0_3 h0_4 h0_5 h0_f6 h0_f7 h0_f8 h0_f9 x_83 (-1) h0_f12 h0_f13 h0_f14 h0_15 h0_16 h0_f17 h0_18 h0_19 h0_20 h0_21 h0_22 h0_23 h0_24 h0_25 h0_f26 h0_f27 h0_f28 h0_f29 h0_f30 h0_f31 h0_32 h0_33 h0_f34 h0_35 h0_36 h0_37 h0_38 h0_39 h0_40 h0_f41 h0_f42 h0_f43 h0_f44 h0_45 h0_46 h0_47 h0_48 h0_49 h0_50 h0_f51 h0_52 h0_f53 h0_5 h0_5k tN h0_5c)) hP hD hS hA [0, 1] (by decide +kernel) rfl
      have hKc := hK.sub (tys' := [(h0_5k, .byte)]) [0] rfl
      have hrv := va_recv hKc hPc (ci := 12) (q0 := 0) rfl rfl
      refine va_calli (va_runV (As := []) (rest := []) ⟨hx, hb, hml, hown, hts⟩ (c_X12_isDigit l dC dI H.size h0 h0_f0 h0_1 h0_2 h0_3 h0_4 h0_5 h0_f6 h0_f7 h0_f8 h0_f9 x_83 h0_f12 h0_f13 h0_f14 h0_15 h0_16 h0_f17 h0_18 h0_19 h0_20 h0_21 h0_22 h0_23 h0_24 h0_25 h0_f26 h0_f27 h0_f28 h0_f29 h0_f30 h0_f31 h0_32 h0_33 h0_f34 h0_35 h0_36 h0_37 h0_38 h0_39 h0_40 h0_f41 h0_f42 h0_f43 h0_f44 h0_45 h0_46 h0_47 h0_48 h0_49 h0_50 h0_f51 h0_52 h0_f53 h0_5k h0_5c tN g_h0_f6 g_h0_f7 g_h0_f8 (RG_w h_44 (by decide +kernel)) (RG_w g_84 (by decide +kernel)) g_h0_f17 g_h0_f26 g_h0_f27 g_h0_f28 g_h0_f29 g_h0_f30 g_h0_f31 g_h0_f34 g_h0_f41 g_h0_f51 g_h0_f53 htN) (cwV 0 hts gf_c_X12_number_4_c_X12_isDigit rfl rfl rfl mdV_X12_isDigit ⟨Nat.le_of_ble_eq_true rfl, Nat.le_of_ble_eq_true rfl⟩) ⟨fun a U g mk q => by obtain ⟨q0, q1, qP, qK, qD⟩ := q; exact ⟨q0, q1, qP, va_K.moved (u := U) (U := U.calling g mk a) (Vm.Alike.refl U.vm) qK, qD⟩, hrv, fun U hU hW => ⟨rfl, by rw [hU], by rw [hU]; exact hPc, va_K.moved hW.alike hKc, hDc.weaken (fun _ _ _ _ => trivial)⟩⟩ rfl rfl hl.1 rfl (lv_room (Nat.le_of_ble_eq_true rfl)) dX12_number_36 ⟨Nat.le_of_ble_eq_true rfl, Nat.le_of_ble_eq_true rfl⟩) hS (fun q _ h => hFc q h) hFc (fun r_86 u t H1 locs ht hvm hw hB hz1 hk1 hS => ?_)
      obtain ⟨hP1, hK1, hD1⟩ := hB
      rw [ht] at hP1
      obtain ⟨hP, hD⟩ := cl_put (w1 := (wd_c_X12_isDigit h0 h0_f0 h0_1 h0_2 h0_3 h0_4 h0_5 h0_f6 h0_f7 h0_f8 h0_f9 x_83 (-1) h0_f12 h0_f13 h0_f14 h0_15 h0_16 h0_f17 h0_18 h0_19 h0_20 h0_21 h0_22 h0_23 h0_24 h0_25 h0_f26 h0_f27 h0_f28 h0_f29 h0_f30 h0_f31 h0_32 h0_33 h0_f34 h0_35 h0_36 h0_37 h0_38 h0_39 h0_40 h0_f41 h0_f42 h0_f43 h0_f44 h0_45 h0_46 h0_47 h0_48 h0_49 h0_50 h0_f51 h0_52 h0_f53 h0_5 h0_5k tN h0_5c)) (nw := (wd_c_X12_number_4 h0 h0_f0 h0_1 h0_2 h0_3 h0_4 h0_5 h0_f6 h0_f7 h0_f8 h0_f9 x_83 (-1) h0_f12 h0_f13 h0_f14 h0_15 h0_16 h0_f17 h0_18 h0_19 h0_20 h0_21 h0_22 h0_23 h0_24 h0_25 h0_f26 h0_f27 h0_f28 h0_f29 h0_f30 h0_f31 h0_32 h0_33 h0_f34 h0_35 h0_36 h0_37 h0_38 h0_39 h0_40 h0_f41 h0_f42 h0_f43 h0_f44 h0_45 h0_46 h0_47 h0_48 h0_49 h0_50 h0_f51 h0_52 h0_f53 h0_5 h0_5k tN h0_5c)) hP hD [0, 1] [2, 3] 2 rfl hqc (by decide +kernel) rfl hk1 hFc hP1 hD1
      generalize H1 = H at hP hS ⊢
      as_aux_lemma =>
      rcases hw with ⟨h_87, h_88, h_89⟩ | ⟨h_90, h_91, h_92, h_93, h_94, h_95⟩
      · have h_89 : r_86 = _ := h_89
        replace hEX := hEX.trans (exc1_eq h_89)
        replace hEX := hEX.trans (if_pos (show r_86 = 0 from h_87))
        rw [h_87]
        refine lv_if_eq (tgt := 67) hx hb dX12_number_39 rfl (fun c_96 => ?_) (fun c_96 => absurd c_96 (by decide +kernel))
        exact hU _ _ _ (J67 x_81 x_83 g_h0_f10 g_h0_f17 g_h0_f26 g_h0_f27 g_h0_f28 g_h0_f29 g_h0_f30 g_h0_f31 g_h0_f34 g_h0_f41 g_h0_f51 g_h0_f53 g_h0_f6 g_h0_f7 g_h0_f8 h_44 g_84 (RG_w g_82 (by decide +kernel)) (by have := h_45; have := q_85; omega) hEX _ _ _ hP hD hS (lv_sub hl [0, 2, 3, 4] rfl))
      · have h_95 : r_86 = _ := h_95
        replace hEX := hEX.trans (exc1_eq h_95)
        replace hEX := hEX.trans (if_neg (fun q9 : r_86 = 0 => absurd ((show r_86 = 1 from h_90).symm.trans q9) (by decide +kernel)))
        rw [h_90]
        have g_97 : RG x_83 1 239 := RG_eq1 g_84 h_91 rfl (by decide +kernel)
        have g_98 : RG x_35 0 238 := RG_addb ex_83 (q := 1) rfl h_43 g_97 (by decide +kernel)
        have g_99 := h_94 h_90
        refine lv_if_eq (tgt := 67) hx hb dX12_number_39 rfl (fun c_100 => absurd c_100 (by decide +kernel)) (fun c_100 => ?_)
        as_aux_lemma =>
        refine lv_bipush (v := 10) hx hb dX12_number_42 kc_bipush_10 ?_
        refine lv_iload hx hb dX12_number_44 (lv_at hl 0 rfl) ?_
        refine lv_imul hx hb dX12_number_46 ?_
        refine lv_topi (fun x_101 ex_101 => ?_)
        replace hEX := hEX.trans (exl_eq ex_101)
        have g_102 : RG x_101 0 90 := RG_mulc (RG_com ex_101) (q := 10) rfl g_82 (by decide +kernel)
        refine lv_aload_n hx hb dX12_number_47 rfl (lv_at hl 2 rfl) ?_
        obtain ⟨hPc, hDc, hFc, hqc⟩ := cl_cut (wc := (wd_c_X12_here h0 h0_f0 h0_1 h0_2 h0_3 h0_4 h0_5 h0_f6 h0_f7 h0_f8 h0_f9 x_83 (-1) h0_f12 h0_f13 h0_f14 h0_15 h0_16 h0_f17 h0_18 h0_19 h0_20 h0_21 h0_22 h0_23 h0_24 h0_25 h0_f26 h0_f27 h0_f28 h0_f29 h0_f30 h0_f31 h0_32 h0_33 h0_f34 h0_35 h0_36 h0_37 h0_38 h0_39 h0_40 h0_f41 h0_f42 h0_f43 h0_f44 h0_45 h0_46 h0_47 h0_48 h0_49 h0_50 h0_f51 h0_52 h0_f53 h0_5 h0_5k tN h0_5c)) hP hD hS hA [0, 1] (by decide +kernel) rfl
        have hKc := hK.sub (tys' := [(h0_5k, .byte)]) [0] rfl
        have hrv := va_recv hKc hPc (ci := 12) (q0 := 0) rfl rfl
        refine va_calli (va_runV (As := []) (rest := [.int x_101]) ⟨hx, hb, hml, hown, hts⟩ (c_X12_here l dC dI H.size h0 h0_f0 h0_1 h0_2 h0_3 h0_4 h0_5 h0_f6 h0_f7 h0_f8 h0_f9 x_83 h0_f12 h0_f13 h0_f14 h0_15 h0_16 h0_f17 h0_18 h0_19 h0_20 h0_21 h0_22 h0_23 h0_24 h0_25 h0_f26 h0_f27 h0_f28 h0_f29 h0_f30 h0_f31 h0_32 h0_33 h0_f34 h0_35 h0_36 h0_37 h0_38 h0_39 h0_40 h0_f41 h0_f42 h0_f43 h0_f44 h0_45 h0_46 h0_47 h0_48 h0_49 h0_50 h0_f51 h0_52 h0_f53 h0_5k h0_5c tN g_h0_f6 g_h0_f7 g_h0_f8 (RG_w h_44 (by decide +kernel)) (RG_w g_97 (by decide +kernel)) g_h0_f17 g_h0_f26 g_h0_f27 g_h0_f28 g_h0_f29 g_h0_f30 g_h0_f31 g_h0_f34 g_h0_f41 g_h0_f51 g_h0_f53 htN) (cwV 0 hts gf_c_X12_number_4_c_X12_here rfl rfl rfl mdV_X12_here ⟨Nat.le_of_ble_eq_true rfl, Nat.le_of_ble_eq_true rfl⟩) ⟨fun a U g mk q => by obtain ⟨q0, q1, qP, qK, qD⟩ := q; exact ⟨q0, q1, qP, va_K.moved (u := U) (U := U.calling g mk a) (Vm.Alike.refl U.vm) qK, qD⟩, hrv, fun U hU hW => ⟨rfl, by rw [hU], by rw [hU]; exact hPc, va_K.moved hW.alike hKc, hDc.weaken (fun _ _ _ _ => trivial)⟩⟩ rfl rfl hl.1 rfl (lv_room (Nat.le_of_ble_eq_true rfl)) dX12_number_48 ⟨Nat.le_of_ble_eq_true rfl, Nat.le_of_ble_eq_true rfl⟩) hS (fun q _ h => hFc q h) hFc (fun r_103 u t H1 locs ht hvm hw hB hz1 hk1 hS => ?_)
        obtain ⟨hP1, hK1, hD1⟩ := hB
        rw [ht] at hP1
        obtain ⟨hP, hD⟩ := cl_put (w1 := (wd_c_X12_here h0 h0_f0 h0_1 h0_2 h0_3 h0_4 h0_5 h0_f6 h0_f7 h0_f8 h0_f9 x_83 (-1) h0_f12 h0_f13 h0_f14 h0_15 h0_16 h0_f17 h0_18 h0_19 h0_20 h0_21 h0_22 h0_23 h0_24 h0_25 h0_f26 h0_f27 h0_f28 h0_f29 h0_f30 h0_f31 h0_32 h0_33 h0_f34 h0_35 h0_36 h0_37 h0_38 h0_39 h0_40 h0_f41 h0_f42 h0_f43 h0_f44 h0_45 h0_46 h0_47 h0_48 h0_49 h0_50 h0_f51 h0_52 h0_f53 h0_5 h0_5k tN h0_5c)) (nw := (wd_c_X12_number_4 h0 h0_f0 h0_1 h0_2 h0_3 h0_4 h0_5 h0_f6 h0_f7 h0_f8 h0_f9 x_83 (-1) h0_f12 h0_f13 h0_f14 h0_15 h0_16 h0_f17 h0_18 h0_19 h0_20 h0_21 h0_22 h0_23 h0_24 h0_25 h0_f26 h0_f27 h0_f28 h0_f29 h0_f30 h0_f31 h0_32 h0_33 h0_f34 h0_35 h0_36 h0_37 h0_38 h0_39 h0_40 h0_f41 h0_f42 h0_f43 h0_f44 h0_45 h0_46 h0_47 h0_48 h0_49 h0_50 h0_f51 h0_52 h0_f53 h0_5 h0_5k tN h0_5c)) hP hD [0, 1] [2, 3] 2 rfl hqc (by decide +kernel) rfl hk1 hFc hP1 hD1
        generalize H1 = H at hP hS ⊢
        as_aux_lemma =>
        rcases hw with ⟨h_104, h_105, h_106, h_107⟩ | ⟨h_108, h_109, h_110, h_111, h_112⟩
        · have h_107 : r_103 = _ := h_107
          replace hEX := hEX.trans (exc1_eq h_107)
          replace hEX := hEX.trans (if_pos (show r_103 = (-1) from h_104))
          rw [h_104]
          exfalso
          have := h_105
          have := h_93
          omega
        · have h_112 : r_103 = _ := h_112
          replace hEX := hEX.trans (exc1_eq h_112)
          replace hEX := hEX.trans (if_neg (RG_neq (x := r_103) (c := (-1)) (show RG r_103 0 255 from h_108) (by decide +kernel)))
          have g_113 : RG r_103 48 57 := RG_dig h_111 g_99 trivial h_108 (by decide +kernel)
          refine lv_iadd hx hb dX12_number_51 ?_
          as_aux_lemma =>
          refine lv_topi (fun x_114 ex_114 => ?_)
          replace hEX := hEX.trans (exl_eq ex_114)
          have g_115 : RG x_114 48 147 := RG_add ex_114 g_102 g_113 (by decide +kernel)
          refine lv_bipush (v := 48) hx hb dX12_number_52 kc_bipush_48 ?_
          refine lv_isub hx hb dX12_number_54 ?_
          refine lv_topi (fun x_116 ex_116 => ?_)
          replace hEX := hEX.trans (exl_eq ex_116)
          have g_117 : RG x_116 0 99 := RG_sub ex_116 g_115 (RG_k 48 48 rfl) (by decide +kernel)
          refine lv_istore (lv' := [(4, .int x_116), (3, .int r_34), (0, .ref h0), (1, .int 1), (2, .int 20)]) hx hb dX12_number_55 hl (Nat.le_of_ble_eq_true rfl) rfl (fun ls hl => ?_)
          refine lv_aload_n hx hb dX12_number_57 rfl (lv_at hl 2 rfl) ?_
          refine lv_dup hx hb dX12_number_58 rfl ?_
          refine va_get (D := (dC, dI)) (ci := 12) (v := .int x_83) (C := RX12) (T := TX12) (N := 54) hx hb hts iw_c_X12_number_4_X12 hown hK hP 0 rfl rfl 10 (by decide +kernel) (hts (.fieldLink RX12 134 "BuoyVoteModel" "at" "I") (List.mem_of_getElem? (i := 6) rfl)) (fun _ h9 => h9) rfl dX12_number_59 ?_
          refine lv_iconst (v := 1) hx hb dX12_number_62 kc_iconst_1 ?_
          refine lv_iadd hx hb dX12_number_63 ?_
          as_aux_lemma =>
          refine lv_topi (fun x_118 ex_118 => ?_)
          replace hEX := hEX.trans (exl_eq ex_118)
          have g_119 : RG x_118 2 240 := RG_add ex_118 g_97 (RG_k 1 1 rfl) (by decide +kernel)
          have q_120 : x_118.toInt = x_83.toInt + 1 := eq_add ex_118 g_97 (q := 1) rfl (by decide +kernel)
          refine va_put (D := (dC, dI)) (ci := 12) (v := .int x_118) (ty := .int) (C := RX12) (T := TX12) (N := 54) hx hb hts iw_c_X12_number_4_X12 tyX12 tyX12_ok nmX12 hown hK hP hD hS 0 rfl rfl 10 (by decide +kernel) (hts (.fieldLink RX12 134 "BuoyVoteModel" "at" "I") (List.mem_of_getElem? (i := 6) rfl)) (fun _ h9 => h9) rfl (by decide +kernel) rfl rfl (Nat.le_of_ble_eq_true rfl) dX12_number_64 (fun H locs hP hD hS => ?_)
          have hP : va_P (dC, dI) vwCl (wd_c_X12_number_4 h0 h0_f0 h0_1 h0_2 h0_3 h0_4 h0_5 h0_f6 h0_f7 h0_f8 h0_f9 x_118 (-1) h0_f12 h0_f13 h0_f14 h0_15 h0_16 h0_f17 h0_18 h0_19 h0_20 h0_21 h0_22 h0_23 h0_24 h0_25 h0_f26 h0_f27 h0_f28 h0_f29 h0_f30 h0_f31 h0_32 h0_33 h0_f34 h0_35 h0_36 h0_37 h0_38 h0_39 h0_40 h0_f41 h0_f42 h0_f43 h0_f44 h0_45 h0_46 h0_47 h0_48 h0_49 h0_50 h0_f51 h0_52 h0_f53 h0_5 h0_5k tN h0_5c) H := hP
          have hD : va_D A (wd_c_X12_number_4 h0 h0_f0 h0_1 h0_2 h0_3 h0_4 h0_5 h0_f6 h0_f7 h0_f8 h0_f9 x_118 (-1) h0_f12 h0_f13 h0_f14 h0_15 h0_16 h0_f17 h0_18 h0_19 h0_20 h0_21 h0_22 h0_23 h0_24 h0_25 h0_f26 h0_f27 h0_f28 h0_f29 h0_f30 h0_f31 h0_32 h0_33 h0_f34 h0_35 h0_36 h0_37 h0_38 h0_39 h0_40 h0_f41 h0_f42 h0_f43 h0_f44 h0_45 h0_46 h0_47 h0_48 h0_49 h0_50 h0_f51 h0_52 h0_f53 h0_5 h0_5k tN h0_5c) := hD
          exact hU _ _ _ (J67 x_116 x_118 g_h0_f10 g_h0_f17 g_h0_f26 g_h0_f27 g_h0_f28 g_h0_f29 g_h0_f30 g_h0_f31 g_h0_f34 g_h0_f41 g_h0_f51 g_h0_f53 g_h0_f6 g_h0_f7 g_h0_f8 h_44 (RG_w g_119 (by decide +kernel)) g_117 (by have := h_45; have := q_85; have := q_120; omega) hEX _ _ _ hP hD hS (lv_sub hl [0, 2, 3, 4] rfl))
noncomputable def wd_c_X12_readItems_2 (a0 : Nat) (a1 : Int32) (a2 : Nat) (a3 : Nat) (a4 : Nat) (a5 : Nat) (a6 : Nat) (a7 : Int32) (a8 : Int32) (a9 : Int32) (a10 : Int32) (a11 : Int32) (a12 : Int32) (a13 : Int32) (a14 : Int32) (a15 : Int32) (a16 : Nat) (a17 : Nat) (a18 : Int32) (a19 : Nat) (a20 : Nat) (a21 : Nat) (a22 : Nat) (a23 : Nat) (a24 : Nat) (a25 : Nat) (a26 : Nat) (a27 : Int32) (a28 : Int32) (a29 : Int32) (a30 : Int32) (a31 : Int32) (a32 : Int32) (a33 : Nat) (a34 : Nat) (a35 : Int32) (a36 : Nat) (a37 : Nat) (a38 : Nat) (a39 : Nat) (a40 : Nat) (a41 : Nat) (a42 : Int32) (a43 : Int64) (a44 : Int32) (a45 : Int32) (a46 : Nat) (a47 : Nat) (a48 : Nat) (a49 : Nat) (a50 : Nat) (a51 : Nat) (a52 : Int32) (a53 : Nat) (a54 : Int32) (a55 : Nat) (a56 : ClassId) (a57 : Nat → Int32) (a58 : Nat) (a59 : ClassId) (a60 : Nat) (a61 : Nat → Int32) : va_W := [(a0, .inr (12, [.int a1, .ref a2, .ref a3, .ref a4, .ref a5, .ref a6, .int a7, .int a8, .int a9, .int a10, .int a11, .int a12, .int a13, .int a14, .int a15, .ref a16, .ref a17, .int a18, .ref a19, .ref a20, .ref a21, .ref a22, .ref a23, .ref a24, .ref a25, .ref a26, .int a27, .int a28, .int a29, .int a30, .int a31, .int a32, .ref a33, .ref a34, .int a35, .ref a36, .ref a37, .ref a38, .ref a39, .ref a40, .ref a41, .int a42, .long a43, .int a44, .int a45, .ref a46, .ref a47, .ref a48, .ref a49, .ref a50, .ref a51, .int a52, .ref a53, .int a54])), (a55, .inl (a56, 4, .inl a57)), (a58, .inl (a59, a60, .inl a61))]
noncomputable def wf_c_X12_readItems_2 : List Cond := List.cons (.code yX12_readItems cX12_readItems 7 none) (@HAppend.hAppend (List Cond) (List Cond) (List Cond) _ [.methodLink RX12 114 yJ0_length_8abf5, .instanceMethod yJ0_length_8abf5, .selects RJ0 yJ0_length_8abf5 yJ0_length_8abf5, .initialized RJ0, .code yJ0_length_8abf5 cJ0_length_8abf5 1 (some .int), .fieldLink RJ0 9 "java/lang/String" "value" "[B", .methodLink RJ0 335 yJ0_coder_7d493, .instanceMethod yJ0_coder_7d493, .selects RJ0 yJ0_coder_7d493 yJ0_coder_7d493, .code yJ0_coder_7d493 cJ0_coder_7d493 1 (some .byte), .fieldLink RJ0 38 "java/lang/String" "COMPACT_STRINGS" "Z", .fieldLink RJ0 15 "java/lang/String" "coder" "B", .methodLink RX12 236 yX12_usual, .static yX12_usual, .initialized RX12, .code yX12_usual cX12_usual 2 (some .int), .methodLink RX12 153 yX12_look, .instanceMethod yX12_look, .selects RX12 yX12_look yX12_look, .code yX12_look cX12_look 1 (some .int), .fieldLink RX12 134 "BuoyVoteModel" "at" "I", .fieldLink RX12 137 "BuoyVoteModel" "ends" "I", .fieldLink RX12 23 "BuoyVoteModel" "text" "[B", .fieldLink RX12 140 "BuoyVoteModel" "begins" "I", .methodLink RX12 240 yX12_spotOf, .static yX12_spotOf, .code yX12_spotOf cX12_spotOf 3 (some .int), .methodLink RX12 120 yJ0_charAt_5068e, .instanceMethod yJ0_charAt_5068e, .selects RJ0 yJ0_charAt_5068e yJ0_charAt_5068e, .code yJ0_charAt_5068e cJ0_charAt_5068e 2 (some .char), .methodLink RJ0 492 yJ0_isLatin1_aae02, .instanceMethod yJ0_isLatin1_aae02, .selects RJ0 yJ0_isLatin1_aae02 yJ0_isLatin1_aae02, .code yJ0_isLatin1_aae02 cJ0_isLatin1_aae02 1 (some .boolean), .methodLink RJ0 495 yJ1_charAt_3b067, .static yJ1_charAt_3b067, .initialized RJ1, .code yJ1_charAt_3b067 cJ1_charAt_3b067 2 (some .char), .methodLink RJ1 9 yJ0_checkIndex_df160, .static yJ0_checkIndex_df160, .code yJ0_checkIndex_df160 cJ0_checkIndex_df160 2 none, .fieldLink RJ0 1053 "jdk/internal/util/Preconditions" "SIOOBE_FORMATTER" "Ljava/util/function/BiFunction;", .methodLink RJ0 1059 yJ3_checkIndex_8e157, .static yJ3_checkIndex_8e157, .initialized RJ3, .code yJ3_checkIndex_8e157 cJ3_checkIndex_8e157 3 (some .int), .fieldLink RX12 143 "BuoyVoteModel" "fault" "I", .methodLink RX12 244 yX12_has, .static yX12_has, .code yX12_has cX12_has 2 (some .boolean), .methodLink RX12 248 yX12_leastOf, .static yX12_leastOf, .code yX12_leastOf cX12_leastOf 2 (some .int), .methodLink RX12 251 yX12_mostOf, .static yX12_mostOf, .code yX12_mostOf cX12_mostOf 2 (some .int), .methodLink RX12 254 yX12_number, .instanceMethod yX12_number, .selects RX12 yX12_number yX12_number, .code yX12_number cX12_number 5 (some .int), .methodLink RX12 183 yX12_isDigit, .instanceMethod yX12_isDigit, .selects RX12 yX12_isDigit yX12_isDigit, .code yX12_isDigit cX12_isDigit 1 (some .boolean), .methodLink RX12 149 yX12_fails, .instanceMethod yX12_fails, .selects RX12 yX12_fails yX12_fails, .code yX12_fails cX12_fails 1 (some .boolean), .methodLink RX12 229 yX12_here, .instanceMethod yX12_here, .selects RX12 yX12_here yX12_here, .code yX12_here cX12_here 1 (some .int), .methodLink RX12 232 yX12_isIn, .static yX12_isIn, .code yX12_isIn cX12_isIn 6 (some .boolean)] wsX120)
theorem iw_c_X12_readItems_2_X12 : ∀ w ∈ wsX120, w ∈ wf_c_X12_readItems_2 := fun w h => List.mem_cons_of_mem _ (List.mem_append_right _ h)
set_option maxRecDepth 20000 in
theorem gf_c_X12_readItems_2_c_X12_has_2 : GoodIn wf_c_X12_readItems_2 (va_wsS RX12 244 yX12_has wf_c_X12_has_2) := goodIn_app (gi_l [49, 50, 15] rfl rfl) (gi_cons (j := 51) rfl rfl gi_nil)
set_option maxRecDepth 20000 in
theorem gf_c_X12_readItems_2_c_X12_leastOf_5 : GoodIn wf_c_X12_readItems_2 (va_wsS RX12 248 yX12_leastOf wf_c_X12_leastOf_5) := goodIn_app (gi_l [52, 53, 15] rfl rfl) (gi_cons (j := 54) rfl rfl gi_nil)
set_option maxRecDepth 20000 in
theorem gf_c_X12_readItems_2_c_X12_mostOf_5 : GoodIn wf_c_X12_readItems_2 (va_wsS RX12 251 yX12_mostOf wf_c_X12_mostOf_5) := goodIn_app (gi_l [55, 56, 15] rfl rfl) (gi_cons (j := 57) rfl rfl gi_nil)
set_option maxRecDepth 20000 in
theorem gf_c_X12_readItems_2_c_X12_number : GoodIn wf_c_X12_readItems_2 (wsV RX12 254 RX12 yX12_number wf_c_X12_number) := goodIn_app (gi_l [58, 59, 60, 15] rfl rfl) (gi_cons (j := 61) rfl rfl (goodIn_app (gi_l [17, 18, 19, 15, 20, 21, 22, 23, 24, 62, 63, 64, 65, 66, 67, 68, 69, 48, 70, 71, 72, 73, 74, 75, 76] rfl rfl) (goodIn_sub iw_c_X12_readItems_2_X12 gw_X12)))
set_option maxRecDepth 20000 in
theorem gf_c_X12_readItems_2_c_X12_look : GoodIn wf_c_X12_readItems_2 (wsV RX12 153 RX12 yX12_look wf_c_X12_look) := goodIn_app (gi_l [17, 18, 19, 15] rfl rfl) (gi_cons (j := 20) rfl rfl (goodIn_app (gi_l [21, 22, 23, 24] rfl rfl) (goodIn_sub iw_c_X12_readItems_2_X12 gw_X12)))
set_option maxRecDepth 20000 in
theorem gf_c_X12_readItems_2_c_X12_spotOf_4 : GoodIn wf_c_X12_readItems_2 (va_wsS RX12 240 yX12_spotOf wf_c_X12_spotOf_4) := goodIn_app (gi_l [25, 26, 15] rfl rfl) (gi_cons (j := 27) rfl rfl (gi_l [1, 2, 3, 4, 5, 6, 7, 8, 9, 10, 11, 12, 28, 29, 30, 31, 32, 33, 34, 35, 36, 37, 38, 39, 40, 41, 42, 43, 44, 45, 46, 47] rfl rfl))
set_option maxRecDepth 20000 in
theorem gf_c_X12_readItems_2_c_X12_spotOf_5 : GoodIn wf_c_X12_readItems_2 (va_wsS RX12 240 yX12_spotOf wf_c_X12_spotOf_5) := goodIn_app (gi_l [25, 26, 15] rfl rfl) (gi_cons (j := 27) rfl rfl (gi_l [1, 2, 3, 4, 5, 6, 7, 8, 9, 10, 11, 12, 28, 29, 30, 31, 32, 33, 34, 35, 36, 37, 38, 39, 40, 41, 42, 43, 44, 45, 46, 47] rfl rfl))
set_option maxRecDepth 20000 in
theorem gf_c_X12_readItems_2_c_X12_fails : GoodIn wf_c_X12_readItems_2 (wsV RX12 149 RX12 yX12_fails wf_c_X12_fails) := goodIn_app (gi_l [66, 67, 68, 15] rfl rfl) (gi_cons (j := 69) rfl rfl (goodIn_app (gi_l [48, 21] rfl rfl) (goodIn_sub iw_c_X12_readItems_2_X12 gw_X12)))
set_option maxRecDepth 20000 in
theorem gf_c_X12_readItems_2_c_X12_leastOf_6 : GoodIn wf_c_X12_readItems_2 (va_wsS RX12 248 yX12_leastOf wf_c_X12_leastOf_6) := goodIn_app (gi_l [52, 53, 15] rfl rfl) (gi_cons (j := 54) rfl rfl gi_nil)
set_option maxRecDepth 20000 in
theorem gf_c_X12_readItems_2_c_X12_mostOf_6 : GoodIn wf_c_X12_readItems_2 (va_wsS RX12 251 yX12_mostOf wf_c_X12_mostOf_6) := goodIn_app (gi_l [55, 56, 15] rfl rfl) (gi_cons (j := 57) rfl rfl gi_nil)
set_option maxRecDepth 20000 in
theorem gf_c_X12_readItems_2_c_X12_number_2 : GoodIn wf_c_X12_readItems_2 (wsV RX12 254 RX12 yX12_number wf_c_X12_number_2) := goodIn_app (gi_l [58, 59, 60, 15] rfl rfl) (gi_cons (j := 61) rfl rfl (goodIn_app (gi_l [17, 18, 19, 15, 20, 21, 22, 23, 24, 62, 63, 64, 65, 66, 67, 68, 69, 48, 70, 71, 72, 73, 74, 75, 76] rfl rfl) (goodIn_sub iw_c_X12_readItems_2_X12 gw_X12)))
set_option maxRecDepth 20000 in
theorem gf_c_X12_readItems_2_c_X12_leastOf_7 : GoodIn wf_c_X12_readItems_2 (va_wsS RX12 248 yX12_leastOf wf_c_X12_leastOf_7) := goodIn_app (gi_l [52, 53, 15] rfl rfl) (gi_cons (j := 54) rfl rfl gi_nil)
set_option maxRecDepth 20000 in
theorem gf_c_X12_readItems_2_c_X12_mostOf_7 : GoodIn wf_c_X12_readItems_2 (va_wsS RX12 251 yX12_mostOf wf_c_X12_mostOf_7) := goodIn_app (gi_l [55, 56, 15] rfl rfl) (gi_cons (j := 57) rfl rfl gi_nil)
set_option maxRecDepth 20000 in
theorem gf_c_X12_readItems_2_c_X12_number_3 : GoodIn wf_c_X12_readItems_2 (wsV RX12 254 RX12 yX12_number wf_c_X12_number_3) := goodIn_app (gi_l [58, 59, 60, 15] rfl rfl) (gi_cons (j := 61) rfl rfl (goodIn_app (gi_l [17, 18, 19, 15, 20, 21, 22, 23, 24, 62, 63, 64, 65, 66, 67, 68, 69, 48, 70, 71, 72, 73, 74, 75, 76] rfl rfl) (goodIn_sub iw_c_X12_readItems_2_X12 gw_X12)))
set_option maxRecDepth 20000 in
theorem gf_c_X12_readItems_2_c_X12_leastOf_8 : GoodIn wf_c_X12_readItems_2 (va_wsS RX12 248 yX12_leastOf wf_c_X12_leastOf_8) := goodIn_app (gi_l [52, 53, 15] rfl rfl) (gi_cons (j := 54) rfl rfl gi_nil)
set_option maxRecDepth 20000 in
theorem gf_c_X12_readItems_2_c_X12_mostOf_8 : GoodIn wf_c_X12_readItems_2 (va_wsS RX12 251 yX12_mostOf wf_c_X12_mostOf_8) := goodIn_app (gi_l [55, 56, 15] rfl rfl) (gi_cons (j := 57) rfl rfl gi_nil)
set_option maxRecDepth 20000 in
theorem gf_c_X12_readItems_2_c_X12_number_4 : GoodIn wf_c_X12_readItems_2 (wsV RX12 254 RX12 yX12_number wf_c_X12_number_4) := goodIn_app (gi_l [58, 59, 60, 15] rfl rfl) (gi_cons (j := 61) rfl rfl (goodIn_app (gi_l [17, 18, 19, 15, 20, 21, 22, 23, 24, 62, 63, 64, 65, 66, 67, 68, 69, 48, 70, 71, 72, 73, 74, 75, 76] rfl rfl) (goodIn_sub iw_c_X12_readItems_2_X12 gw_X12)))
set_option maxRecDepth 20000 in
theorem gf_c_X12_readItems_2_c_J0_length_8abf5_8 : GoodIn wf_c_X12_readItems_2 (wsV RX12 114 RJ0 yJ0_length_8abf5 wf_c_J0_length_8abf5_8) := goodIn_app (gi_l [1, 2, 3, 4] rfl rfl) (gi_cons (j := 5) rfl rfl (gi_l [6, 7, 8, 9, 4, 10, 11, 12] rfl rfl))
set_option maxRecDepth 20000 in
theorem gf_c_X12_readItems_2_c_X12_usual_13 : GoodIn wf_c_X12_readItems_2 (va_wsS RX12 236 yX12_usual wf_c_X12_usual_13) := goodIn_app (gi_l [13, 14, 15] rfl rfl) (gi_cons (j := 16) rfl rfl gi_nil)
set_option maxRecDepth 20000 in
theorem gf_c_X12_readItems_2_c_X12_usual_14 : GoodIn wf_c_X12_readItems_2 (va_wsS RX12 236 yX12_usual wf_c_X12_usual_14) := goodIn_app (gi_l [13, 14, 15] rfl rfl) (gi_cons (j := 16) rfl rfl gi_nil)
set_option maxRecDepth 20000 in
theorem gf_c_X12_readItems_2_c_X12_usual_15 : GoodIn wf_c_X12_readItems_2 (va_wsS RX12 236 yX12_usual wf_c_X12_usual_15) := goodIn_app (gi_l [13, 14, 15] rfl rfl) (gi_cons (j := 16) rfl rfl gi_nil)
set_option maxRecDepth 20000 in
theorem gf_c_X12_readItems_2_c_X12_usual_16 : GoodIn wf_c_X12_readItems_2 (va_wsS RX12 236 yX12_usual wf_c_X12_usual_16) := goodIn_app (gi_l [13, 14, 15] rfl rfl) (gi_cons (j := 16) rfl rfl gi_nil)
set_option maxHeartbeats 4000000 in
set_option maxRecDepth 100000 in
theorem c_X12_readItems_2 (l : Launch) (dC : Nat → ClassId) (dI : Nat → Nat → Nat) (sz : Nat) (h0 : Nat) (p1 : Int32) (h2 : Nat) (ts8 : Nat) (h0_f0 : Int32) (h0_1 : Nat) (h0_2 : Nat) (h0_3 : Nat) (h0_4 : Nat) (h0_5 : Nat) (h0_f6 : Int32) (h0_f7 : Int32) (h0_f8 : Int32) (h0_f9 : Int32) (h0_f10 : Int32) (h0_f12 : Int32) (h0_f13 : Int32) (h0_f14 : Int32) (h0_15 : Nat) (h0_16 : Nat) (h0_f17 : Int32) (h0_18 : Nat) (h0_19 : Nat) (h0_20 : Nat) (h0_21 : Nat) (h0_22 : Nat) (h0_23 : Nat) (h0_24 : Nat) (h0_25 : Nat) (h0_f26 : Int32) (h0_f27 : Int32) (h0_f28 : Int32) (h0_f29 : Int32) (h0_f30 : Int32) (h0_f31 : Int32) (h0_32 : Nat) (h0_33 : Nat) (h0_f34 : Int32) (h0_35 : Nat) (h0_36 : Nat) (h0_37 : Nat) (h0_38 : Nat) (h0_39 : Nat) (h0_40 : Nat) (h0_f41 : Int32) (h0_f42 : Int64) (h0_f43 : Int32) (h0_f44 : Int32) (h0_45 : Nat) (h0_46 : Nat) (h0_47 : Nat) (h0_48 : Nat) (h0_49 : Nat) (h0_50 : Nat) (h0_f51 : Int32) (h0_52 : Nat) (h0_f53 : Int32) (h2k : ClassId) (h2c : Nat → Int32) (h0_5k : ClassId) (h0_5c : Nat → Int32) (tN : Nat) (tv8 : Nat) (g_p1 : RG p1 115 115) (g_h0_f6 : RG h0_f6 0 240) (g_h0_f7 : RG h0_f7 0 4) (g_h0_f8 : RG h0_f8 0 720) (g_h0_f9 : RG h0_f9 0 240) (g_h0_f10 : RG h0_f10 0 240) (g_h0_f17 : RG h0_f17 0 1) (g_h0_f26 : RG h0_f26 0 8) (g_h0_f27 : RG h0_f27 0 3) (g_h0_f28 : RG h0_f28 0 8) (g_h0_f29 : RG h0_f29 0 3) (g_h0_f30 : RG h0_f30 0 4) (g_h0_f31 : RG h0_f31 0 1) (g_h0_f34 : RG h0_f34 (-1) 3) (g_h0_f41 : RG h0_f41 0 40) (g_h0_f51 : RG h0_f51 0 10) (g_h0_f53 : RG h0_f53 0 1) (a_h2c : AI h2c 0 99) (htN : h0_f8.toInt + 240 ≤ (tN : Int)) (i_h2c : AP tRule h2c) : Met l yX12_readItems wf_c_X12_readItems_2 ({ frames := 5, cells := 0, slots := 0, locals := 107 }) (va_Pc [.ref h0, .int p1, .ref h2, .int 0, .ref ts8] (fun U => U.heap.size = sz ∧ va_P (dC, dI) vwCl (wd_c_X12_readItems_2 h0 h0_f0 h0_1 h0_2 h0_3 h0_4 h0_5 h0_f6 h0_f7 h0_f8 h0_f9 h0_f10 (-1) h0_f12 h0_f13 h0_f14 h0_15 h0_16 h0_f17 h0_18 h0_19 h0_20 h0_21 h0_22 h0_23 h0_24 h0_25 h0_f26 h0_f27 h0_f28 h0_f29 h0_f30 h0_f31 h0_32 h0_33 h0_f34 h0_35 h0_36 h0_37 h0_38 h0_39 h0_40 h0_f41 h0_f42 h0_f43 h0_f44 h0_45 h0_46 h0_47 h0_48 h0_49 h0_50 h0_f51 h0_52 h0_f53 h2 h2k h2c h0_5 h0_5k tN h0_5c) U.heap ∧ va_K (dC, dI) vwCl [(h2k, .int), (h0_5k, .byte)] U ∧ va_D (fun _ => True) (wd_c_X12_readItems_2 h0 h0_f0 h0_1 h0_2 h0_3 h0_4 h0_5 h0_f6 h0_f7 h0_f8 h0_f9 h0_f10 (-1) h0_f12 h0_f13 h0_f14 h0_15 h0_16 h0_f17 h0_18 h0_19 h0_20 h0_21 h0_22 h0_23 h0_24 h0_25 h0_f26 h0_f27 h0_f28 h0_f29 h0_f30 h0_f31 h0_32 h0_33 h0_f34 h0_35 h0_36 h0_37 h0_38 h0_39 h0_40 h0_f41 h0_f42 h0_f43 h0_f44 h0_45 h0_46 h0_47 h0_48 h0_49 h0_50 h0_f51 h0_52 h0_f53 h2 h2k h2c h0_5 h0_5k tN h0_5c) ∧ va_OF "java/lang/String" "value" "[B" (.ref tv8) ts8 (va_A (wd_c_X12_readItems_2 h0 h0_f0 h0_1 h0_2 h0_3 h0_4 h0_5 h0_f6 h0_f7 h0_f8 h0_f9 h0_f10 (-1) h0_f12 h0_f13 h0_f14 h0_15 h0_16 h0_f17 h0_18 h0_19 h0_20 h0_21 h0_22 h0_23 h0_24 h0_25 h0_f26 h0_f27 h0_f28 h0_f29 h0_f30 h0_f31 h0_32 h0_33 h0_f34 h0_35 h0_36 h0_37 h0_38 h0_39 h0_40 h0_f41 h0_f42 h0_f43 h0_f44 h0_45 h0_46 h0_47 h0_48 h0_49 h0_50 h0_f51 h0_52 h0_f53 h2 h2k h2c h0_5 h0_5k tN h0_5c) sz) U U.heap ∧ va_T .byte tv8 4 (fun j => .int ([119, 100, 116, 104].getD j 0)) (va_A (wd_c_X12_readItems_2 h0 h0_f0 h0_1 h0_2 h0_3 h0_4 h0_5 h0_f6 h0_f7 h0_f8 h0_f9 h0_f10 (-1) h0_f12 h0_f13 h0_f14 h0_15 h0_16 h0_f17 h0_18 h0_19 h0_20 h0_21 h0_22 h0_23 h0_24 h0_25 h0_f26 h0_f27 h0_f28 h0_f29 h0_f30 h0_f31 h0_32 h0_33 h0_f34 h0_35 h0_36 h0_37 h0_38 h0_39 h0_40 h0_f41 h0_f42 h0_f43 h0_f44 h0_45 h0_46 h0_47 h0_48 h0_49 h0_50 h0_f51 h0_52 h0_f53 h2 h2k h2c h0_5 h0_5k tN h0_5c) sz) U U.heap ∧ va_Z "java/lang/String" "COMPACT_STRINGS" "Z" (.int 1) (va_A (wd_c_X12_readItems_2 h0 h0_f0 h0_1 h0_2 h0_3 h0_4 h0_5 h0_f6 h0_f7 h0_f8 h0_f9 h0_f10 (-1) h0_f12 h0_f13 h0_f14 h0_15 h0_16 h0_f17 h0_18 h0_19 h0_20 h0_21 h0_22 h0_23 h0_24 h0_25 h0_f26 h0_f27 h0_f28 h0_f29 h0_f30 h0_f31 h0_32 h0_33 h0_f34 h0_35 h0_36 h0_37 h0_38 h0_39 h0_40 h0_f41 h0_f42 h0_f43 h0_f44 h0_45 h0_46 h0_47 h0_48 h0_49 h0_50 h0_f51 h0_52 h0_f53 h2 h2k h2c h0_5 h0_5k tN h0_5c) sz) U U.heap ∧ va_OF "java/lang/String" "coder" "B" (.int 0) ts8 (va_A (wd_c_X12_readItems_2 h0 h0_f0 h0_1 h0_2 h0_3 h0_4 h0_5 h0_f6 h0_f7 h0_f8 h0_f9 h0_f10 (-1) h0_f12 h0_f13 h0_f14 h0_15 h0_16 h0_f17 h0_18 h0_19 h0_20 h0_21 h0_22 h0_23 h0_24 h0_25 h0_f26 h0_f27 h0_f28 h0_f29 h0_f30 h0_f31 h0_32 h0_33 h0_f34 h0_35 h0_36 h0_37 h0_38 h0_39 h0_40 h0_f41 h0_f42 h0_f43 h0_f44 h0_45 h0_46 h0_47 h0_48 h0_49 h0_50 h0_f51 h0_52 h0_f53 h2 h2k h2c h0_5 h0_5k tN h0_5c) sz) U U.heap ∧ va_O "java/lang/String" ts8 (va_A (wd_c_X12_readItems_2 h0 h0_f0 h0_1 h0_2 h0_3 h0_4 h0_5 h0_f6 h0_f7 h0_f8 h0_f9 h0_f10 (-1) h0_f12 h0_f13 h0_f14 h0_15 h0_16 h0_f17 h0_18 h0_19 h0_20 h0_21 h0_22 h0_23 h0_24 h0_25 h0_f26 h0_f27 h0_f28 h0_f29 h0_f30 h0_f31 h0_32 h0_33 h0_f34 h0_35 h0_36 h0_37 h0_38 h0_39 h0_40 h0_f41 h0_f42 h0_f43 h0_f44 h0_45 h0_46 h0_47 h0_48 h0_49 h0_50 h0_f51 h0_52 h0_f53 h2 h2k h2c h0_5 h0_5k tN h0_5c) sz) U U.heap ∧ va_Zq "jdk/internal/util/Preconditions" "SIOOBE_FORMATTER" "Ljava/util/function/BiFunction;" (va_A (wd_c_X12_readItems_2 h0 h0_f0 h0_1 h0_2 h0_3 h0_4 h0_5 h0_f6 h0_f7 h0_f8 h0_f9 h0_f10 (-1) h0_f12 h0_f13 h0_f14 h0_15 h0_16 h0_f17 h0_18 h0_19 h0_20 h0_21 h0_22 h0_23 h0_24 h0_25 h0_f26 h0_f27 h0_f28 h0_f29 h0_f30 h0_f31 h0_32 h0_33 h0_f34 h0_35 h0_36 h0_37 h0_38 h0_39 h0_40 h0_f41 h0_f42 h0_f43 h0_f44 h0_45 h0_46 h0_47 h0_48 h0_49 h0_50 h0_f51 h0_52 h0_f53 h2 h2k h2c h0_5 h0_5k tN h0_5c) sz) U U.heap)) (va_Qv (fun (u : (Int32) × (Int32) × (Nat → Int32)) => (RG u.1 0 240 ∧ u.2.1 = (-1) ∧ AI (u.2.2) 0 99 ∧ AP tRule (u.2.2) ∧ h0_f10.toInt + 0 ≤ (u.1).toInt ∧ (u.1, u.2.1, u.2.2) = fx_c_X12_readItems_2 p1 h0_f8 h0_f9 h0_f10 h2c h0_5c) ∨ (RG u.1 0 240 ∧ RG u.2.1 0 240 ∧ AI (u.2.2) 0 99 ∧ RG h0_f9 1 240 ∧ (u.1, u.2.1, u.2.2) = fx_c_X12_readItems_2 p1 h0_f8 h0_f9 h0_f10 h2c h0_5c)) (fun (u : (Int32) × (Int32) × (Nat → Int32)) t => va_P (dC, dI) vwCl (wd_c_X12_readItems_2 h0 h0_f0 h0_1 h0_2 h0_3 h0_4 h0_5 h0_f6 h0_f7 h0_f8 h0_f9 (u.1) (u.2.1) h0_f12 h0_f13 h0_f14 h0_15 h0_16 h0_f17 h0_18 h0_19 h0_20 h0_21 h0_22 h0_23 h0_24 h0_25 h0_f26 h0_f27 h0_f28 h0_f29 h0_f30 h0_f31 h0_32 h0_33 h0_f34 h0_35 h0_36 h0_37 h0_38 h0_39 h0_40 h0_f41 h0_f42 h0_f43 h0_f44 h0_45 h0_46 h0_47 h0_48 h0_49 h0_50 h0_f51 h0_52 h0_f53 h2 h2k (u.2.2) h0_5 h0_5k tN h0_5c) t.heap ∧ va_K (dC, dI) vwCl [] t ∧ va_D (va_A (wd_c_X12_readItems_2 h0 h0_f0 h0_1 h0_2 h0_3 h0_4 h0_5 h0_f6 h0_f7 h0_f8 h0_f9 h0_f10 (-1) h0_f12 h0_f13 h0_f14 h0_15 h0_16 h0_f17 h0_18 h0_19 h0_20 h0_21 h0_22 h0_23 h0_24 h0_25 h0_f26 h0_f27 h0_f28 h0_f29 h0_f30 h0_f31 h0_32 h0_33 h0_f34 h0_35 h0_36 h0_37 h0_38 h0_39 h0_40 h0_f41 h0_f42 h0_f43 h0_f44 h0_45 h0_46 h0_47 h0_48 h0_49 h0_50 h0_f51 h0_52 h0_f53 h2 h2k h2c h0_5 h0_5k tN h0_5c) sz) (wd_c_X12_readItems_2 h0 h0_f0 h0_1 h0_2 h0_3 h0_4 h0_5 h0_f6 h0_f7 h0_f8 h0_f9 (u.1) (u.2.1) h0_f12 h0_f13 h0_f14 h0_15 h0_16 h0_f17 h0_18 h0_19 h0_20 h0_21 h0_22 h0_23 h0_24 h0_25 h0_f26 h0_f27 h0_f28 h0_f29 h0_f30 h0_f31 h0_32 h0_33 h0_f34 h0_35 h0_36 h0_37 h0_38 h0_39 h0_40 h0_f41 h0_f42 h0_f43 h0_f44 h0_45 h0_46 h0_47 h0_48 h0_49 h0_50 h0_f51 h0_52 h0_f53 h2 h2k (u.2.2) h0_5 h0_5k tN h0_5c)) (va_A (wd_c_X12_readItems_2 h0 h0_f0 h0_1 h0_2 h0_3 h0_4 h0_5 h0_f6 h0_f7 h0_f8 h0_f9 h0_f10 (-1) h0_f12 h0_f13 h0_f14 h0_15 h0_16 h0_f17 h0_18 h0_19 h0_20 h0_21 h0_22 h0_23 h0_24 h0_25 h0_f26 h0_f27 h0_f28 h0_f29 h0_f30 h0_f31 h0_32 h0_33 h0_f34 h0_35 h0_36 h0_37 h0_38 h0_39 h0_40 h0_f41 h0_f42 h0_f43 h0_f44 h0_45 h0_46 h0_47 h0_48 h0_49 h0_50 h0_f51 h0_52 h0_f53 h2 h2k h2c h0_5 h0_5k tN h0_5c) sz)) 0 0 (va_A (wd_c_X12_readItems_2 h0 h0_f0 h0_1 h0_2 h0_3 h0_4 h0_5 h0_f6 h0_f7 h0_f8 h0_f9 h0_f10 (-1) h0_f12 h0_f13 h0_f14 h0_15 h0_16 h0_f17 h0_18 h0_19 h0_20 h0_21 h0_22 h0_23 h0_24 h0_25 h0_f26 h0_f27 h0_f28 h0_f29 h0_f30 h0_f31 h0_32 h0_33 h0_f34 h0_35 h0_36 h0_37 h0_38 h0_39 h0_40 h0_f41 h0_f42 h0_f43 h0_f44 h0_45 h0_46 h0_47 h0_48 h0_49 h0_50 h0_f51 h0_52 h0_f53 h2 h2k h2c h0_5 h0_5k tN h0_5c) sz) := by
  refine Met.ofW (cc := cX12_readItems) (maxL := 7) (ret := none) (by decide +kernel) rfl ?_
  intro p e s m args below meth c s₁ B hml hv
  obtain ⟨rfl, hsz, hP, hK, hD0, hE_55, hE_56, hE_10, hE_54, hE_53, hE_11⟩ := hv
  have hx := B.exec
  have hb := B.bytes
  have hr := B.returns
  have hts := atoms_spec (ws := wf_c_X12_readItems_2) B.pre
  have hown : s.vm.findClass RX12 = some m.cls := findClass_of_methodNamed B.named
  have hlocks := B.notSynchronized
  subst hsz
  have hD := hD0.self (sz := s.heap.size)
  generalize hAe : va_A (wd_c_X12_readItems_2 h0 h0_f0 h0_1 h0_2 h0_3 h0_4 h0_5 h0_f6 h0_f7 h0_f8 h0_f9 h0_f10 (-1) h0_f12 h0_f13 h0_f14 h0_15 h0_16 h0_f17 h0_18 h0_19 h0_20 h0_21 h0_22 h0_23 h0_24 h0_25 h0_f26 h0_f27 h0_f28 h0_f29 h0_f30 h0_f31 h0_32 h0_33 h0_f34 h0_35 h0_36 h0_37 h0_38 h0_39 h0_40 h0_f41 h0_f42 h0_f43 h0_f44 h0_45 h0_46 h0_47 h0_48 h0_49 h0_50 h0_f51 h0_52 h0_f53 h2 h2k h2c h0_5 h0_5k tN h0_5c) s.heap.size = A at hD hE_55 hE_56 hE_10 hE_54 hE_53 hE_11 ⊢
  have hA : ∀ q : Nat, s.heap.size ≤ q → A q := fun q h => by rw [← hAe]; exact Or.inr h
  have hP : va_P (dC, dI) vwCl (wd_c_X12_readItems_2 h0 h0_f0 h0_1 h0_2 h0_3 h0_4 h0_5 h0_f6 h0_f7 h0_f8 h0_f9 h0_f10 (-1) h0_f12 h0_f13 h0_f14 h0_15 h0_16 h0_f17 h0_18 h0_19 h0_20 h0_21 h0_22 h0_23 h0_24 h0_25 h0_f26 h0_f27 h0_f28 h0_f29 h0_f30 h0_f31 h0_32 h0_33 h0_f34 h0_35 h0_36 h0_37 h0_38 h0_39 h0_40 h0_f41 h0_f42 h0_f43 h0_f44 h0_45 h0_46 h0_47 h0_48 h0_49 h0_50 h0_f51 h0_52 h0_f53 h2 h2k h2c h0_5 h0_5k tN h0_5c) s.heap := hP
  have hl := lv_entry ([.ref h0, .int p1, .ref h2, .int 0, .ref ts8]) (n := 7) (Nat.le_of_ble_eq_true rfl)
  rw [lg_entry_eq]
  generalize (lg_sl ([.ref h0, .int p1, .ref h2, .int 0, .ref ts8]) ++ List.replicate (7 - (lg_sl ([.ref h0, .int p1, .ref h2, .int 0, .ref ts8])).length) Slot.unset).toArray = ls at hl ⊢
  have hl : lv_has ls 7 [(0, .ref h0), (1, .int p1), (2, .ref h2), (3, .int 0), (4, .ref ts8)] := hl
  obtain ⟨H, hHe⟩ : ∃ H : Heap, s.heap = H := ⟨_, rfl⟩
  have hS : va_S A s.heap H [] := by rw [hHe]; exact va_S.rf
  have hP : va_P (dC, dI) vwCl (wd_c_X12_readItems_2 h0 h0_f0 h0_1 h0_2 h0_3 h0_4 h0_5 h0_f6 h0_f7 h0_f8 h0_f9 h0_f10 (-1) h0_f12 h0_f13 h0_f14 h0_15 h0_16 h0_f17 h0_18 h0_19 h0_20 h0_21 h0_22 h0_23 h0_24 h0_25 h0_f26 h0_f27 h0_f28 h0_f29 h0_f30 h0_f31 h0_32 h0_33 h0_f34 h0_35 h0_36 h0_37 h0_38 h0_39 h0_40 h0_f41 h0_f42 h0_f43 h0_f44 h0_45 h0_46 h0_47 h0_48 h0_49 h0_50 h0_f51 h0_52 h0_f53 h2 h2k h2c h0_5 h0_5k tN h0_5c) H := by rw [← hHe]; exact hP
  rw [hHe]
  obtain ⟨RES, hR⟩ : ∃ z, fx_c_X12_readItems_2 p1 h0_f8 h0_f9 h0_f10 h2c h0_5c = z := ⟨_, rfl⟩
  have hEX : RES = fx_c_X12_readItems_2 p1 h0_f8 h0_f9 h0_f10 h2c h0_5c := hR.symm
  refine wj (fun G hG hU => ?_)
  as_aux_lemma =>
  have J45 : ∀ (j45_l5 : Int32) (j45_h0_f10 : Int32) (j45_h2c : Nat → Int32) (g_h0_f10 : RG h0_f10 0 240) (g_h0_f17 : RG h0_f17 0 1) (g_h0_f26 : RG h0_f26 0 8) (g_h0_f27 : RG h0_f27 0 3) (g_h0_f28 : RG h0_f28 0 8) (g_h0_f29 : RG h0_f29 0 3) (g_h0_f30 : RG h0_f30 0 4) (g_h0_f31 : RG h0_f31 0 1) (g_h0_f34 : RG h0_f34 (-1) 3) (g_h0_f41 : RG h0_f41 0 40) (g_h0_f51 : RG h0_f51 0 10) (g_h0_f53 : RG h0_f53 0 1) (g_h0_f6 : RG h0_f6 0 240) (g_h0_f7 : RG h0_f7 0 4) (g_h0_f8 : RG h0_f8 0 720) (g_h0_f9 : RG h0_f9 0 240) (g_j45_h0_f10 : RG j45_h0_f10 0 240) (g_p1 : RG p1 115 115) (a_j45_h2c : AI j45_h2c 0 99) (i_45_h2 : AP tRule j45_h2c) (r_h0_f10_j45_h0_f10 : h0_f10.toInt + 0 ≤ j45_h0_f10.toInt) (hEX : RES = fx_c_X12_readItems_2_p45 j45_h0_f10 j45_h2c) (H : Heap) (locs : List Loc) (ls : Array Slot) (hP : va_P (dC, dI) vwCl (wd_c_X12_readItems_2 h0 h0_f0 h0_1 h0_2 h0_3 h0_4 h0_5 h0_f6 h0_f7 h0_f8 h0_f9 j45_h0_f10 (-1) h0_f12 h0_f13 h0_f14 h0_15 h0_16 h0_f17 h0_18 h0_19 h0_20 h0_21 h0_22 h0_23 h0_24 h0_25 h0_f26 h0_f27 h0_f28 h0_f29 h0_f30 h0_f31 h0_32 h0_33 h0_f34 h0_35 h0_36 h0_37 h0_38 h0_39 h0_40 h0_f41 h0_f42 h0_f43 h0_f44 h0_45 h0_46 h0_47 h0_48 h0_49 h0_50 h0_f51 h0_52 h0_f53 h2 h2k j45_h2c h0_5 h0_5k tN h0_5c) H) (hD : va_D A (wd_c_X12_readItems_2 h0 h0_f0 h0_1 h0_2 h0_3 h0_4 h0_5 h0_f6 h0_f7 h0_f8 h0_f9 j45_h0_f10 (-1) h0_f12 h0_f13 h0_f14 h0_15 h0_16 h0_f17 h0_18 h0_19 h0_20 h0_21 h0_22 h0_23 h0_24 h0_25 h0_f26 h0_f27 h0_f28 h0_f29 h0_f30 h0_f31 h0_32 h0_33 h0_f34 h0_35 h0_36 h0_37 h0_38 h0_39 h0_40 h0_f41 h0_f42 h0_f43 h0_f44 h0_45 h0_46 h0_47 h0_48 h0_49 h0_50 h0_f51 h0_52 h0_f53 h2 h2k j45_h2c h0_5 h0_5k tN h0_5c)) (hS : va_S A s.heap H locs) (hl : lv_has ls 7 [(6, .int (-1)), (5, .int j45_l5), (0, .ref h0), (1, .int p1), (2, .ref h2), (3, .int 0), (4, .ref ts8)]), G H locs (F0 m 45 ls []) := by
    as_aux_lemma =>
    intro j45_l5 j45_h0_f10 j45_h2c g_h0_f10 g_h0_f17 g_h0_f26 g_h0_f27 g_h0_f28 g_h0_f29 g_h0_f30 g_h0_f31 g_h0_f34 g_h0_f41 g_h0_f51 g_h0_f53 g_h0_f6 g_h0_f7 g_h0_f8 g_h0_f9 g_j45_h0_f10 g_p1 a_j45_h2c i_45_h2 r_h0_f10_j45_h0_f10 hEX H locs ls hP hD hS hl
    refine hG _ _ _ ?_
    refine lv_iload hx hb dX12_readItems_45 (lv_at hl 0 rfl) ?_
    refine lv_iconst (v := (-1)) hx hb dX12_readItems_47 kc_iconst_m1 ?_
    refine lv_icmp_eq (tgt := 138) hx hb dX12_readItems_48 rfl (fun c_1 => ?_) (fun c_1 => absurd c_1 (by decide +kernel))
    have hK9 := hK.sub (tys' := []) [] rfl
    exact W.vret hx hb hr (fun t ht hW => ⟨⟨(j45_h0_f10, (-1), j45_h2c), rfl, (Or.inl ⟨g_j45_h0_f10, rfl, a_j45_h2c, i_45_h2, (by have := r_h0_f10_j45_h0_f10; show h0_f10.toInt + 0 ≤ j45_h0_f10.toInt; omega), (hR.trans hEX).symm⟩), by rw [ht]; exact hP, va_K.moved hW.alike hK9, hD⟩, hS.F ht⟩) hS.2.2 dX12_readItems_138
  have J45c : ∀ (j45c_l5 : Int32) (j45c_l6 : Int32) (j45c_h0_f10 : Int32) (j45c_h0_f11 : Int32) (j45c_h2c : Nat → Int32) (g_h0_f10 : RG h0_f10 0 240) (g_h0_f17 : RG h0_f17 0 1) (g_h0_f26 : RG h0_f26 0 8) (g_h0_f27 : RG h0_f27 0 3) (g_h0_f28 : RG h0_f28 0 8) (g_h0_f29 : RG h0_f29 0 3) (g_h0_f30 : RG h0_f30 0 4) (g_h0_f31 : RG h0_f31 0 1) (g_h0_f34 : RG h0_f34 (-1) 3) (g_h0_f41 : RG h0_f41 0 40) (g_h0_f51 : RG h0_f51 0 10) (g_h0_f53 : RG h0_f53 0 1) (g_h0_f6 : RG h0_f6 0 240) (g_h0_f7 : RG h0_f7 0 4) (g_h0_f8 : RG h0_f8 0 720) (g_h0_f9 : RG h0_f9 1 240) (g_j45c_h0_f10 : RG j45c_h0_f10 0 240) (g_j45c_h0_f11 : RG j45c_h0_f11 0 240) (g_j45c_l6 : RG j45c_l6 0 3) (g_p1 : RG p1 115 115) (a_j45c_h2c : AI j45c_h2c 0 99) (hEX : RES = fx_c_X12_readItems_2_p45c j45c_l6 j45c_h0_f10 j45c_h0_f11 j45c_h2c) (H : Heap) (locs : List Loc) (ls : Array Slot) (hP : va_P (dC, dI) vwCl (wd_c_X12_readItems_2 h0 h0_f0 h0_1 h0_2 h0_3 h0_4 h0_5 h0_f6 h0_f7 h0_f8 h0_f9 j45c_h0_f10 j45c_h0_f11 h0_f12 h0_f13 h0_f14 h0_15 h0_16 h0_f17 h0_18 h0_19 h0_20 h0_21 h0_22 h0_23 h0_24 h0_25 h0_f26 h0_f27 h0_f28 h0_f29 h0_f30 h0_f31 h0_32 h0_33 h0_f34 h0_35 h0_36 h0_37 h0_38 h0_39 h0_40 h0_f41 h0_f42 h0_f43 h0_f44 h0_45 h0_46 h0_47 h0_48 h0_49 h0_50 h0_f51 h0_52 h0_f53 h2 h2k j45c_h2c h0_5 h0_5k tN h0_5c) H) (hD : va_D A (wd_c_X12_readItems_2 h0 h0_f0 h0_1 h0_2 h0_3 h0_4 h0_5 h0_f6 h0_f7 h0_f8 h0_f9 j45c_h0_f10 j45c_h0_f11 h0_f12 h0_f13 h0_f14 h0_15 h0_16 h0_f17 h0_18 h0_19 h0_20 h0_21 h0_22 h0_23 h0_24 h0_25 h0_f26 h0_f27 h0_f28 h0_f29 h0_f30 h0_f31 h0_32 h0_33 h0_f34 h0_35 h0_36 h0_37 h0_38 h0_39 h0_40 h0_f41 h0_f42 h0_f43 h0_f44 h0_45 h0_46 h0_47 h0_48 h0_49 h0_50 h0_f51 h0_52 h0_f53 h2 h2k j45c_h2c h0_5 h0_5k tN h0_5c)) (hS : va_S A s.heap H locs) (hl : lv_has ls 7 [(5, .int j45c_l5), (6, .int j45c_l6), (0, .ref h0), (1, .int p1), (2, .ref h2), (3, .int 0), (4, .ref ts8)]), G H locs (F0 m 45 ls []) := by
    as_aux_lemma =>
    intro j45c_l5 j45c_l6 j45c_h0_f10 j45c_h0_f11 j45c_h2c g_h0_f10 g_h0_f17 g_h0_f26 g_h0_f27 g_h0_f28 g_h0_f29 g_h0_f30 g_h0_f31 g_h0_f34 g_h0_f41 g_h0_f51 g_h0_f53 g_h0_f6 g_h0_f7 g_h0_f8 g_h0_f9 g_j45c_h0_f10 g_j45c_h0_f11 g_j45c_l6 g_p1 a_j45c_h2c hEX H locs ls hP hD hS hl
    refine hG _ _ _ ?_
    refine lv_iload hx hb dX12_readItems_45 (lv_at hl 1 rfl) ?_
    refine lv_iconst (v := (-1)) hx hb dX12_readItems_47 kc_iconst_m1 ?_
    refine lv_icmp_eq (tgt := 138) hx hb dX12_readItems_48 rfl (fun c_2 => ?_) (fun c_2 => ?_)
    · replace hEX := hEX.trans (if_pos c_2)
      exact RG_dead (RG_eq1 g_j45c_l6 (RG_k (-1) (-1) rfl) c_2 (a' := 0) (b' := (-1)) (by decide +kernel)) (by decide +kernel)
    · replace hEX := hEX.trans (if_neg c_2)
      refine lv_aload_n hx hb dX12_readItems_51 rfl (lv_at hl 2 rfl) ?_
      refine va_get (D := (dC, dI)) (ci := 12) (v := .int j45c_h0_f11) (C := RX12) (T := TX12) (N := 54) hx hb hts iw_c_X12_readItems_2_X12 hown hK hP 0 rfl rfl 11 (by decide +kernel) (hts (.fieldLink RX12 143 "BuoyVoteModel" "fault" "I") (List.mem_of_getElem? (i := 48) rfl)) (fun _ h9 => h9) rfl dX12_readItems_52 ?_
      refine lv_iconst (v := (-1)) hx hb dX12_readItems_55 kc_iconst_m1 ?_
      refine lv_icmp_ne (tgt := 138) hx hb dX12_readItems_56 rfl (fun c_3 => ?_) (fun c_3 => ?_)
      · replace hEX := hEX.trans (if_neg c_3)
        have hK9 := hK.sub (tys' := []) [] rfl
        exact W.vret hx hb hr (fun t ht hW => ⟨⟨(j45c_h0_f10, j45c_h0_f11, j45c_h2c), rfl, (Or.inr ⟨g_j45c_h0_f10, g_j45c_h0_f11, a_j45c_h2c, g_h0_f9, (hR.trans hEX).symm⟩), by rw [ht]; exact hP, va_K.moved hW.alike hK9, hD⟩, hS.F ht⟩) hS.2.2 dX12_readItems_138
      · replace hEX := hEX.trans (if_pos c_3)
        exact RG_dead (RG_eq1 g_j45c_h0_f11 (RG_k (-1) (-1) rfl) c_3 (a' := 0) (b' := (-1)) (by decide +kernel)) (by decide +kernel)
  have J45b : ∀ (n45b : Nat) (j45b_l6 : Int32) (j45b_l5 : Int32) (j45b_h0_f10 : Int32) (j45b_h2c : Nat → Int32) (hM45b : MU j45b_h0_f10 < n45b) (g_h0_f10 : RG h0_f10 0 240) (g_h0_f17 : RG h0_f17 0 1) (g_h0_f26 : RG h0_f26 0 8) (g_h0_f27 : RG h0_f27 0 3) (g_h0_f28 : RG h0_f28 0 8) (g_h0_f29 : RG h0_f29 0 3) (g_h0_f30 : RG h0_f30 0 4) (g_h0_f31 : RG h0_f31 0 1) (g_h0_f34 : RG h0_f34 (-1) 3) (g_h0_f41 : RG h0_f41 0 40) (g_h0_f51 : RG h0_f51 0 10) (g_h0_f53 : RG h0_f53 0 1) (g_h0_f6 : RG h0_f6 0 240) (g_h0_f7 : RG h0_f7 0 4) (g_h0_f8 : RG h0_f8 0 720) (g_h0_f9 : RG h0_f9 1 240) (g_j45b_h0_f10 : RG j45b_h0_f10 0 239) (g_j45b_l6 : RG j45b_l6 0 3) (g_p1 : RG p1 115 115) (a_j45b_h2c : AI j45b_h2c 0 99) (i_45b_h2 : AP tRule j45b_h2c) (r_h0_f10_j45b_h0_f10 : h0_f10.toInt + 0 ≤ j45b_h0_f10.toInt) (hEX : RES = fx_c_X12_readItems_2_p45b p1 h0_f8 h0_f9 h0_5c n45b j45b_l6 j45b_l5 j45b_h0_f10 j45b_h2c) (H : Heap) (locs : List Loc) (ls : Array Slot) (hP : va_P (dC, dI) vwCl (wd_c_X12_readItems_2 h0 h0_f0 h0_1 h0_2 h0_3 h0_4 h0_5 h0_f6 h0_f7 h0_f8 h0_f9 j45b_h0_f10 (-1) h0_f12 h0_f13 h0_f14 h0_15 h0_16 h0_f17 h0_18 h0_19 h0_20 h0_21 h0_22 h0_23 h0_24 h0_25 h0_f26 h0_f27 h0_f28 h0_f29 h0_f30 h0_f31 h0_32 h0_33 h0_f34 h0_35 h0_36 h0_37 h0_38 h0_39 h0_40 h0_f41 h0_f42 h0_f43 h0_f44 h0_45 h0_46 h0_47 h0_48 h0_49 h0_50 h0_f51 h0_52 h0_f53 h2 h2k j45b_h2c h0_5 h0_5k tN h0_5c) H) (hD : va_D A (wd_c_X12_readItems_2 h0 h0_f0 h0_1 h0_2 h0_3 h0_4 h0_5 h0_f6 h0_f7 h0_f8 h0_f9 j45b_h0_f10 (-1) h0_f12 h0_f13 h0_f14 h0_15 h0_16 h0_f17 h0_18 h0_19 h0_20 h0_21 h0_22 h0_23 h0_24 h0_25 h0_f26 h0_f27 h0_f28 h0_f29 h0_f30 h0_f31 h0_32 h0_33 h0_f34 h0_35 h0_36 h0_37 h0_38 h0_39 h0_40 h0_f41 h0_f42 h0_f43 h0_f44 h0_45 h0_46 h0_47 h0_48 h0_49 h0_50 h0_f51 h0_52 h0_f53 h2 h2k j45b_h2c h0_5 h0_5k tN h0_5c)) (hS : va_S A s.heap H locs) (hl : lv_has ls 7 [(6, .int j45b_l6), (5, .int j45b_l5), (0, .ref h0), (1, .int p1), (2, .ref h2), (3, .int 0), (4, .ref ts8)]), G H locs (F0 m 45 ls []) := by
    as_aux_lemma =>
    intro n45b
    induction n45b with
    | zero => intros; exact absurd (by assumption) (Nat.not_lt_zero _)
    | succ n45b ih45b =>
      intro j45b_l6 j45b_l5 j45b_h0_f10 j45b_h2c hM45b g_h0_f10 g_h0_f17 g_h0_f26 g_h0_f27 g_h0_f28 g_h0_f29 g_h0_f30 g_h0_f31 g_h0_f34 g_h0_f41 g_h0_f51 g_h0_f53 g_h0_f6 g_h0_f7 g_h0_f8 g_h0_f9 g_j45b_h0_f10 g_j45b_l6 g_p1 a_j45b_h2c i_45b_h2 r_h0_f10_j45b_h0_f10 hEX H locs ls hP hD hS hl
      refine hG _ _ _ ?_
      replace hEX := hEX.trans (if_pos (rfl : j45b_l6 = j45b_l6))
      refine lv_iload hx hb dX12_readItems_45 (lv_at hl 0 rfl) ?_
      refine lv_iconst (v := (-1)) hx hb dX12_readItems_47 kc_iconst_m1 ?_
      refine lv_icmp_eq (tgt := 138) hx hb dX12_readItems_48 rfl (fun c_4 => ?_) (fun c_4 => ?_)
      · replace hEX := hEX.trans (if_pos c_4)
        exact RG_dead (RG_eq1 g_j45b_l6 (RG_k (-1) (-1) rfl) c_4 (a' := 0) (b' := (-1)) (by decide +kernel)) (by decide +kernel)
      · replace hEX := hEX.trans (if_neg c_4)
        refine lv_aload_n hx hb dX12_readItems_51 rfl (lv_at hl 2 rfl) ?_
        as_aux_lemma =>
        refine va_get (D := (dC, dI)) (ci := 12) (v := .int (-1)) (C := RX12) (T := TX12) (N := 54) hx hb hts iw_c_X12_readItems_2_X12 hown hK hP 0 rfl rfl 11 (by decide +kernel) (hts (.fieldLink RX12 143 "BuoyVoteModel" "fault" "I") (List.mem_of_getElem? (i := 48) rfl)) (fun _ h9 => h9) rfl dX12_readItems_52 ?_
        refine lv_iconst (v := (-1)) hx hb dX12_readItems_55 kc_iconst_m1 ?_
        refine lv_icmp_ne (tgt := 138) hx hb dX12_readItems_56 rfl (fun c_5 => absurd c_5 (by decide +kernel)) (fun c_5 => ?_)
        by_cases c_6 : j45b_l6 = 0
        · replace hEX := hEX.trans (if_pos c_6)
          subst c_6
          refine lv_iload hx hb dX12_readItems_59 (lv_at hl 1 rfl) ?_
          refine lv_iload hx hb dX12_readItems_61 (lv_at hl 0 rfl) ?_
          obtain ⟨hPc, hDc, hFc, hqc⟩ := cl_cut (wc := []) hP hD hS hA [] (by decide +kernel) rfl
          have hKc := hK.sub (tys' := []) [] rfl
          refine va_calli (va_runS (As := [.int j45b_l5, .int 0]) (rest := []) ⟨hx, hb, hml, hown, hts⟩ (c_X12_has_2 l dC dI H.size j45b_l5 0 (RG_w (RG_k 0 0 rfl) (by decide +kernel))) (va_cwS 2 hts gf_c_X12_readItems_2_c_X12_has_2 rfl rfl rfl md_X12_has ⟨Nat.le_of_ble_eq_true rfl, Nat.le_of_ble_eq_true rfl⟩) ⟨fun a U g mk q => by obtain ⟨q0, q1, qP, qK, qD⟩ := q; exact ⟨q0, q1, qP, va_K.moved (u := U) (U := U.calling g mk a) (Vm.Alike.refl U.vm) qK, qD⟩, fun U hU hW => ⟨rfl, by rw [hU], by rw [hU]; exact hPc, va_K.moved hW.alike hKc, hDc.weaken (fun _ _ _ _ => trivial)⟩⟩ rfl rfl hl.1 rfl (lv_room (Nat.le_of_ble_eq_true rfl)) dX12_readItems_63 ⟨Nat.le_of_ble_eq_true rfl, Nat.le_of_ble_eq_true rfl⟩) hS (fun q _ h => hFc q h) hFc (fun r_7 u t H1 locs ht hvm hw hB hz1 hk1 hS => ?_)
          obtain ⟨hP1, hK1, hD1⟩ := hB
          rw [ht] at hP1
          have hP := bv_still hP hk1
          generalize H1 = H at hP hS ⊢
          as_aux_lemma =>
          rcases hw with ⟨h_8, h_9, h_10⟩ | ⟨h_11, h_12, h_13⟩
          · have h_10 : r_7 = _ := h_10
            replace hEX := hEX.trans (exc1_eq h_10)
            replace hEX := hEX.trans (if_pos (show r_7 = 0 from h_8))
            rw [h_8]
            refine lv_if_eq (tgt := 75) hx hb dX12_readItems_66 rfl (fun c_14 => ?_) (fun c_14 => absurd c_14 (by decide +kernel))
            refine lv_iload hx hb dX12_readItems_75 (lv_at hl 1 rfl) ?_
            refine lv_iconst (v := 1) hx hb dX12_readItems_77 kc_iconst_1 ?_
            refine lv_iload hx hb dX12_readItems_78 (lv_at hl 0 rfl) ?_
            refine lv_ishl hx hb dX12_readItems_80 ?_
            refine lv_topi (fun x_15 ex_15 => ?_)
            obtain rfl : x_15 = 1 := ex_15.trans (by decide +kernel)
            refine lv_ior hx hb dX12_readItems_81 ?_
            refine lv_topi (fun x_16 ex_16 => ?_)
            as_aux_lemma =>
            replace hEX := hEX.trans (exl_eq ex_16)
            refine lv_istore (lv' := [(5, .int x_16), (6, .int 0), (0, .ref h0), (1, .int p1), (2, .ref h2), (3, .int 0), (4, .ref ts8)]) hx hb dX12_readItems_82 hl (Nat.le_of_ble_eq_true rfl) rfl (fun ls hl => ?_)
            refine lv_aload_n hx hb dX12_readItems_84 rfl (lv_at hl 2 rfl) ?_
            refine lv_dup hx hb dX12_readItems_85 rfl ?_
            refine va_get (D := (dC, dI)) (ci := 12) (v := .int j45b_h0_f10) (C := RX12) (T := TX12) (N := 54) hx hb hts iw_c_X12_readItems_2_X12 hown hK hP 0 rfl rfl 10 (by decide +kernel) (hts (.fieldLink RX12 134 "BuoyVoteModel" "at" "I") (List.mem_of_getElem? (i := 21) rfl)) (fun _ h9 => h9) rfl dX12_readItems_86 ?_
            refine lv_iconst (v := 1) hx hb dX12_readItems_89 kc_iconst_1 ?_
            refine lv_iadd hx hb dX12_readItems_90 ?_
            refine lv_topi (fun x_17 ex_17 => ?_)
            replace hEX := hEX.trans (exl_eq ex_17)
            have g_18 : RG x_17 1 240 := RG_add ex_17 g_j45b_h0_f10 (RG_k 1 1 rfl) (by decide +kernel)
            have q_19 : x_17.toInt = j45b_h0_f10.toInt + 1 := eq_add ex_17 g_j45b_h0_f10 (q := 1) rfl (by decide +kernel)
            refine va_put (D := (dC, dI)) (ci := 12) (v := .int x_17) (ty := .int) (C := RX12) (T := TX12) (N := 54) hx hb hts iw_c_X12_readItems_2_X12 tyX12 tyX12_ok nmX12 hown hK hP hD hS 0 rfl rfl 10 (by decide +kernel) (hts (.fieldLink RX12 134 "BuoyVoteModel" "at" "I") (List.mem_of_getElem? (i := 21) rfl)) (fun _ h9 => h9) rfl (by decide +kernel) rfl rfl (Nat.le_of_ble_eq_true rfl) dX12_readItems_91 (fun H locs hP hD hS => ?_)
            have hP : va_P (dC, dI) vwCl (wd_c_X12_readItems_2 h0 h0_f0 h0_1 h0_2 h0_3 h0_4 h0_5 h0_f6 h0_f7 h0_f8 h0_f9 x_17 (-1) h0_f12 h0_f13 h0_f14 h0_15 h0_16 h0_f17 h0_18 h0_19 h0_20 h0_21 h0_22 h0_23 h0_24 h0_25 h0_f26 h0_f27 h0_f28 h0_f29 h0_f30 h0_f31 h0_32 h0_33 h0_f34 h0_35 h0_36 h0_37 h0_38 h0_39 h0_40 h0_f41 h0_f42 h0_f43 h0_f44 h0_45 h0_46 h0_47 h0_48 h0_49 h0_50 h0_f51 h0_52 h0_f53 h2 h2k j45b_h2c h0_5 h0_5k tN h0_5c) H := hP
            have hD : va_D A (wd_c_X12_readItems_2 h0 h0_f0 h0_1 h0_2 h0_3 h0_4 h0_5 h0_f6 h0_f7 h0_f8 h0_f9 x_17 (-1) h0_f12 h0_f13 h0_f14 h0_15 h0_16 h0_f17 h0_18 h0_19 h0_20 h0_21 h0_22 h0_23 h0_24 h0_25 h0_f26 h0_f27 h0_f28 h0_f29 h0_f30 h0_f31 h0_32 h0_33 h0_f34 h0_35 h0_36 h0_37 h0_38 h0_39 h0_40 h0_f41 h0_f42 h0_f43 h0_f44 h0_45 h0_46 h0_47 h0_48 h0_49 h0_50 h0_f51 h0_52 h0_f53 h2 h2k j45b_h2c h0_5 h0_5k tN h0_5c) := hD
            refine lv_aload_n hx hb dX12_readItems_94 rfl (lv_at hl 4 rfl) ?_
            as_aux_lemma =>
            refine lv_iload_n hx hb dX12_readItems_95 rfl (lv_at hl 5 rfl) ?_
            refine lv_iload hx hb dX12_readItems_96 (lv_at hl 1 rfl) ?_
            refine lv_iadd hx hb dX12_readItems_98 ?_
            refine lv_topi (fun x_20 ex_20 => ?_)
            obtain rfl : x_20 = 0 := ex_20.trans (by decide +kernel)
            refine lv_aload_n hx hb dX12_readItems_99 rfl (lv_at hl 2 rfl) ?_
            refine lv_iload_n hx hb dX12_readItems_100 rfl (lv_at hl 3 rfl) ?_
            refine lv_iload hx hb dX12_readItems_101 (lv_at hl 1 rfl) ?_
            obtain ⟨hPc, hDc, hFc, hqc⟩ := cl_cut (wc := []) hP hD hS hA [] (by decide +kernel) rfl
            have hKc := hK.sub (tys' := []) [] rfl
            refine va_calli (va_runS (As := [.int p1, .int 0]) (rest := [.ref h0, .int 0, .ref h2]) ⟨hx, hb, hml, hown, hts⟩ (c_X12_leastOf_5 l dC dI H.size p1 0 g_p1 (RG_k 0 0 rfl)) (va_cwS 2 hts gf_c_X12_readItems_2_c_X12_leastOf_5 rfl rfl rfl md_X12_leastOf ⟨Nat.le_of_ble_eq_true rfl, Nat.le_of_ble_eq_true rfl⟩) ⟨fun a U g mk q => by obtain ⟨q0, q1, qP, qK, qD⟩ := q; exact ⟨q0, q1, qP, va_K.moved (u := U) (U := U.calling g mk a) (Vm.Alike.refl U.vm) qK, qD⟩, fun U hU hW => ⟨rfl, by rw [hU], by rw [hU]; exact hPc, va_K.moved hW.alike hKc, hDc.weaken (fun _ _ _ _ => trivial)⟩⟩ rfl rfl hl.1 rfl (lv_room (Nat.le_of_ble_eq_true rfl)) dX12_readItems_103 ⟨Nat.le_of_ble_eq_true rfl, Nat.le_of_ble_eq_true rfl⟩) hS (fun q _ h => hFc q h) hFc (fun r_21 u t H1 locs ht hvm hw hB hz1 hk1 hS => ?_)
            obtain ⟨hP1, hK1, hD1⟩ := hB
            rw [ht] at hP1
            have hP := bv_still hP hk1
            generalize H1 = H at hP hS ⊢
            as_aux_lemma =>
            rcases hw with ⟨h_22, h_23⟩
            have h_23 : r_21 = _ := h_23
            replace hEX := hEX.trans (exc1_eq h_23)
            rw [h_22]
            refine lv_iload_n hx hb dX12_readItems_106 rfl (lv_at hl 3 rfl) ?_
            refine lv_iload hx hb dX12_readItems_107 (lv_at hl 1 rfl) ?_
            obtain ⟨hPc, hDc, hFc, hqc⟩ := cl_cut (wc := []) hP hD hS hA [] (by decide +kernel) rfl
            have hKc := hK.sub (tys' := []) [] rfl
            refine va_calli (va_runS (As := [.int p1, .int 0]) (rest := [.int 0, .ref h0, .int 0, .ref h2]) ⟨hx, hb, hml, hown, hts⟩ (c_X12_mostOf_5 l dC dI H.size p1 0 g_p1 (RG_k 0 0 rfl)) (va_cwS 2 hts gf_c_X12_readItems_2_c_X12_mostOf_5 rfl rfl rfl md_X12_mostOf ⟨Nat.le_of_ble_eq_true rfl, Nat.le_of_ble_eq_true rfl⟩) ⟨fun a U g mk q => by obtain ⟨q0, q1, qP, qK, qD⟩ := q; exact ⟨q0, q1, qP, va_K.moved (u := U) (U := U.calling g mk a) (Vm.Alike.refl U.vm) qK, qD⟩, fun U hU hW => ⟨rfl, by rw [hU], by rw [hU]; exact hPc, va_K.moved hW.alike hKc, hDc.weaken (fun _ _ _ _ => trivial)⟩⟩ rfl rfl hl.1 rfl (lv_room (Nat.le_of_ble_eq_true rfl)) dX12_readItems_109 ⟨Nat.le_of_ble_eq_true rfl, Nat.le_of_ble_eq_true rfl⟩) hS (fun q _ h => hFc q h) hFc (fun r_24 u t H1 locs ht hvm hw hB hz1 hk1 hS => ?_)
            obtain ⟨hP1, hK1, hD1⟩ := hB
            rw [ht] at hP1
            have hP := bv_still hP hk1
            generalize H1 = H at hP hS ⊢
            as_aux_lemma =>
            rcases hw with ⟨h_25, h_26⟩
            have h_26 : r_24 = _ := h_26
            replace hEX := hEX.trans (exc1_eq h_26)
            rw [h_25]
            obtain ⟨hPc, hDc, hFc, hqc⟩ := cl_cut (wc := (wd_c_X12_number h0 h0_f0 h0_1 h0_2 h0_3 h0_4 h0_5 h0_f6 h0_f7 h0_f8 h0_f9 x_17 (-1) h0_f12 h0_f13 h0_f14 h0_15 h0_16 h0_f17 h0_18 h0_19 h0_20 h0_21 h0_22 h0_23 h0_24 h0_25 h0_f26 h0_f27 h0_f28 h0_f29 h0_f30 h0_f31 h0_32 h0_33 h0_f34 h0_35 h0_36 h0_37 h0_38 h0_39 h0_40 h0_f41 h0_f42 h0_f43 h0_f44 h0_45 h0_46 h0_47 h0_48 h0_49 h0_50 h0_f51 h0_52 h0_f53 h0_5 h0_5k tN h0_5c)) hP hD hS hA [0, 2] (by decide +kernel) rfl
            have hKc := hK.sub (tys' := [(h0_5k, .byte)]) [1] rfl
            have hrv := va_recv hKc hPc (ci := 12) (q0 := 0) rfl rfl
            refine va_calli (va_runV (As := [.int 0, .int 9]) (rest := [.int 0, .ref h2]) ⟨hx, hb, hml, hown, hts⟩ (c_X12_number l dC dI H.size h0 h0_f0 h0_1 h0_2 h0_3 h0_4 h0_5 h0_f6 h0_f7 h0_f8 h0_f9 x_17 h0_f12 h0_f13 h0_f14 h0_15 h0_16 h0_f17 h0_18 h0_19 h0_20 h0_21 h0_22 h0_23 h0_24 h0_25 h0_f26 h0_f27 h0_f28 h0_f29 h0_f30 h0_f31 h0_32 h0_33 h0_f34 h0_35 h0_36 h0_37 h0_38 h0_39 h0_40 h0_f41 h0_f42 h0_f43 h0_f44 h0_45 h0_46 h0_47 h0_48 h0_49 h0_50 h0_f51 h0_52 h0_f53 h0_5k h0_5c tN g_h0_f6 g_h0_f7 g_h0_f8 (RG_w g_h0_f9 (by decide +kernel)) (RG_w g_18 (by decide +kernel)) g_h0_f17 g_h0_f26 g_h0_f27 g_h0_f28 g_h0_f29 g_h0_f30 g_h0_f31 g_h0_f34 g_h0_f41 g_h0_f51 g_h0_f53 htN) (cwV 2 hts gf_c_X12_readItems_2_c_X12_number rfl rfl rfl mdV_X12_number ⟨Nat.le_of_ble_eq_true rfl, Nat.le_of_ble_eq_true rfl⟩) ⟨fun a U g mk q => by obtain ⟨q0, q1, qP, qK, qD⟩ := q; exact ⟨q0, q1, qP, va_K.moved (u := U) (U := U.calling g mk a) (Vm.Alike.refl U.vm) qK, qD⟩, hrv, fun U hU hW => ⟨rfl, by rw [hU], by rw [hU]; exact hPc, va_K.moved hW.alike hKc, hDc.weaken (fun _ _ _ _ => trivial)⟩⟩ rfl rfl hl.1 rfl (lv_room (Nat.le_of_ble_eq_true rfl)) dX12_readItems_112 ⟨Nat.le_of_ble_eq_true rfl, Nat.le_of_ble_eq_true rfl⟩) hS (fun q _ h => hFc q h) hFc (fun r_27 u t H1 locs ht hvm hw hB hz1 hk1 hS => ?_)
            obtain ⟨x_28, x_29⟩ := u
            obtain ⟨hP1, hK1, hD1⟩ := hB
            rw [ht] at hP1
            obtain ⟨hP, hD⟩ := cl_put (w1 := (wd_c_X12_number h0 h0_f0 h0_1 h0_2 h0_3 h0_4 h0_5 h0_f6 h0_f7 h0_f8 h0_f9 x_28 x_29 h0_f12 h0_f13 h0_f14 h0_15 h0_16 h0_f17 h0_18 h0_19 h0_20 h0_21 h0_22 h0_23 h0_24 h0_25 h0_f26 h0_f27 h0_f28 h0_f29 h0_f30 h0_f31 h0_32 h0_33 h0_f34 h0_35 h0_36 h0_37 h0_38 h0_39 h0_40 h0_f41 h0_f42 h0_f43 h0_f44 h0_45 h0_46 h0_47 h0_48 h0_49 h0_50 h0_f51 h0_52 h0_f53 h0_5 h0_5k tN h0_5c)) (nw := (wd_c_X12_readItems_2 h0 h0_f0 h0_1 h0_2 h0_3 h0_4 h0_5 h0_f6 h0_f7 h0_f8 h0_f9 x_28 x_29 h0_f12 h0_f13 h0_f14 h0_15 h0_16 h0_f17 h0_18 h0_19 h0_20 h0_21 h0_22 h0_23 h0_24 h0_25 h0_f26 h0_f27 h0_f28 h0_f29 h0_f30 h0_f31 h0_32 h0_33 h0_f34 h0_35 h0_36 h0_37 h0_38 h0_39 h0_40 h0_f41 h0_f42 h0_f43 h0_f44 h0_45 h0_46 h0_47 h0_48 h0_49 h0_50 h0_f51 h0_52 h0_f53 h2 h2k j45b_h2c h0_5 h0_5k tN h0_5c)) hP hD [0, 2] [3, 1, 4] 3 rfl hqc (by decide +kernel) rfl hk1 hFc hP1 hD1
            generalize H1 = H at hP hS ⊢
            as_aux_lemma =>
            rcases hw with ⟨h_30, h_31, h_32, h_33, h_34, h_35⟩ | ⟨h_36, h_37, h_38, h_39, h_40⟩ | ⟨h_41, h_42, h_43, h_44, h_45⟩
            · have h_35 : (r_27, x_28, x_29) = _ := h_35
              replace hEX := hEX.trans (exc3_eq h_35)
              replace hEX := hEX.trans (if_pos (show x_29 = (-1) from h_32))
              subst h_32
              have h_34 : x_17.toInt + 1 ≤ x_28.toInt := h_34
              refine va_iast hx hb hK hP hD hS 1 0 rfl rfl (RG_in (RG_k 0 0 rfl) (by decide +kernel)) dX12_readItems_115 (fun H locs hP hD hS => ?_)
              have hP : va_P (dC, dI) vwCl (wd_c_X12_readItems_2 h0 h0_f0 h0_1 h0_2 h0_3 h0_4 h0_5 h0_f6 h0_f7 h0_f8 h0_f9 x_28 (-1) h0_f12 h0_f13 h0_f14 h0_15 h0_16 h0_f17 h0_18 h0_19 h0_20 h0_21 h0_22 h0_23 h0_24 h0_25 h0_f26 h0_f27 h0_f28 h0_f29 h0_f30 h0_f31 h0_32 h0_33 h0_f34 h0_35 h0_36 h0_37 h0_38 h0_39 h0_40 h0_f41 h0_f42 h0_f43 h0_f44 h0_45 h0_46 h0_47 h0_48 h0_49 h0_50 h0_f51 h0_52 h0_f53 h2 h2k (upd j45b_h2c (0 : Int32).toNatClampNeg r_27) h0_5 h0_5k tN h0_5c) H := hP
              have hD : va_D A (wd_c_X12_readItems_2 h0 h0_f0 h0_1 h0_2 h0_3 h0_4 h0_5 h0_f6 h0_f7 h0_f8 h0_f9 x_28 (-1) h0_f12 h0_f13 h0_f14 h0_15 h0_16 h0_f17 h0_18 h0_19 h0_20 h0_21 h0_22 h0_23 h0_24 h0_25 h0_f26 h0_f27 h0_f28 h0_f29 h0_f30 h0_f31 h0_32 h0_33 h0_f34 h0_35 h0_36 h0_37 h0_38 h0_39 h0_40 h0_f41 h0_f42 h0_f43 h0_f44 h0_45 h0_46 h0_47 h0_48 h0_49 h0_50 h0_f51 h0_52 h0_f53 h2 h2k (upd j45b_h2c (0 : Int32).toNatClampNeg r_27) h0_5 h0_5k tN h0_5c) := hD
              have l_47 : (upd j45b_h2c (0 : Int32).toNatClampNeg r_27) (0 : Int32).toNatClampNeg = r_27 := pk_us
              have i_48 : AP tRule (upd j45b_h2c (0 : Int32).toNatClampNeg r_27) := AP_upc i_45b_h2 h_30 (by decide +kernel)
              have a_49 : AI (upd j45b_h2c (0 : Int32).toNatClampNeg r_27) 0 99 := AI_up a_j45b_h2c h_30 (by decide +kernel)
              generalize huw_46 : (upd j45b_h2c (0 : Int32).toNatClampNeg r_27) = w_46 at hP hD a_49 l_47 i_48
              replace hEX := hEX.trans (exl_eq huw_46.symm)
              have hP : va_P (dC, dI) vwCl (wd_c_X12_readItems_2 h0 h0_f0 h0_1 h0_2 h0_3 h0_4 h0_5 h0_f6 h0_f7 h0_f8 h0_f9 x_28 (-1) h0_f12 h0_f13 h0_f14 h0_15 h0_16 h0_f17 h0_18 h0_19 h0_20 h0_21 h0_22 h0_23 h0_24 h0_25 h0_f26 h0_f27 h0_f28 h0_f29 h0_f30 h0_f31 h0_32 h0_33 h0_f34 h0_35 h0_36 h0_37 h0_38 h0_39 h0_40 h0_f41 h0_f42 h0_f43 h0_f44 h0_45 h0_46 h0_47 h0_48 h0_49 h0_50 h0_f51 h0_52 h0_f53 h2 h2k w_46 h0_5 h0_5k tN h0_5c) H := hP
              have hD : va_D A (wd_c_X12_readItems_2 h0 h0_f0 h0_1 h0_2 h0_3 h0_4 h0_5 h0_f6 h0_f7 h0_f8 h0_f9 x_28 (-1) h0_f12 h0_f13 h0_f14 h0_15 h0_16 h0_f17 h0_18 h0_19 h0_20 h0_21 h0_22 h0_23 h0_24 h0_25 h0_f26 h0_f27 h0_f28 h0_f29 h0_f30 h0_f31 h0_32 h0_33 h0_f34 h0_35 h0_36 h0_37 h0_38 h0_39 h0_40 h0_f41 h0_f42 h0_f43 h0_f44 h0_45 h0_46 h0_47 h0_48 h0_49 h0_50 h0_f51 h0_52 h0_f53 h2 h2k w_46 h0_5 h0_5k tN h0_5c) := hD
              refine lv_aload_n hx hb dX12_readItems_116 rfl (lv_at hl 2 rfl) ?_
              as_aux_lemma =>
              refine va_get (D := (dC, dI)) (ci := 12) (v := .int (-1)) (C := RX12) (T := TX12) (N := 54) hx hb hts iw_c_X12_readItems_2_X12 hown hK hP 0 rfl rfl 11 (by decide +kernel) (hts (.fieldLink RX12 143 "BuoyVoteModel" "fault" "I") (List.mem_of_getElem? (i := 48) rfl)) (fun _ h9 => h9) rfl dX12_readItems_117 ?_
              refine lv_iconst (v := (-1)) hx hb dX12_readItems_120 kc_iconst_m1 ?_
              refine lv_icmp_ne (tgt := 45) hx hb dX12_readItems_121 rfl (fun c_50 => absurd c_50 (by decide +kernel)) (fun c_50 => ?_)
              refine lv_aload hx hb dX12_readItems_124 (lv_at hl 6 rfl) ?_
              refine lv_aload_n hx hb dX12_readItems_126 rfl (lv_at hl 2 rfl) ?_
              obtain ⟨hPc, hDc, hFc, hqc⟩ := cl_cut (wc := (wd_c_X12_look h0 h0_f0 h0_1 h0_2 h0_3 h0_4 h0_5 h0_f6 h0_f7 h0_f8 h0_f9 x_28 (-1) h0_f12 h0_f13 h0_f14 h0_15 h0_16 h0_f17 h0_18 h0_19 h0_20 h0_21 h0_22 h0_23 h0_24 h0_25 h0_f26 h0_f27 h0_f28 h0_f29 h0_f30 h0_f31 h0_32 h0_33 h0_f34 h0_35 h0_36 h0_37 h0_38 h0_39 h0_40 h0_f41 h0_f42 h0_f43 h0_f44 h0_45 h0_46 h0_47 h0_48 h0_49 h0_50 h0_f51 h0_52 h0_f53 h0_5 h0_5k tN h0_5c)) hP hD hS hA [0, 2] (by decide +kernel) rfl
              have hKc := hK.sub (tys' := [(h0_5k, .byte)]) [1] rfl
              have hrv := va_recv hKc hPc (ci := 12) (q0 := 0) rfl rfl
              refine va_calli (va_runV (As := []) (rest := [.ref ts8]) ⟨hx, hb, hml, hown, hts⟩ (c_X12_look l dC dI H.size h0 h0_f0 h0_1 h0_2 h0_3 h0_4 h0_5 h0_f6 h0_f7 h0_f8 h0_f9 x_28 h0_f12 h0_f13 h0_f14 h0_15 h0_16 h0_f17 h0_18 h0_19 h0_20 h0_21 h0_22 h0_23 h0_24 h0_25 h0_f26 h0_f27 h0_f28 h0_f29 h0_f30 h0_f31 h0_32 h0_33 h0_f34 h0_35 h0_36 h0_37 h0_38 h0_39 h0_40 h0_f41 h0_f42 h0_f43 h0_f44 h0_45 h0_46 h0_47 h0_48 h0_49 h0_50 h0_f51 h0_52 h0_f53 h0_5k h0_5c tN g_h0_f6 g_h0_f7 g_h0_f8 (RG_w g_h0_f9 (by decide +kernel)) (RG_w h_31 (by decide +kernel)) g_h0_f17 g_h0_f26 g_h0_f27 g_h0_f28 g_h0_f29 g_h0_f30 g_h0_f31 g_h0_f34 g_h0_f41 g_h0_f51 g_h0_f53 htN) (cwV 0 hts gf_c_X12_readItems_2_c_X12_look rfl rfl rfl mdV_X12_look ⟨Nat.le_of_ble_eq_true rfl, Nat.le_of_ble_eq_true rfl⟩) ⟨fun a U g mk q => by obtain ⟨q0, q1, qP, qK, qD⟩ := q; exact ⟨q0, q1, qP, va_K.moved (u := U) (U := U.calling g mk a) (Vm.Alike.refl U.vm) qK, qD⟩, hrv, fun U hU hW => ⟨rfl, by rw [hU], by rw [hU]; exact hPc, va_K.moved hW.alike hKc, hDc.weaken (fun _ _ _ _ => trivial)⟩⟩ rfl rfl hl.1 rfl (lv_room (Nat.le_of_ble_eq_true rfl)) dX12_readItems_127 ⟨Nat.le_of_ble_eq_true rfl, Nat.le_of_ble_eq_true rfl⟩) hS (fun q _ h => hFc q h) hFc (fun r_51 x_52 t H1 locs ht hvm hw hB hz1 hk1 hS => ?_)
              obtain ⟨hP1, hK1, hD1⟩ := hB
              rw [ht] at hP1
              obtain ⟨hP, hD⟩ := cl_put (w1 := (wd_c_X12_look h0 h0_f0 h0_1 h0_2 h0_3 h0_4 h0_5 h0_f6 h0_f7 h0_f8 h0_f9 x_52 (-1) h0_f12 h0_f13 h0_f14 h0_15 h0_16 h0_f17 h0_18 h0_19 h0_20 h0_21 h0_22 h0_23 h0_24 h0_25 h0_f26 h0_f27 h0_f28 h0_f29 h0_f30 h0_f31 h0_32 h0_33 h0_f34 h0_35 h0_36 h0_37 h0_38 h0_39 h0_40 h0_f41 h0_f42 h0_f43 h0_f44 h0_45 h0_46 h0_47 h0_48 h0_49 h0_50 h0_f51 h0_52 h0_f53 h0_5 h0_5k tN h0_5c)) (nw := (wd_c_X12_readItems_2 h0 h0_f0 h0_1 h0_2 h0_3 h0_4 h0_5 h0_f6 h0_f7 h0_f8 h0_f9 x_52 (-1) h0_f12 h0_f13 h0_f14 h0_15 h0_16 h0_f17 h0_18 h0_19 h0_20 h0_21 h0_22 h0_23 h0_24 h0_25 h0_f26 h0_f27 h0_f28 h0_f29 h0_f30 h0_f31 h0_32 h0_33 h0_f34 h0_35 h0_36 h0_37 h0_38 h0_39 h0_40 h0_f41 h0_f42 h0_f43 h0_f44 h0_45 h0_46 h0_47 h0_48 h0_49 h0_50 h0_f51 h0_52 h0_f53 h2 h2k w_46 h0_5 h0_5k tN h0_5c)) hP hD [0, 2] [3, 1, 4] 3 rfl hqc (by decide +kernel) rfl hk1 hFc hP1 hD1
              generalize H1 = H at hP hS ⊢
              as_aux_lemma =>
              rcases hw with ⟨h_53, h_54, h_55, h_56, h_57, h_58⟩ | ⟨h_59, h_60, h_61, h_62, h_63, h_64, h_65⟩
              · have h_58 : (r_51, x_52) = _ := h_58
                replace hEX := hEX.trans (exc2_eq h_58)
                replace hEX := hEX.trans (if_pos (show r_51 = (-1) from h_53))
                rw [h_53]
                obtain ⟨hPc, hDc, hFc, hqc⟩ := cl_cut (wc := []) hP hD hS hA [] (by decide +kernel) rfl
                have hKc := hK.sub (tys' := []) [] rfl
                refine va_calli (va_runS (As := [.ref ts8, .int (-1)]) (rest := []) ⟨hx, hb, hml, hown, hts⟩ (c_X12_spotOf_4 l dC dI H.size ts8 tv8) (va_cwS 2 hts gf_c_X12_readItems_2_c_X12_spotOf_4 rfl rfl rfl md_X12_spotOf ⟨Nat.le_of_ble_eq_true rfl, Nat.le_of_ble_eq_true rfl⟩) ⟨fun a U g mk q => by obtain ⟨q0, q1, qP, qK, qD, qE0, qE1, qE2, qE3, qE4, qE5⟩ := q; exact ⟨q0, q1, qP, va_K.moved (u := U) (U := U.calling g mk a) (Vm.Alike.refl U.vm) qK, qD, va_OF.moved (u := U) (U := U.calling g mk a) (Vm.Alike.refl U.vm) qE0, va_T.moved (u := U) (U := U.calling g mk a) (Vm.Alike.refl U.vm) qE1, va_Z.moved (u := U) (U := U.calling g mk a) (Vm.Alike.refl U.vm) qE2, va_OF.moved (u := U) (U := U.calling g mk a) (Vm.Alike.refl U.vm) qE3, va_O.moved (u := U) (U := U.calling g mk a) (Vm.Alike.refl U.vm) qE4, va_Zq.moved (u := U) (U := U.calling g mk a) (Vm.Alike.refl U.vm) qE5⟩, fun U hU hW => ⟨rfl, by rw [hU], by rw [hU]; exact hPc, va_K.moved hW.alike hKc, hDc.weaken (fun _ _ _ _ => trivial), va_OF.moved hW.alike (by rw [hU]; exact (hE_55.kept hS.2.1).narrow hFc), va_T.moved hW.alike (by rw [hU]; exact (hE_56.kept hS.2.1).narrow hFc), va_Z.moved hW.alike (by rw [hU]; exact (hE_10.kept hS.2.1).narrow hFc), va_OF.moved hW.alike (by rw [hU]; exact (hE_54.kept hS.2.1).narrow hFc), va_O.moved hW.alike (by rw [hU]; exact (hE_53.kept hS.2.1).narrow hFc), va_Zq.moved hW.alike (by rw [hU]; exact (hE_11.kept hS.2.1).narrow hFc)⟩⟩ rfl rfl hl.1 rfl (lv_room (Nat.le_of_ble_eq_true rfl)) dX12_readItems_130 ⟨Nat.le_of_ble_eq_true rfl, Nat.le_of_ble_eq_true rfl⟩) hS (fun q _ h => hFc q h) hFc (fun r_66 u t H1 locs ht hvm hw hB hz1 hk1 hS => ?_)
                obtain ⟨hP1, hK1, hD1⟩ := hB
                rw [ht] at hP1
                have hP := bv_still hP hk1
                generalize H1 = H at hP hS ⊢
                as_aux_lemma =>
                rcases hw with ⟨h_67, h_68⟩
                have h_68 : r_66 = _ := h_68
                replace hEX := hEX.trans (exc1_eq h_68)
                rw [h_67]
                refine lv_istore (lv' := [(6, .int (-1)), (5, .int x_16), (0, .ref h0), (1, .int p1), (2, .ref h2), (3, .int 0), (4, .ref ts8)]) hx hb dX12_readItems_133 hl (Nat.le_of_ble_eq_true rfl) rfl (fun ls hl => ?_)
                refine lv_goto (tgt := 45) hx hb dX12_readItems_135 rfl ?_
                exact hU _ _ _ (J45 x_16 x_52 w_46 g_h0_f10 g_h0_f17 g_h0_f26 g_h0_f27 g_h0_f28 g_h0_f29 g_h0_f30 g_h0_f31 g_h0_f34 g_h0_f41 g_h0_f51 g_h0_f53 g_h0_f6 g_h0_f7 g_h0_f8 (RG_w g_h0_f9 (by decide +kernel)) h_54 g_p1 a_49 i_48 (by have := r_h0_f10_j45b_h0_f10; have := q_19; have := h_34; have := h_55; omega) hEX _ _ _ hP hD hS (lv_sub hl [0, 1, 2, 3, 4, 5, 6] rfl))
              · have h_65 : (r_51, x_52) = _ := h_65
                replace hEX := hEX.trans (exc2_eq h_65)
                replace hEX := hEX.trans (if_neg (RG_neq (x := r_51) (c := (-1)) (show RG r_51 0 255 from h_59) (by decide +kernel)))
                have nb_69 := h_64.2.resolve_left (fun q => by have g9 := h_59; rw [q] at g9; exact absurd g9.1 (by decide +kernel))
                obtain ⟨hPc, hDc, hFc, hqc⟩ := cl_cut (wc := []) hP hD hS hA [] (by decide +kernel) rfl
                have hKc := hK.sub (tys' := []) [] rfl
                refine va_calli (va_runS (As := [.ref ts8, .int r_51]) (rest := []) ⟨hx, hb, hml, hown, hts⟩ (c_X12_spotOf_5 l dC dI H.size ts8 r_51 tv8 h_59) (va_cwS 2 hts gf_c_X12_readItems_2_c_X12_spotOf_5 rfl rfl rfl md_X12_spotOf ⟨Nat.le_of_ble_eq_true rfl, Nat.le_of_ble_eq_true rfl⟩) ⟨fun a U g mk q => by obtain ⟨q0, q1, qP, qK, qD, qE0, qE1, qE2, qE3, qE4, qE5⟩ := q; exact ⟨q0, q1, qP, va_K.moved (u := U) (U := U.calling g mk a) (Vm.Alike.refl U.vm) qK, qD, va_OF.moved (u := U) (U := U.calling g mk a) (Vm.Alike.refl U.vm) qE0, va_T.moved (u := U) (U := U.calling g mk a) (Vm.Alike.refl U.vm) qE1, va_Z.moved (u := U) (U := U.calling g mk a) (Vm.Alike.refl U.vm) qE2, va_OF.moved (u := U) (U := U.calling g mk a) (Vm.Alike.refl U.vm) qE3, va_O.moved (u := U) (U := U.calling g mk a) (Vm.Alike.refl U.vm) qE4, va_Zq.moved (u := U) (U := U.calling g mk a) (Vm.Alike.refl U.vm) qE5⟩, fun U hU hW => ⟨rfl, by rw [hU], by rw [hU]; exact hPc, va_K.moved hW.alike hKc, hDc.weaken (fun _ _ _ _ => trivial), va_OF.moved hW.alike (by rw [hU]; exact (hE_55.kept hS.2.1).narrow hFc), va_T.moved hW.alike (by rw [hU]; exact (hE_56.kept hS.2.1).narrow hFc), va_Z.moved hW.alike (by rw [hU]; exact (hE_10.kept hS.2.1).narrow hFc), va_OF.moved hW.alike (by rw [hU]; exact (hE_54.kept hS.2.1).narrow hFc), va_O.moved hW.alike (by rw [hU]; exact (hE_53.kept hS.2.1).narrow hFc), va_Zq.moved hW.alike (by rw [hU]; exact (hE_11.kept hS.2.1).narrow hFc)⟩⟩ rfl rfl hl.1 rfl (lv_room (Nat.le_of_ble_eq_true rfl)) dX12_readItems_130 ⟨Nat.le_of_ble_eq_true rfl, Nat.le_of_ble_eq_true rfl⟩) hS (fun q _ h => hFc q h) hFc (fun r_70 u t H1 locs ht hvm hw hB hz1 hk1 hS => ?_)
                as_aux_lemma =>
                obtain ⟨hP1, hK1, hD1⟩ := hB
                rw [ht] at hP1
                have hP := bv_still hP hk1
                generalize H1 = H at hP hS ⊢
                as_aux_lemma =>
                rcases hw with ⟨h_71, h_72⟩ | ⟨h_73, h_74, h_75⟩ | ⟨h_76, h_77, h_78⟩ | ⟨h_79, h_80, h_81⟩ | ⟨h_82, h_83, h_84⟩
                · have h_72 : r_70 = _ := h_72
                  replace hEX := hEX.trans (exc1_eq h_72)
                  replace hEX := hEX.trans (if_pos (show r_70 = (-1) from h_71))
                  rw [h_71]
                  refine lv_istore (lv' := [(6, .int (-1)), (5, .int x_16), (0, .ref h0), (1, .int p1), (2, .ref h2), (3, .int 0), (4, .ref ts8)]) hx hb dX12_readItems_133 hl (Nat.le_of_ble_eq_true rfl) rfl (fun ls hl => ?_)
                  refine lv_goto (tgt := 45) hx hb dX12_readItems_135 rfl ?_
                  exact hU _ _ _ (J45 x_16 x_52 w_46 g_h0_f10 g_h0_f17 g_h0_f26 g_h0_f27 g_h0_f28 g_h0_f29 g_h0_f30 g_h0_f31 g_h0_f34 g_h0_f41 g_h0_f51 g_h0_f53 g_h0_f6 g_h0_f7 g_h0_f8 (RG_w g_h0_f9 (by decide +kernel)) (RG_w h_60 (by decide +kernel)) g_p1 a_49 i_48 (by have := r_h0_f10_j45b_h0_f10; have := q_19; have := h_34; have := h_62; omega) hEX _ _ _ hP hD hS (lv_sub hl [0, 1, 2, 3, 4, 5, 6] rfl))
                · have h_75 : r_70 = _ := h_75
                  replace hEX := hEX.trans (exc1_eq h_75)
                  replace hEX := hEX.trans (if_neg (fun q9 : r_70 = (-1) => absurd ((show r_70 = 3 from h_73).symm.trans q9) (by decide +kernel)))
                  replace hEX := hEX.trans (if_pos (show r_70 = 3 from h_73))
                  rw [h_73]
                  refine lv_istore (lv' := [(6, .int 3), (5, .int x_16), (0, .ref h0), (1, .int p1), (2, .ref h2), (3, .int 0), (4, .ref ts8)]) hx hb dX12_readItems_133 hl (Nat.le_of_ble_eq_true rfl) rfl (fun ls hl => ?_)
                  as_aux_lemma =>
                  refine lv_goto (tgt := 45) hx hb dX12_readItems_135 rfl ?_
                  exact hU _ _ _ (ih45b 3 x_16 x_52 w_46 (mu_s (MU_lt (by have := q_19; have := h_34; have := h_62; omega)) hM45b) g_h0_f10 g_h0_f17 g_h0_f26 g_h0_f27 g_h0_f28 g_h0_f29 g_h0_f30 g_h0_f31 g_h0_f34 g_h0_f41 g_h0_f51 g_h0_f53 g_h0_f6 g_h0_f7 g_h0_f8 g_h0_f9 h_60 (RG_w (RG_k 3 3 rfl) (by decide +kernel)) g_p1 a_49 i_48 (by have := r_h0_f10_j45b_h0_f10; have := q_19; have := h_34; have := h_62; omega) hEX _ _ _ hP hD hS (lv_sub hl [0, 1, 2, 3, 4, 5, 6] rfl))
                · have h_78 : r_70 = _ := h_78
                  replace hEX := hEX.trans (exc1_eq h_78)
                  replace hEX := hEX.trans (if_neg (fun q9 : r_70 = (-1) => absurd ((show r_70 = 2 from h_76).symm.trans q9) (by decide +kernel)))
                  replace hEX := hEX.trans (if_neg (fun q9 : r_70 = 3 => absurd ((show r_70 = 2 from h_76).symm.trans q9) (by decide +kernel)))
                  replace hEX := hEX.trans (if_pos (show r_70 = 2 from h_76))
                  rw [h_76]
                  refine lv_istore (lv' := [(6, .int 2), (5, .int x_16), (0, .ref h0), (1, .int p1), (2, .ref h2), (3, .int 0), (4, .ref ts8)]) hx hb dX12_readItems_133 hl (Nat.le_of_ble_eq_true rfl) rfl (fun ls hl => ?_)
                  refine lv_goto (tgt := 45) hx hb dX12_readItems_135 rfl ?_
                  exact hU _ _ _ (ih45b 2 x_16 x_52 w_46 (mu_s (MU_lt (by have := q_19; have := h_34; have := h_62; omega)) hM45b) g_h0_f10 g_h0_f17 g_h0_f26 g_h0_f27 g_h0_f28 g_h0_f29 g_h0_f30 g_h0_f31 g_h0_f34 g_h0_f41 g_h0_f51 g_h0_f53 g_h0_f6 g_h0_f7 g_h0_f8 g_h0_f9 h_60 (RG_w (RG_k 2 2 rfl) (by decide +kernel)) g_p1 a_49 i_48 (by have := r_h0_f10_j45b_h0_f10; have := q_19; have := h_34; have := h_62; omega) hEX _ _ _ hP hD hS (lv_sub hl [0, 1, 2, 3, 4, 5, 6] rfl))
                · have h_81 : r_70 = _ := h_81
                  replace hEX := hEX.trans (exc1_eq h_81)
                  replace hEX := hEX.trans (if_neg (fun q9 : r_70 = (-1) => absurd ((show r_70 = 1 from h_79).symm.trans q9) (by decide +kernel)))
                  replace hEX := hEX.trans (if_neg (fun q9 : r_70 = 3 => absurd ((show r_70 = 1 from h_79).symm.trans q9) (by decide +kernel)))
                  replace hEX := hEX.trans (if_neg (fun q9 : r_70 = 2 => absurd ((show r_70 = 1 from h_79).symm.trans q9) (by decide +kernel)))
                  replace hEX := hEX.trans (if_pos (show r_70 = 1 from h_79))
                  rw [h_79]
                  refine lv_istore (lv' := [(6, .int 1), (5, .int x_16), (0, .ref h0), (1, .int p1), (2, .ref h2), (3, .int 0), (4, .ref ts8)]) hx hb dX12_readItems_133 hl (Nat.le_of_ble_eq_true rfl) rfl (fun ls hl => ?_)
                  as_aux_lemma =>
                  refine lv_goto (tgt := 45) hx hb dX12_readItems_135 rfl ?_
                  exact hU _ _ _ (ih45b 1 x_16 x_52 w_46 (mu_s (MU_lt (by have := q_19; have := h_34; have := h_62; omega)) hM45b) g_h0_f10 g_h0_f17 g_h0_f26 g_h0_f27 g_h0_f28 g_h0_f29 g_h0_f30 g_h0_f31 g_h0_f34 g_h0_f41 g_h0_f51 g_h0_f53 g_h0_f6 g_h0_f7 g_h0_f8 g_h0_f9 h_60 (RG_w (RG_k 1 1 rfl) (by decide +kernel)) g_p1 a_49 i_48 (by have := r_h0_f10_j45b_h0_f10; have := q_19; have := h_34; have := h_62; omega) hEX _ _ _ hP hD hS (lv_sub hl [0, 1, 2, 3, 4, 5, 6] rfl))
                · have h_84 : r_70 = _ := h_84
                  replace hEX := hEX.trans (exc1_eq h_84)
                  replace hEX := hEX.trans (if_neg (fun q9 : r_70 = (-1) => absurd ((show r_70 = 0 from h_82).symm.trans q9) (by decide +kernel)))
                  replace hEX := hEX.trans (if_neg (fun q9 : r_70 = 3 => absurd ((show r_70 = 0 from h_82).symm.trans q9) (by decide +kernel)))
                  replace hEX := hEX.trans (if_neg (fun q9 : r_70 = 2 => absurd ((show r_70 = 0 from h_82).symm.trans q9) (by decide +kernel)))
                  replace hEX := hEX.trans (if_neg (fun q9 : r_70 = 1 => absurd ((show r_70 = 0 from h_82).symm.trans q9) (by decide +kernel)))
                  rw [h_82]
                  refine lv_istore (lv' := [(6, .int 0), (5, .int x_16), (0, .ref h0), (1, .int p1), (2, .ref h2), (3, .int 0), (4, .ref ts8)]) hx hb dX12_readItems_133 hl (Nat.le_of_ble_eq_true rfl) rfl (fun ls hl => ?_)
                  refine lv_goto (tgt := 45) hx hb dX12_readItems_135 rfl ?_
                  exact hU _ _ _ (ih45b 0 x_16 x_52 w_46 (mu_s (MU_lt (by have := q_19; have := h_34; have := h_62; omega)) hM45b) g_h0_f10 g_h0_f17 g_h0_f26 g_h0_f27 g_h0_f28 g_h0_f29 g_h0_f30 g_h0_f31 g_h0_f34 g_h0_f41 g_h0_f51 g_h0_f53 g_h0_f6 g_h0_f7 g_h0_f8 g_h0_f9 h_60 (RG_w (RG_k 0 0 rfl) (by decide +kernel)) g_p1 a_49 i_48 (by have := r_h0_f10_j45b_h0_f10; have := q_19; have := h_34; have := h_62; omega) hEX _ _ _ hP hD hS (lv_sub hl [0, 1, 2, 3, 4, 5, 6] rfl))
            · have h_40 : (r_27, x_28, x_29) = _ := h_40
              replace hEX := hEX.trans (exc3_eq h_40)
              replace hEX := hEX.trans (if_neg (RG_neq (x := x_29) (c := (-1)) (show RG x_29 0 240 from h_38) (by decide +kernel)))
              replace hEX := hEX.trans (if_pos (show r_27 = 0 from h_36))
              rw [h_36]
              have h_39 : x_17.toInt + 0 ≤ x_28.toInt := h_39
              refine va_iast hx hb hK hP hD hS 1 0 rfl rfl (RG_in (RG_k 0 0 rfl) (by decide +kernel)) dX12_readItems_115 (fun H locs hP hD hS => ?_)
              as_aux_lemma =>
              have hP : va_P (dC, dI) vwCl (wd_c_X12_readItems_2 h0 h0_f0 h0_1 h0_2 h0_3 h0_4 h0_5 h0_f6 h0_f7 h0_f8 h0_f9 x_28 x_29 h0_f12 h0_f13 h0_f14 h0_15 h0_16 h0_f17 h0_18 h0_19 h0_20 h0_21 h0_22 h0_23 h0_24 h0_25 h0_f26 h0_f27 h0_f28 h0_f29 h0_f30 h0_f31 h0_32 h0_33 h0_f34 h0_35 h0_36 h0_37 h0_38 h0_39 h0_40 h0_f41 h0_f42 h0_f43 h0_f44 h0_45 h0_46 h0_47 h0_48 h0_49 h0_50 h0_f51 h0_52 h0_f53 h2 h2k (upd j45b_h2c (0 : Int32).toNatClampNeg 0) h0_5 h0_5k tN h0_5c) H := hP
              have hD : va_D A (wd_c_X12_readItems_2 h0 h0_f0 h0_1 h0_2 h0_3 h0_4 h0_5 h0_f6 h0_f7 h0_f8 h0_f9 x_28 x_29 h0_f12 h0_f13 h0_f14 h0_15 h0_16 h0_f17 h0_18 h0_19 h0_20 h0_21 h0_22 h0_23 h0_24 h0_25 h0_f26 h0_f27 h0_f28 h0_f29 h0_f30 h0_f31 h0_32 h0_33 h0_f34 h0_35 h0_36 h0_37 h0_38 h0_39 h0_40 h0_f41 h0_f42 h0_f43 h0_f44 h0_45 h0_46 h0_47 h0_48 h0_49 h0_50 h0_f51 h0_52 h0_f53 h2 h2k (upd j45b_h2c (0 : Int32).toNatClampNeg 0) h0_5 h0_5k tN h0_5c) := hD
              have l_86 : (upd j45b_h2c (0 : Int32).toNatClampNeg 0) (0 : Int32).toNatClampNeg = 0 := pk_us
              have i_87 : AP tRule (upd j45b_h2c (0 : Int32).toNatClampNeg 0) := AP_upc i_45b_h2 (RG_k 0 0 rfl) (by decide +kernel)
              have a_88 : AI (upd j45b_h2c (0 : Int32).toNatClampNeg 0) 0 99 := AI_up a_j45b_h2c (RG_k 0 0 rfl) (by decide +kernel)
              generalize huw_85 : (upd j45b_h2c (0 : Int32).toNatClampNeg 0) = w_85 at hP hD a_88 l_86 i_87
              replace hEX := hEX.trans (exl_eq huw_85.symm)
              have hP : va_P (dC, dI) vwCl (wd_c_X12_readItems_2 h0 h0_f0 h0_1 h0_2 h0_3 h0_4 h0_5 h0_f6 h0_f7 h0_f8 h0_f9 x_28 x_29 h0_f12 h0_f13 h0_f14 h0_15 h0_16 h0_f17 h0_18 h0_19 h0_20 h0_21 h0_22 h0_23 h0_24 h0_25 h0_f26 h0_f27 h0_f28 h0_f29 h0_f30 h0_f31 h0_32 h0_33 h0_f34 h0_35 h0_36 h0_37 h0_38 h0_39 h0_40 h0_f41 h0_f42 h0_f43 h0_f44 h0_45 h0_46 h0_47 h0_48 h0_49 h0_50 h0_f51 h0_52 h0_f53 h2 h2k w_85 h0_5 h0_5k tN h0_5c) H := hP
              have hD : va_D A (wd_c_X12_readItems_2 h0 h0_f0 h0_1 h0_2 h0_3 h0_4 h0_5 h0_f6 h0_f7 h0_f8 h0_f9 x_28 x_29 h0_f12 h0_f13 h0_f14 h0_15 h0_16 h0_f17 h0_18 h0_19 h0_20 h0_21 h0_22 h0_23 h0_24 h0_25 h0_f26 h0_f27 h0_f28 h0_f29 h0_f30 h0_f31 h0_32 h0_33 h0_f34 h0_35 h0_36 h0_37 h0_38 h0_39 h0_40 h0_f41 h0_f42 h0_f43 h0_f44 h0_45 h0_46 h0_47 h0_48 h0_49 h0_50 h0_f51 h0_52 h0_f53 h2 h2k w_85 h0_5 h0_5k tN h0_5c) := hD
              refine lv_aload_n hx hb dX12_readItems_116 rfl (lv_at hl 2 rfl) ?_
              refine va_get (D := (dC, dI)) (ci := 12) (v := .int x_29) (C := RX12) (T := TX12) (N := 54) hx hb hts iw_c_X12_readItems_2_X12 hown hK hP 0 rfl rfl 11 (by decide +kernel) (hts (.fieldLink RX12 143 "BuoyVoteModel" "fault" "I") (List.mem_of_getElem? (i := 48) rfl)) (fun _ h9 => h9) rfl dX12_readItems_117 ?_
              refine lv_iconst (v := (-1)) hx hb dX12_readItems_120 kc_iconst_m1 ?_
              refine lv_icmp_ne (tgt := 45) hx hb dX12_readItems_121 rfl (fun c_89 => ?_) (fun c_89 => ?_)
              · replace hEX := hEX.trans (if_neg c_89)
                exact hU _ _ _ (J45c x_16 0 x_28 x_29 w_85 g_h0_f10 g_h0_f17 g_h0_f26 g_h0_f27 g_h0_f28 g_h0_f29 g_h0_f30 g_h0_f31 g_h0_f34 g_h0_f41 g_h0_f51 g_h0_f53 g_h0_f6 g_h0_f7 g_h0_f8 g_h0_f9 h_37 h_38 (RG_w (RG_k 0 0 rfl) (by decide +kernel)) g_p1 a_88 hEX _ _ _ hP hD hS (lv_sub hl [0, 1, 2, 3, 4, 5, 6] rfl))
              · replace hEX := hEX.trans (if_pos c_89)
                exact RG_dead (RG_eq1 h_38 (RG_k (-1) (-1) rfl) c_89 (a' := 0) (b' := (-1)) (by decide +kernel)) (by decide +kernel)
            · have h_45 : (r_27, x_28, x_29) = _ := h_45
              replace hEX := hEX.trans (exc3_eq h_45)
              replace hEX := hEX.trans (if_neg (RG_neq (x := x_29) (c := (-1)) (show RG x_29 0 239 from h_43) (by decide +kernel)))
              replace hEX := hEX.trans (if_neg (RG_neq (x := r_27) (c := 0) (show RG r_27 10 99 from h_41) (by decide +kernel)))
              refine va_iast hx hb hK hP hD hS 1 0 rfl rfl (RG_in (RG_k 0 0 rfl) (by decide +kernel)) dX12_readItems_115 (fun H locs hP hD hS => ?_)
              as_aux_lemma =>
              have hP : va_P (dC, dI) vwCl (wd_c_X12_readItems_2 h0 h0_f0 h0_1 h0_2 h0_3 h0_4 h0_5 h0_f6 h0_f7 h0_f8 h0_f9 x_28 x_29 h0_f12 h0_f13 h0_f14 h0_15 h0_16 h0_f17 h0_18 h0_19 h0_20 h0_21 h0_22 h0_23 h0_24 h0_25 h0_f26 h0_f27 h0_f28 h0_f29 h0_f30 h0_f31 h0_32 h0_33 h0_f34 h0_35 h0_36 h0_37 h0_38 h0_39 h0_40 h0_f41 h0_f42 h0_f43 h0_f44 h0_45 h0_46 h0_47 h0_48 h0_49 h0_50 h0_f51 h0_52 h0_f53 h2 h2k (upd j45b_h2c (0 : Int32).toNatClampNeg r_27) h0_5 h0_5k tN h0_5c) H := hP
              have hD : va_D A (wd_c_X12_readItems_2 h0 h0_f0 h0_1 h0_2 h0_3 h0_4 h0_5 h0_f6 h0_f7 h0_f8 h0_f9 x_28 x_29 h0_f12 h0_f13 h0_f14 h0_15 h0_16 h0_f17 h0_18 h0_19 h0_20 h0_21 h0_22 h0_23 h0_24 h0_25 h0_f26 h0_f27 h0_f28 h0_f29 h0_f30 h0_f31 h0_32 h0_33 h0_f34 h0_35 h0_36 h0_37 h0_38 h0_39 h0_40 h0_f41 h0_f42 h0_f43 h0_f44 h0_45 h0_46 h0_47 h0_48 h0_49 h0_50 h0_f51 h0_52 h0_f53 h2 h2k (upd j45b_h2c (0 : Int32).toNatClampNeg r_27) h0_5 h0_5k tN h0_5c) := hD
              have l_91 : (upd j45b_h2c (0 : Int32).toNatClampNeg r_27) (0 : Int32).toNatClampNeg = r_27 := pk_us
              have a_92 : AI (upd j45b_h2c (0 : Int32).toNatClampNeg r_27) 0 99 := AI_up a_j45b_h2c h_41 (by decide +kernel)
              generalize huw_90 : (upd j45b_h2c (0 : Int32).toNatClampNeg r_27) = w_90 at hP hD a_92 l_91
              replace hEX := hEX.trans (exl_eq huw_90.symm)
              have hP : va_P (dC, dI) vwCl (wd_c_X12_readItems_2 h0 h0_f0 h0_1 h0_2 h0_3 h0_4 h0_5 h0_f6 h0_f7 h0_f8 h0_f9 x_28 x_29 h0_f12 h0_f13 h0_f14 h0_15 h0_16 h0_f17 h0_18 h0_19 h0_20 h0_21 h0_22 h0_23 h0_24 h0_25 h0_f26 h0_f27 h0_f28 h0_f29 h0_f30 h0_f31 h0_32 h0_33 h0_f34 h0_35 h0_36 h0_37 h0_38 h0_39 h0_40 h0_f41 h0_f42 h0_f43 h0_f44 h0_45 h0_46 h0_47 h0_48 h0_49 h0_50 h0_f51 h0_52 h0_f53 h2 h2k w_90 h0_5 h0_5k tN h0_5c) H := hP
              have hD : va_D A (wd_c_X12_readItems_2 h0 h0_f0 h0_1 h0_2 h0_3 h0_4 h0_5 h0_f6 h0_f7 h0_f8 h0_f9 x_28 x_29 h0_f12 h0_f13 h0_f14 h0_15 h0_16 h0_f17 h0_18 h0_19 h0_20 h0_21 h0_22 h0_23 h0_24 h0_25 h0_f26 h0_f27 h0_f28 h0_f29 h0_f30 h0_f31 h0_32 h0_33 h0_f34 h0_35 h0_36 h0_37 h0_38 h0_39 h0_40 h0_f41 h0_f42 h0_f43 h0_f44 h0_45 h0_46 h0_47 h0_48 h0_49 h0_50 h0_f51 h0_52 h0_f53 h2 h2k w_90 h0_5 h0_5k tN h0_5c) := hD
              refine lv_aload_n hx hb dX12_readItems_116 rfl (lv_at hl 2 rfl) ?_
              refine va_get (D := (dC, dI)) (ci := 12) (v := .int x_29) (C := RX12) (T := TX12) (N := 54) hx hb hts iw_c_X12_readItems_2_X12 hown hK hP 0 rfl rfl 11 (by decide +kernel) (hts (.fieldLink RX12 143 "BuoyVoteModel" "fault" "I") (List.mem_of_getElem? (i := 48) rfl)) (fun _ h9 => h9) rfl dX12_readItems_117 ?_
              refine lv_iconst (v := (-1)) hx hb dX12_readItems_120 kc_iconst_m1 ?_
              refine lv_icmp_ne (tgt := 45) hx hb dX12_readItems_121 rfl (fun c_93 => ?_) (fun c_93 => ?_)
              · replace hEX := hEX.trans (if_neg c_93)
                exact hU _ _ _ (J45c x_16 0 x_28 x_29 w_90 g_h0_f10 g_h0_f17 g_h0_f26 g_h0_f27 g_h0_f28 g_h0_f29 g_h0_f30 g_h0_f31 g_h0_f34 g_h0_f41 g_h0_f51 g_h0_f53 g_h0_f6 g_h0_f7 g_h0_f8 g_h0_f9 (RG_w h_42 (by decide +kernel)) (RG_w h_43 (by decide +kernel)) (RG_w (RG_k 0 0 rfl) (by decide +kernel)) g_p1 a_92 hEX _ _ _ hP hD hS (lv_sub hl [0, 1, 2, 3, 4, 5, 6] rfl))
              · replace hEX := hEX.trans (if_pos c_93)
                exact RG_dead (RG_eq1 h_43 (RG_k (-1) (-1) rfl) c_93 (a' := 0) (b' := (-1)) (by decide +kernel)) (by decide +kernel)
          · have h_13 : r_7 = _ := h_13
            replace hEX := hEX.trans (exc1_eq h_13)
            replace hEX := hEX.trans (if_neg (fun q9 : r_7 = 0 => absurd ((show r_7 = 1 from h_11).symm.trans q9) (by decide +kernel)))
            rw [h_11]
            refine lv_if_eq (tgt := 75) hx hb dX12_readItems_66 rfl (fun c_94 => absurd c_94 (by decide +kernel)) (fun c_94 => ?_)
            as_aux_lemma =>
            refine lv_aload_n hx hb dX12_readItems_69 rfl (lv_at hl 2 rfl) ?_
            obtain ⟨hPc, hDc, hFc, hqc⟩ := cl_cut (wc := (wd_c_X12_fails h0 h0_f0 h0_1 h0_2 h0_3 h0_4 h0_5 h0_f6 h0_f7 h0_f8 h0_f9 j45b_h0_f10 (-1) h0_f12 h0_f13 h0_f14 h0_15 h0_16 h0_f17 h0_18 h0_19 h0_20 h0_21 h0_22 h0_23 h0_24 h0_25 h0_f26 h0_f27 h0_f28 h0_f29 h0_f30 h0_f31 h0_32 h0_33 h0_f34 h0_35 h0_36 h0_37 h0_38 h0_39 h0_40 h0_f41 h0_f42 h0_f43 h0_f44 h0_45 h0_46 h0_47 h0_48 h0_49 h0_50 h0_f51 h0_52 h0_f53)) hP hD hS hA [0] (by decide +kernel) rfl
            have hKc := hK.sub (tys' := []) [] rfl
            have hrv := va_recv hKc hPc (ci := 12) (q0 := 0) rfl rfl
            refine va_calli (va_runV (As := []) (rest := []) ⟨hx, hb, hml, hown, hts⟩ (c_X12_fails l dC dI H.size h0 h0_f0 h0_1 h0_2 h0_3 h0_4 h0_5 h0_f6 h0_f7 h0_f8 h0_f9 j45b_h0_f10 h0_f12 h0_f13 h0_f14 h0_15 h0_16 h0_f17 h0_18 h0_19 h0_20 h0_21 h0_22 h0_23 h0_24 h0_25 h0_f26 h0_f27 h0_f28 h0_f29 h0_f30 h0_f31 h0_32 h0_33 h0_f34 h0_35 h0_36 h0_37 h0_38 h0_39 h0_40 h0_f41 h0_f42 h0_f43 h0_f44 h0_45 h0_46 h0_47 h0_48 h0_49 h0_50 h0_f51 h0_52 h0_f53 g_h0_f6 g_h0_f7 g_h0_f8 (RG_w g_h0_f9 (by decide +kernel)) (RG_w g_j45b_h0_f10 (by decide +kernel)) g_h0_f17 g_h0_f26 g_h0_f27 g_h0_f28 g_h0_f29 g_h0_f30 g_h0_f31 g_h0_f34 g_h0_f41 g_h0_f51 g_h0_f53) (cwV 0 hts gf_c_X12_readItems_2_c_X12_fails rfl rfl rfl mdV_X12_fails ⟨Nat.le_of_ble_eq_true rfl, Nat.le_of_ble_eq_true rfl⟩) ⟨fun a U g mk q => by obtain ⟨q0, q1, qP, qK, qD⟩ := q; exact ⟨q0, q1, qP, va_K.moved (u := U) (U := U.calling g mk a) (Vm.Alike.refl U.vm) qK, qD⟩, hrv, fun U hU hW => ⟨rfl, by rw [hU], by rw [hU]; exact hPc, va_K.moved hW.alike hKc, hDc.weaken (fun _ _ _ _ => trivial)⟩⟩ rfl rfl hl.1 rfl (lv_room (Nat.le_of_ble_eq_true rfl)) dX12_readItems_70 ⟨Nat.le_of_ble_eq_true rfl, Nat.le_of_ble_eq_true rfl⟩) hS (fun q _ h => hFc q h) hFc (fun r_95 u t H1 locs ht hvm hw hB hz1 hk1 hS => ?_)
            obtain ⟨hP1, hK1, hD1⟩ := hB
            rw [ht] at hP1
            obtain ⟨hP, hD⟩ := cl_put (w1 := (wd_c_X12_fails h0 h0_f0 h0_1 h0_2 h0_3 h0_4 h0_5 h0_f6 h0_f7 h0_f8 h0_f9 j45b_h0_f10 j45b_h0_f10 h0_f12 h0_f13 h0_f14 h0_15 h0_16 h0_f17 h0_18 h0_19 h0_20 h0_21 h0_22 h0_23 h0_24 h0_25 h0_f26 h0_f27 h0_f28 h0_f29 h0_f30 h0_f31 h0_32 h0_33 h0_f34 h0_35 h0_36 h0_37 h0_38 h0_39 h0_40 h0_f41 h0_f42 h0_f43 h0_f44 h0_45 h0_46 h0_47 h0_48 h0_49 h0_50 h0_f51 h0_52 h0_f53)) (nw := (wd_c_X12_readItems_2 h0 h0_f0 h0_1 h0_2 h0_3 h0_4 h0_5 h0_f6 h0_f7 h0_f8 h0_f9 j45b_h0_f10 j45b_h0_f10 h0_f12 h0_f13 h0_f14 h0_15 h0_16 h0_f17 h0_18 h0_19 h0_20 h0_21 h0_22 h0_23 h0_24 h0_25 h0_f26 h0_f27 h0_f28 h0_f29 h0_f30 h0_f31 h0_32 h0_33 h0_f34 h0_35 h0_36 h0_37 h0_38 h0_39 h0_40 h0_f41 h0_f42 h0_f43 h0_f44 h0_45 h0_46 h0_47 h0_48 h0_49 h0_50 h0_f51 h0_52 h0_f53 h2 h2k j45b_h2c h0_5 h0_5k tN h0_5c)) hP hD [0] [3, 1, 2] 3 rfl hqc (by decide +kernel) rfl hk1 hFc hP1 hD1
            generalize H1 = H at hP hS ⊢
            as_aux_lemma =>
            rcases hw with ⟨h_96, h_97⟩
            have h_97 : r_95 = _ := h_97
            replace hEX := hEX.trans (exc1_eq h_97)
            rw [h_96]
            refine lv_pop hx hb dX12_readItems_73 rfl ?_
            have hK9 := hK.sub (tys' := []) [] rfl
            exact W.vret hx hb hr (fun t ht hW => ⟨⟨(j45b_h0_f10, j45b_h0_f10, j45b_h2c), rfl, (Or.inr ⟨(RG_w g_j45b_h0_f10 (by decide +kernel)), (RG_w g_j45b_h0_f10 (by decide +kernel)), a_j45b_h2c, g_h0_f9, (hR.trans hEX).symm⟩), by rw [ht]; exact hP, va_K.moved hW.alike hK9, hD⟩, hS.F ht⟩) hS.2.2 dX12_readItems_74
        replace hEX := hEX.trans (if_neg c_6)
        by_cases c_98 : j45b_l6 = 1
        · replace hEX := hEX.trans (if_pos c_98)
          subst c_98
          refine lv_iload hx hb dX12_readItems_59 (lv_at hl 1 rfl) ?_
          refine lv_iload hx hb dX12_readItems_61 (lv_at hl 0 rfl) ?_
          obtain ⟨hPc, hDc, hFc, hqc⟩ := cl_cut (wc := []) hP hD hS hA [] (by decide +kernel) rfl
          have hKc := hK.sub (tys' := []) [] rfl
          refine va_calli (va_runS (As := [.int j45b_l5, .int 1]) (rest := []) ⟨hx, hb, hml, hown, hts⟩ (c_X12_has_2 l dC dI H.size j45b_l5 1 (RG_w (RG_k 1 1 rfl) (by decide +kernel))) (va_cwS 2 hts gf_c_X12_readItems_2_c_X12_has_2 rfl rfl rfl md_X12_has ⟨Nat.le_of_ble_eq_true rfl, Nat.le_of_ble_eq_true rfl⟩) ⟨fun a U g mk q => by obtain ⟨q0, q1, qP, qK, qD⟩ := q; exact ⟨q0, q1, qP, va_K.moved (u := U) (U := U.calling g mk a) (Vm.Alike.refl U.vm) qK, qD⟩, fun U hU hW => ⟨rfl, by rw [hU], by rw [hU]; exact hPc, va_K.moved hW.alike hKc, hDc.weaken (fun _ _ _ _ => trivial)⟩⟩ rfl rfl hl.1 rfl (lv_room (Nat.le_of_ble_eq_true rfl)) dX12_readItems_63 ⟨Nat.le_of_ble_eq_true rfl, Nat.le_of_ble_eq_true rfl⟩) hS (fun q _ h => hFc q h) hFc (fun r_99 u t H1 locs ht hvm hw hB hz1 hk1 hS => ?_)
          as_aux_lemma =>
          obtain ⟨hP1, hK1, hD1⟩ := hB
          rw [ht] at hP1
          have hP := bv_still hP hk1
          generalize H1 = H at hP hS ⊢
          as_aux_lemma =>
          rcases hw with ⟨h_100, h_101, h_102⟩ | ⟨h_103, h_104, h_105⟩
          · have h_102 : r_99 = _ := h_102
            replace hEX := hEX.trans (exc1_eq h_102)
            replace hEX := hEX.trans (if_pos (show r_99 = 0 from h_100))
            rw [h_100]
            refine lv_if_eq (tgt := 75) hx hb dX12_readItems_66 rfl (fun c_106 => ?_) (fun c_106 => absurd c_106 (by decide +kernel))
            refine lv_iload hx hb dX12_readItems_75 (lv_at hl 1 rfl) ?_
            refine lv_iconst (v := 1) hx hb dX12_readItems_77 kc_iconst_1 ?_
            refine lv_iload hx hb dX12_readItems_78 (lv_at hl 0 rfl) ?_
            refine lv_ishl hx hb dX12_readItems_80 ?_
            refine lv_topi (fun x_107 ex_107 => ?_)
            obtain rfl : x_107 = 2 := ex_107.trans (by decide +kernel)
            refine lv_ior hx hb dX12_readItems_81 ?_
            refine lv_topi (fun x_108 ex_108 => ?_)
            as_aux_lemma =>
            replace hEX := hEX.trans (exl_eq ex_108)
            refine lv_istore (lv' := [(5, .int x_108), (6, .int 1), (0, .ref h0), (1, .int p1), (2, .ref h2), (3, .int 0), (4, .ref ts8)]) hx hb dX12_readItems_82 hl (Nat.le_of_ble_eq_true rfl) rfl (fun ls hl => ?_)
            refine lv_aload_n hx hb dX12_readItems_84 rfl (lv_at hl 2 rfl) ?_
            refine lv_dup hx hb dX12_readItems_85 rfl ?_
            refine va_get (D := (dC, dI)) (ci := 12) (v := .int j45b_h0_f10) (C := RX12) (T := TX12) (N := 54) hx hb hts iw_c_X12_readItems_2_X12 hown hK hP 0 rfl rfl 10 (by decide +kernel) (hts (.fieldLink RX12 134 "BuoyVoteModel" "at" "I") (List.mem_of_getElem? (i := 21) rfl)) (fun _ h9 => h9) rfl dX12_readItems_86 ?_
            refine lv_iconst (v := 1) hx hb dX12_readItems_89 kc_iconst_1 ?_
            refine lv_iadd hx hb dX12_readItems_90 ?_
            refine lv_topi (fun x_109 ex_109 => ?_)
            replace hEX := hEX.trans (exl_eq ex_109)
            have g_110 : RG x_109 1 240 := RG_add ex_109 g_j45b_h0_f10 (RG_k 1 1 rfl) (by decide +kernel)
            have q_111 : x_109.toInt = j45b_h0_f10.toInt + 1 := eq_add ex_109 g_j45b_h0_f10 (q := 1) rfl (by decide +kernel)
            refine va_put (D := (dC, dI)) (ci := 12) (v := .int x_109) (ty := .int) (C := RX12) (T := TX12) (N := 54) hx hb hts iw_c_X12_readItems_2_X12 tyX12 tyX12_ok nmX12 hown hK hP hD hS 0 rfl rfl 10 (by decide +kernel) (hts (.fieldLink RX12 134 "BuoyVoteModel" "at" "I") (List.mem_of_getElem? (i := 21) rfl)) (fun _ h9 => h9) rfl (by decide +kernel) rfl rfl (Nat.le_of_ble_eq_true rfl) dX12_readItems_91 (fun H locs hP hD hS => ?_)
            have hP : va_P (dC, dI) vwCl (wd_c_X12_readItems_2 h0 h0_f0 h0_1 h0_2 h0_3 h0_4 h0_5 h0_f6 h0_f7 h0_f8 h0_f9 x_109 (-1) h0_f12 h0_f13 h0_f14 h0_15 h0_16 h0_f17 h0_18 h0_19 h0_20 h0_21 h0_22 h0_23 h0_24 h0_25 h0_f26 h0_f27 h0_f28 h0_f29 h0_f30 h0_f31 h0_32 h0_33 h0_f34 h0_35 h0_36 h0_37 h0_38 h0_39 h0_40 h0_f41 h0_f42 h0_f43 h0_f44 h0_45 h0_46 h0_47 h0_48 h0_49 h0_50 h0_f51 h0_52 h0_f53 h2 h2k j45b_h2c h0_5 h0_5k tN h0_5c) H := hP
            have hD : va_D A (wd_c_X12_readItems_2 h0 h0_f0 h0_1 h0_2 h0_3 h0_4 h0_5 h0_f6 h0_f7 h0_f8 h0_f9 x_109 (-1) h0_f12 h0_f13 h0_f14 h0_15 h0_16 h0_f17 h0_18 h0_19 h0_20 h0_21 h0_22 h0_23 h0_24 h0_25 h0_f26 h0_f27 h0_f28 h0_f29 h0_f30 h0_f31 h0_32 h0_33 h0_f34 h0_35 h0_36 h0_37 h0_38 h0_39 h0_40 h0_f41 h0_f42 h0_f43 h0_f44 h0_45 h0_46 h0_47 h0_48 h0_49 h0_50 h0_f51 h0_52 h0_f53 h2 h2k j45b_h2c h0_5 h0_5k tN h0_5c) := hD
            refine lv_aload_n hx hb dX12_readItems_94 rfl (lv_at hl 4 rfl) ?_
            as_aux_lemma =>
            refine lv_iload_n hx hb dX12_readItems_95 rfl (lv_at hl 5 rfl) ?_
            refine lv_iload hx hb dX12_readItems_96 (lv_at hl 1 rfl) ?_
            refine lv_iadd hx hb dX12_readItems_98 ?_
            refine lv_topi (fun x_112 ex_112 => ?_)
            obtain rfl : x_112 = 1 := ex_112.trans (by decide +kernel)
            refine lv_aload_n hx hb dX12_readItems_99 rfl (lv_at hl 2 rfl) ?_
            refine lv_iload_n hx hb dX12_readItems_100 rfl (lv_at hl 3 rfl) ?_
            refine lv_iload hx hb dX12_readItems_101 (lv_at hl 1 rfl) ?_
            obtain ⟨hPc, hDc, hFc, hqc⟩ := cl_cut (wc := []) hP hD hS hA [] (by decide +kernel) rfl
            have hKc := hK.sub (tys' := []) [] rfl
            refine va_calli (va_runS (As := [.int p1, .int 1]) (rest := [.ref h0, .int 1, .ref h2]) ⟨hx, hb, hml, hown, hts⟩ (c_X12_leastOf_6 l dC dI H.size p1 1 g_p1 (RG_w (RG_k 1 1 rfl) (by decide +kernel))) (va_cwS 2 hts gf_c_X12_readItems_2_c_X12_leastOf_6 rfl rfl rfl md_X12_leastOf ⟨Nat.le_of_ble_eq_true rfl, Nat.le_of_ble_eq_true rfl⟩) ⟨fun a U g mk q => by obtain ⟨q0, q1, qP, qK, qD⟩ := q; exact ⟨q0, q1, qP, va_K.moved (u := U) (U := U.calling g mk a) (Vm.Alike.refl U.vm) qK, qD⟩, fun U hU hW => ⟨rfl, by rw [hU], by rw [hU]; exact hPc, va_K.moved hW.alike hKc, hDc.weaken (fun _ _ _ _ => trivial)⟩⟩ rfl rfl hl.1 rfl (lv_room (Nat.le_of_ble_eq_true rfl)) dX12_readItems_103 ⟨Nat.le_of_ble_eq_true rfl, Nat.le_of_ble_eq_true rfl⟩) hS (fun q _ h => hFc q h) hFc (fun r_113 u t H1 locs ht hvm hw hB hz1 hk1 hS => ?_)
            obtain ⟨hP1, hK1, hD1⟩ := hB
            rw [ht] at hP1
            have hP := bv_still hP hk1
            generalize H1 = H at hP hS ⊢
            as_aux_lemma =>
            rcases hw with ⟨h_114, h_115⟩
            have h_115 : r_113 = _ := h_115
            replace hEX := hEX.trans (exc1_eq h_115)
            rw [h_114]
            refine lv_iload_n hx hb dX12_readItems_106 rfl (lv_at hl 3 rfl) ?_
            refine lv_iload hx hb dX12_readItems_107 (lv_at hl 1 rfl) ?_
            obtain ⟨hPc, hDc, hFc, hqc⟩ := cl_cut (wc := []) hP hD hS hA [] (by decide +kernel) rfl
            have hKc := hK.sub (tys' := []) [] rfl
            refine va_calli (va_runS (As := [.int p1, .int 1]) (rest := [.int 0, .ref h0, .int 1, .ref h2]) ⟨hx, hb, hml, hown, hts⟩ (c_X12_mostOf_6 l dC dI H.size p1 1 g_p1 (RG_w (RG_k 1 1 rfl) (by decide +kernel))) (va_cwS 2 hts gf_c_X12_readItems_2_c_X12_mostOf_6 rfl rfl rfl md_X12_mostOf ⟨Nat.le_of_ble_eq_true rfl, Nat.le_of_ble_eq_true rfl⟩) ⟨fun a U g mk q => by obtain ⟨q0, q1, qP, qK, qD⟩ := q; exact ⟨q0, q1, qP, va_K.moved (u := U) (U := U.calling g mk a) (Vm.Alike.refl U.vm) qK, qD⟩, fun U hU hW => ⟨rfl, by rw [hU], by rw [hU]; exact hPc, va_K.moved hW.alike hKc, hDc.weaken (fun _ _ _ _ => trivial)⟩⟩ rfl rfl hl.1 rfl (lv_room (Nat.le_of_ble_eq_true rfl)) dX12_readItems_109 ⟨Nat.le_of_ble_eq_true rfl, Nat.le_of_ble_eq_true rfl⟩) hS (fun q _ h => hFc q h) hFc (fun r_116 u t H1 locs ht hvm hw hB hz1 hk1 hS => ?_)
            obtain ⟨hP1, hK1, hD1⟩ := hB
            rw [ht] at hP1
            have hP := bv_still hP hk1
            generalize H1 = H at hP hS ⊢
            as_aux_lemma =>
            rcases hw with ⟨h_117, h_118, h_119⟩ | ⟨h_120, h_121, h_122⟩
            · have h_119 : r_116 = _ := h_119
              replace hEX := hEX.trans (exc1_eq h_119)
              replace hEX := hEX.trans (if_pos (show r_116 = 3 from h_117))
              rw [h_117]
              obtain ⟨hPc, hDc, hFc, hqc⟩ := cl_cut (wc := (wd_c_X12_number_2 h0 h0_f0 h0_1 h0_2 h0_3 h0_4 h0_5 h0_f6 h0_f7 h0_f8 h0_f9 x_109 (-1) h0_f12 h0_f13 h0_f14 h0_15 h0_16 h0_f17 h0_18 h0_19 h0_20 h0_21 h0_22 h0_23 h0_24 h0_25 h0_f26 h0_f27 h0_f28 h0_f29 h0_f30 h0_f31 h0_32 h0_33 h0_f34 h0_35 h0_36 h0_37 h0_38 h0_39 h0_40 h0_f41 h0_f42 h0_f43 h0_f44 h0_45 h0_46 h0_47 h0_48 h0_49 h0_50 h0_f51 h0_52 h0_f53 h0_5 h0_5k tN h0_5c)) hP hD hS hA [0, 2] (by decide +kernel) rfl
              have hKc := hK.sub (tys' := [(h0_5k, .byte)]) [1] rfl
              have hrv := va_recv hKc hPc (ci := 12) (q0 := 0) rfl rfl
              refine va_calli (va_runV (As := [.int 0, .int 3]) (rest := [.int 1, .ref h2]) ⟨hx, hb, hml, hown, hts⟩ (c_X12_number_2 l dC dI H.size h0 h0_f0 h0_1 h0_2 h0_3 h0_4 h0_5 h0_f6 h0_f7 h0_f8 h0_f9 x_109 h0_f12 h0_f13 h0_f14 h0_15 h0_16 h0_f17 h0_18 h0_19 h0_20 h0_21 h0_22 h0_23 h0_24 h0_25 h0_f26 h0_f27 h0_f28 h0_f29 h0_f30 h0_f31 h0_32 h0_33 h0_f34 h0_35 h0_36 h0_37 h0_38 h0_39 h0_40 h0_f41 h0_f42 h0_f43 h0_f44 h0_45 h0_46 h0_47 h0_48 h0_49 h0_50 h0_f51 h0_52 h0_f53 h0_5k h0_5c tN g_h0_f6 g_h0_f7 g_h0_f8 (RG_w g_h0_f9 (by decide +kernel)) (RG_w g_110 (by decide +kernel)) g_h0_f17 g_h0_f26 g_h0_f27 g_h0_f28 g_h0_f29 g_h0_f30 g_h0_f31 g_h0_f34 g_h0_f41 g_h0_f51 g_h0_f53 htN) (cwV 2 hts gf_c_X12_readItems_2_c_X12_number_2 rfl rfl rfl mdV_X12_number ⟨Nat.le_of_ble_eq_true rfl, Nat.le_of_ble_eq_true rfl⟩) ⟨fun a U g mk q => by obtain ⟨q0, q1, qP, qK, qD⟩ := q; exact ⟨q0, q1, qP, va_K.moved (u := U) (U := U.calling g mk a) (Vm.Alike.refl U.vm) qK, qD⟩, hrv, fun U hU hW => ⟨rfl, by rw [hU], by rw [hU]; exact hPc, va_K.moved hW.alike hKc, hDc.weaken (fun _ _ _ _ => trivial)⟩⟩ rfl rfl hl.1 rfl (lv_room (Nat.le_of_ble_eq_true rfl)) dX12_readItems_112 ⟨Nat.le_of_ble_eq_true rfl, Nat.le_of_ble_eq_true rfl⟩) hS (fun q _ h => hFc q h) hFc (fun r_123 u t H1 locs ht hvm hw hB hz1 hk1 hS => ?_)
              obtain ⟨x_124, x_125⟩ := u
              obtain ⟨hP1, hK1, hD1⟩ := hB
              rw [ht] at hP1
              obtain ⟨hP, hD⟩ := cl_put (w1 := (wd_c_X12_number_2 h0 h0_f0 h0_1 h0_2 h0_3 h0_4 h0_5 h0_f6 h0_f7 h0_f8 h0_f9 x_124 x_125 h0_f12 h0_f13 h0_f14 h0_15 h0_16 h0_f17 h0_18 h0_19 h0_20 h0_21 h0_22 h0_23 h0_24 h0_25 h0_f26 h0_f27 h0_f28 h0_f29 h0_f30 h0_f31 h0_32 h0_33 h0_f34 h0_35 h0_36 h0_37 h0_38 h0_39 h0_40 h0_f41 h0_f42 h0_f43 h0_f44 h0_45 h0_46 h0_47 h0_48 h0_49 h0_50 h0_f51 h0_52 h0_f53 h0_5 h0_5k tN h0_5c)) (nw := (wd_c_X12_readItems_2 h0 h0_f0 h0_1 h0_2 h0_3 h0_4 h0_5 h0_f6 h0_f7 h0_f8 h0_f9 x_124 x_125 h0_f12 h0_f13 h0_f14 h0_15 h0_16 h0_f17 h0_18 h0_19 h0_20 h0_21 h0_22 h0_23 h0_24 h0_25 h0_f26 h0_f27 h0_f28 h0_f29 h0_f30 h0_f31 h0_32 h0_33 h0_f34 h0_35 h0_36 h0_37 h0_38 h0_39 h0_40 h0_f41 h0_f42 h0_f43 h0_f44 h0_45 h0_46 h0_47 h0_48 h0_49 h0_50 h0_f51 h0_52 h0_f53 h2 h2k j45b_h2c h0_5 h0_5k tN h0_5c)) hP hD [0, 2] [3, 1, 4] 3 rfl hqc (by decide +kernel) rfl hk1 hFc hP1 hD1
              generalize H1 = H at hP hS ⊢
              as_aux_lemma =>
              rcases hw with ⟨h_126, h_127, h_128, h_129, h_130, h_131⟩ | ⟨h_132, h_133, h_134, h_135, h_136⟩ | ⟨h_137, h_138, h_139, h_140, h_141⟩
              · have h_131 : (r_123, x_124, x_125) = _ := h_131
                replace hEX := hEX.trans (exc3_eq h_131)
                replace hEX := hEX.trans (if_pos (show x_125 = (-1) from h_128))
                subst h_128
                have h_130 : x_109.toInt + 1 ≤ x_124.toInt := h_130
                refine va_iast hx hb hK hP hD hS 1 0 rfl rfl (RG_in (RG_k 1 1 rfl) (by decide +kernel)) dX12_readItems_115 (fun H locs hP hD hS => ?_)
                have hP : va_P (dC, dI) vwCl (wd_c_X12_readItems_2 h0 h0_f0 h0_1 h0_2 h0_3 h0_4 h0_5 h0_f6 h0_f7 h0_f8 h0_f9 x_124 (-1) h0_f12 h0_f13 h0_f14 h0_15 h0_16 h0_f17 h0_18 h0_19 h0_20 h0_21 h0_22 h0_23 h0_24 h0_25 h0_f26 h0_f27 h0_f28 h0_f29 h0_f30 h0_f31 h0_32 h0_33 h0_f34 h0_35 h0_36 h0_37 h0_38 h0_39 h0_40 h0_f41 h0_f42 h0_f43 h0_f44 h0_45 h0_46 h0_47 h0_48 h0_49 h0_50 h0_f51 h0_52 h0_f53 h2 h2k (upd j45b_h2c (1 : Int32).toNatClampNeg r_123) h0_5 h0_5k tN h0_5c) H := hP
                have hD : va_D A (wd_c_X12_readItems_2 h0 h0_f0 h0_1 h0_2 h0_3 h0_4 h0_5 h0_f6 h0_f7 h0_f8 h0_f9 x_124 (-1) h0_f12 h0_f13 h0_f14 h0_15 h0_16 h0_f17 h0_18 h0_19 h0_20 h0_21 h0_22 h0_23 h0_24 h0_25 h0_f26 h0_f27 h0_f28 h0_f29 h0_f30 h0_f31 h0_32 h0_33 h0_f34 h0_35 h0_36 h0_37 h0_38 h0_39 h0_40 h0_f41 h0_f42 h0_f43 h0_f44 h0_45 h0_46 h0_47 h0_48 h0_49 h0_50 h0_f51 h0_52 h0_f53 h2 h2k (upd j45b_h2c (1 : Int32).toNatClampNeg r_123) h0_5 h0_5k tN h0_5c) := hD
                have l_143 : (upd j45b_h2c (1 : Int32).toNatClampNeg r_123) (1 : Int32).toNatClampNeg = r_123 := pk_us
                have i_144 : AP tRule (upd j45b_h2c (1 : Int32).toNatClampNeg r_123) := AP_upc i_45b_h2 h_126 (by decide +kernel)
                have a_145 : AI (upd j45b_h2c (1 : Int32).toNatClampNeg r_123) 0 99 := AI_up a_j45b_h2c h_126 (by decide +kernel)
                generalize huw_142 : (upd j45b_h2c (1 : Int32).toNatClampNeg r_123) = w_142 at hP hD a_145 l_143 i_144
                replace hEX := hEX.trans (exl_eq huw_142.symm)
                have hP : va_P (dC, dI) vwCl (wd_c_X12_readItems_2 h0 h0_f0 h0_1 h0_2 h0_3 h0_4 h0_5 h0_f6 h0_f7 h0_f8 h0_f9 x_124 (-1) h0_f12 h0_f13 h0_f14 h0_15 h0_16 h0_f17 h0_18 h0_19 h0_20 h0_21 h0_22 h0_23 h0_24 h0_25 h0_f26 h0_f27 h0_f28 h0_f29 h0_f30 h0_f31 h0_32 h0_33 h0_f34 h0_35 h0_36 h0_37 h0_38 h0_39 h0_40 h0_f41 h0_f42 h0_f43 h0_f44 h0_45 h0_46 h0_47 h0_48 h0_49 h0_50 h0_f51 h0_52 h0_f53 h2 h2k w_142 h0_5 h0_5k tN h0_5c) H := hP
                have hD : va_D A (wd_c_X12_readItems_2 h0 h0_f0 h0_1 h0_2 h0_3 h0_4 h0_5 h0_f6 h0_f7 h0_f8 h0_f9 x_124 (-1) h0_f12 h0_f13 h0_f14 h0_15 h0_16 h0_f17 h0_18 h0_19 h0_20 h0_21 h0_22 h0_23 h0_24 h0_25 h0_f26 h0_f27 h0_f28 h0_f29 h0_f30 h0_f31 h0_32 h0_33 h0_f34 h0_35 h0_36 h0_37 h0_38 h0_39 h0_40 h0_f41 h0_f42 h0_f43 h0_f44 h0_45 h0_46 h0_47 h0_48 h0_49 h0_50 h0_f51 h0_52 h0_f53 h2 h2k w_142 h0_5 h0_5k tN h0_5c) := hD
                refine lv_aload_n hx hb dX12_readItems_116 rfl (lv_at hl 2 rfl) ?_
                as_aux_lemma =>
                refine va_get (D := (dC, dI)) (ci := 12) (v := .int (-1)) (C := RX12) (T := TX12) (N := 54) hx hb hts iw_c_X12_readItems_2_X12 hown hK hP 0 rfl rfl 11 (by decide +kernel) (hts (.fieldLink RX12 143 "BuoyVoteModel" "fault" "I") (List.mem_of_getElem? (i := 48) rfl)) (fun _ h9 => h9) rfl dX12_readItems_117 ?_
                refine lv_iconst (v := (-1)) hx hb dX12_readItems_120 kc_iconst_m1 ?_
                refine lv_icmp_ne (tgt := 45) hx hb dX12_readItems_121 rfl (fun c_146 => absurd c_146 (by decide +kernel)) (fun c_146 => ?_)
                refine lv_aload hx hb dX12_readItems_124 (lv_at hl 6 rfl) ?_
                refine lv_aload_n hx hb dX12_readItems_126 rfl (lv_at hl 2 rfl) ?_
                obtain ⟨hPc, hDc, hFc, hqc⟩ := cl_cut (wc := (wd_c_X12_look h0 h0_f0 h0_1 h0_2 h0_3 h0_4 h0_5 h0_f6 h0_f7 h0_f8 h0_f9 x_124 (-1) h0_f12 h0_f13 h0_f14 h0_15 h0_16 h0_f17 h0_18 h0_19 h0_20 h0_21 h0_22 h0_23 h0_24 h0_25 h0_f26 h0_f27 h0_f28 h0_f29 h0_f30 h0_f31 h0_32 h0_33 h0_f34 h0_35 h0_36 h0_37 h0_38 h0_39 h0_40 h0_f41 h0_f42 h0_f43 h0_f44 h0_45 h0_46 h0_47 h0_48 h0_49 h0_50 h0_f51 h0_52 h0_f53 h0_5 h0_5k tN h0_5c)) hP hD hS hA [0, 2] (by decide +kernel) rfl
                have hKc := hK.sub (tys' := [(h0_5k, .byte)]) [1] rfl
                have hrv := va_recv hKc hPc (ci := 12) (q0 := 0) rfl rfl
                refine va_calli (va_runV (As := []) (rest := [.ref ts8]) ⟨hx, hb, hml, hown, hts⟩ (c_X12_look l dC dI H.size h0 h0_f0 h0_1 h0_2 h0_3 h0_4 h0_5 h0_f6 h0_f7 h0_f8 h0_f9 x_124 h0_f12 h0_f13 h0_f14 h0_15 h0_16 h0_f17 h0_18 h0_19 h0_20 h0_21 h0_22 h0_23 h0_24 h0_25 h0_f26 h0_f27 h0_f28 h0_f29 h0_f30 h0_f31 h0_32 h0_33 h0_f34 h0_35 h0_36 h0_37 h0_38 h0_39 h0_40 h0_f41 h0_f42 h0_f43 h0_f44 h0_45 h0_46 h0_47 h0_48 h0_49 h0_50 h0_f51 h0_52 h0_f53 h0_5k h0_5c tN g_h0_f6 g_h0_f7 g_h0_f8 (RG_w g_h0_f9 (by decide +kernel)) (RG_w h_127 (by decide +kernel)) g_h0_f17 g_h0_f26 g_h0_f27 g_h0_f28 g_h0_f29 g_h0_f30 g_h0_f31 g_h0_f34 g_h0_f41 g_h0_f51 g_h0_f53 htN) (cwV 0 hts gf_c_X12_readItems_2_c_X12_look rfl rfl rfl mdV_X12_look ⟨Nat.le_of_ble_eq_true rfl, Nat.le_of_ble_eq_true rfl⟩) ⟨fun a U g mk q => by obtain ⟨q0, q1, qP, qK, qD⟩ := q; exact ⟨q0, q1, qP, va_K.moved (u := U) (U := U.calling g mk a) (Vm.Alike.refl U.vm) qK, qD⟩, hrv, fun U hU hW => ⟨rfl, by rw [hU], by rw [hU]; exact hPc, va_K.moved hW.alike hKc, hDc.weaken (fun _ _ _ _ => trivial)⟩⟩ rfl rfl hl.1 rfl (lv_room (Nat.le_of_ble_eq_true rfl)) dX12_readItems_127 ⟨Nat.le_of_ble_eq_true rfl, Nat.le_of_ble_eq_true rfl⟩) hS (fun q _ h => hFc q h) hFc (fun r_147 x_148 t H1 locs ht hvm hw hB hz1 hk1 hS => ?_)
                obtain ⟨hP1, hK1, hD1⟩ := hB
                rw [ht] at hP1
                obtain ⟨hP, hD⟩ := cl_put (w1 := (wd_c_X12_look h0 h0_f0 h0_1 h0_2 h0_3 h0_4 h0_5 h0_f6 h0_f7 h0_f8 h0_f9 x_148 (-1) h0_f12 h0_f13 h0_f14 h0_15 h0_16 h0_f17 h0_18 h0_19 h0_20 h0_21 h0_22 h0_23 h0_24 h0_25 h0_f26 h0_f27 h0_f28 h0_f29 h0_f30 h0_f31 h0_32 h0_33 h0_f34 h0_35 h0_36 h0_37 h0_38 h0_39 h0_40 h0_f41 h0_f42 h0_f43 h0_f44 h0_45 h0_46 h0_47 h0_48 h0_49 h0_50 h0_f51 h0_52 h0_f53 h0_5 h0_5k tN h0_5c)) (nw := (wd_c_X12_readItems_2 h0 h0_f0 h0_1 h0_2 h0_3 h0_4 h0_5 h0_f6 h0_f7 h0_f8 h0_f9 x_148 (-1) h0_f12 h0_f13 h0_f14 h0_15 h0_16 h0_f17 h0_18 h0_19 h0_20 h0_21 h0_22 h0_23 h0_24 h0_25 h0_f26 h0_f27 h0_f28 h0_f29 h0_f30 h0_f31 h0_32 h0_33 h0_f34 h0_35 h0_36 h0_37 h0_38 h0_39 h0_40 h0_f41 h0_f42 h0_f43 h0_f44 h0_45 h0_46 h0_47 h0_48 h0_49 h0_50 h0_f51 h0_52 h0_f53 h2 h2k w_142 h0_5 h0_5k tN h0_5c)) hP hD [0, 2] [3, 1, 4] 3 rfl hqc (by decide +kernel) rfl hk1 hFc hP1 hD1
                generalize H1 = H at hP hS ⊢
                as_aux_lemma =>
                rcases hw with ⟨h_149, h_150, h_151, h_152, h_153, h_154⟩ | ⟨h_155, h_156, h_157, h_158, h_159, h_160, h_161⟩
                · have h_154 : (r_147, x_148) = _ := h_154
                  replace hEX := hEX.trans (exc2_eq h_154)
                  replace hEX := hEX.trans (if_pos (show r_147 = (-1) from h_149))
                  rw [h_149]
                  obtain ⟨hPc, hDc, hFc, hqc⟩ := cl_cut (wc := []) hP hD hS hA [] (by decide +kernel) rfl
                  have hKc := hK.sub (tys' := []) [] rfl
                  refine va_calli (va_runS (As := [.ref ts8, .int (-1)]) (rest := []) ⟨hx, hb, hml, hown, hts⟩ (c_X12_spotOf_4 l dC dI H.size ts8 tv8) (va_cwS 2 hts gf_c_X12_readItems_2_c_X12_spotOf_4 rfl rfl rfl md_X12_spotOf ⟨Nat.le_of_ble_eq_true rfl, Nat.le_of_ble_eq_true rfl⟩) ⟨fun a U g mk q => by obtain ⟨q0, q1, qP, qK, qD, qE0, qE1, qE2, qE3, qE4, qE5⟩ := q; exact ⟨q0, q1, qP, va_K.moved (u := U) (U := U.calling g mk a) (Vm.Alike.refl U.vm) qK, qD, va_OF.moved (u := U) (U := U.calling g mk a) (Vm.Alike.refl U.vm) qE0, va_T.moved (u := U) (U := U.calling g mk a) (Vm.Alike.refl U.vm) qE1, va_Z.moved (u := U) (U := U.calling g mk a) (Vm.Alike.refl U.vm) qE2, va_OF.moved (u := U) (U := U.calling g mk a) (Vm.Alike.refl U.vm) qE3, va_O.moved (u := U) (U := U.calling g mk a) (Vm.Alike.refl U.vm) qE4, va_Zq.moved (u := U) (U := U.calling g mk a) (Vm.Alike.refl U.vm) qE5⟩, fun U hU hW => ⟨rfl, by rw [hU], by rw [hU]; exact hPc, va_K.moved hW.alike hKc, hDc.weaken (fun _ _ _ _ => trivial), va_OF.moved hW.alike (by rw [hU]; exact (hE_55.kept hS.2.1).narrow hFc), va_T.moved hW.alike (by rw [hU]; exact (hE_56.kept hS.2.1).narrow hFc), va_Z.moved hW.alike (by rw [hU]; exact (hE_10.kept hS.2.1).narrow hFc), va_OF.moved hW.alike (by rw [hU]; exact (hE_54.kept hS.2.1).narrow hFc), va_O.moved hW.alike (by rw [hU]; exact (hE_53.kept hS.2.1).narrow hFc), va_Zq.moved hW.alike (by rw [hU]; exact (hE_11.kept hS.2.1).narrow hFc)⟩⟩ rfl rfl hl.1 rfl (lv_room (Nat.le_of_ble_eq_true rfl)) dX12_readItems_130 ⟨Nat.le_of_ble_eq_true rfl, Nat.le_of_ble_eq_true rfl⟩) hS (fun q _ h => hFc q h) hFc (fun r_162 u t H1 locs ht hvm hw hB hz1 hk1 hS => ?_)
                  obtain ⟨hP1, hK1, hD1⟩ := hB
                  rw [ht] at hP1
                  have hP := bv_still hP hk1
                  generalize H1 = H at hP hS ⊢
                  as_aux_lemma =>
                  rcases hw with ⟨h_163, h_164⟩
                  have h_164 : r_162 = _ := h_164
                  replace hEX := hEX.trans (exc1_eq h_164)
                  rw [h_163]
                  refine lv_istore (lv' := [(6, .int (-1)), (5, .int x_108), (0, .ref h0), (1, .int p1), (2, .ref h2), (3, .int 0), (4, .ref ts8)]) hx hb dX12_readItems_133 hl (Nat.le_of_ble_eq_true rfl) rfl (fun ls hl => ?_)
                  refine lv_goto (tgt := 45) hx hb dX12_readItems_135 rfl ?_
                  exact hU _ _ _ (J45 x_108 x_148 w_142 g_h0_f10 g_h0_f17 g_h0_f26 g_h0_f27 g_h0_f28 g_h0_f29 g_h0_f30 g_h0_f31 g_h0_f34 g_h0_f41 g_h0_f51 g_h0_f53 g_h0_f6 g_h0_f7 g_h0_f8 (RG_w g_h0_f9 (by decide +kernel)) h_150 g_p1 a_145 i_144 (by have := r_h0_f10_j45b_h0_f10; have := q_111; have := h_130; have := h_151; omega) hEX _ _ _ hP hD hS (lv_sub hl [0, 1, 2, 3, 4, 5, 6] rfl))
                · have h_161 : (r_147, x_148) = _ := h_161
                  replace hEX := hEX.trans (exc2_eq h_161)
                  replace hEX := hEX.trans (if_neg (RG_neq (x := r_147) (c := (-1)) (show RG r_147 0 255 from h_155) (by decide +kernel)))
                  have nb_165 := h_160.2.resolve_left (fun q => by have g9 := h_155; rw [q] at g9; exact absurd g9.1 (by decide +kernel))
                  obtain ⟨hPc, hDc, hFc, hqc⟩ := cl_cut (wc := []) hP hD hS hA [] (by decide +kernel) rfl
                  have hKc := hK.sub (tys' := []) [] rfl
                  refine va_calli (va_runS (As := [.ref ts8, .int r_147]) (rest := []) ⟨hx, hb, hml, hown, hts⟩ (c_X12_spotOf_5 l dC dI H.size ts8 r_147 tv8 h_155) (va_cwS 2 hts gf_c_X12_readItems_2_c_X12_spotOf_5 rfl rfl rfl md_X12_spotOf ⟨Nat.le_of_ble_eq_true rfl, Nat.le_of_ble_eq_true rfl⟩) ⟨fun a U g mk q => by obtain ⟨q0, q1, qP, qK, qD, qE0, qE1, qE2, qE3, qE4, qE5⟩ := q; exact ⟨q0, q1, qP, va_K.moved (u := U) (U := U.calling g mk a) (Vm.Alike.refl U.vm) qK, qD, va_OF.moved (u := U) (U := U.calling g mk a) (Vm.Alike.refl U.vm) qE0, va_T.moved (u := U) (U := U.calling g mk a) (Vm.Alike.refl U.vm) qE1, va_Z.moved (u := U) (U := U.calling g mk a) (Vm.Alike.refl U.vm) qE2, va_OF.moved (u := U) (U := U.calling g mk a) (Vm.Alike.refl U.vm) qE3, va_O.moved (u := U) (U := U.calling g mk a) (Vm.Alike.refl U.vm) qE4, va_Zq.moved (u := U) (U := U.calling g mk a) (Vm.Alike.refl U.vm) qE5⟩, fun U hU hW => ⟨rfl, by rw [hU], by rw [hU]; exact hPc, va_K.moved hW.alike hKc, hDc.weaken (fun _ _ _ _ => trivial), va_OF.moved hW.alike (by rw [hU]; exact (hE_55.kept hS.2.1).narrow hFc), va_T.moved hW.alike (by rw [hU]; exact (hE_56.kept hS.2.1).narrow hFc), va_Z.moved hW.alike (by rw [hU]; exact (hE_10.kept hS.2.1).narrow hFc), va_OF.moved hW.alike (by rw [hU]; exact (hE_54.kept hS.2.1).narrow hFc), va_O.moved hW.alike (by rw [hU]; exact (hE_53.kept hS.2.1).narrow hFc), va_Zq.moved hW.alike (by rw [hU]; exact (hE_11.kept hS.2.1).narrow hFc)⟩⟩ rfl rfl hl.1 rfl (lv_room (Nat.le_of_ble_eq_true rfl)) dX12_readItems_130 ⟨Nat.le_of_ble_eq_true rfl, Nat.le_of_ble_eq_true rfl⟩) hS (fun q _ h => hFc q h) hFc (fun r_166 u t H1 locs ht hvm hw hB hz1 hk1 hS => ?_)
                  as_aux_lemma =>
                  obtain ⟨hP1, hK1, hD1⟩ := hB
                  rw [ht] at hP1
                  have hP := bv_still hP hk1
                  generalize H1 = H at hP hS ⊢
                  as_aux_lemma =>
                  rcases hw with ⟨h_167, h_168⟩ | ⟨h_169, h_170, h_171⟩ | ⟨h_172, h_173, h_174⟩ | ⟨h_175, h_176, h_177⟩ | ⟨h_178, h_179, h_180⟩
                  · have h_168 : r_166 = _ := h_168
                    replace hEX := hEX.trans (exc1_eq h_168)
                    replace hEX := hEX.trans (if_pos (show r_166 = (-1) from h_167))
                    rw [h_167]
                    refine lv_istore (lv' := [(6, .int (-1)), (5, .int x_108), (0, .ref h0), (1, .int p1), (2, .ref h2), (3, .int 0), (4, .ref ts8)]) hx hb dX12_readItems_133 hl (Nat.le_of_ble_eq_true rfl) rfl (fun ls hl => ?_)
                    refine lv_goto (tgt := 45) hx hb dX12_readItems_135 rfl ?_
                    exact hU _ _ _ (J45 x_108 x_148 w_142 g_h0_f10 g_h0_f17 g_h0_f26 g_h0_f27 g_h0_f28 g_h0_f29 g_h0_f30 g_h0_f31 g_h0_f34 g_h0_f41 g_h0_f51 g_h0_f53 g_h0_f6 g_h0_f7 g_h0_f8 (RG_w g_h0_f9 (by decide +kernel)) (RG_w h_156 (by decide +kernel)) g_p1 a_145 i_144 (by have := r_h0_f10_j45b_h0_f10; have := q_111; have := h_130; have := h_158; omega) hEX _ _ _ hP hD hS (lv_sub hl [0, 1, 2, 3, 4, 5, 6] rfl))
                  · have h_171 : r_166 = _ := h_171
                    replace hEX := hEX.trans (exc1_eq h_171)
                    replace hEX := hEX.trans (if_neg (fun q9 : r_166 = (-1) => absurd ((show r_166 = 3 from h_169).symm.trans q9) (by decide +kernel)))
                    replace hEX := hEX.trans (if_pos (show r_166 = 3 from h_169))
                    rw [h_169]
                    refine lv_istore (lv' := [(6, .int 3), (5, .int x_108), (0, .ref h0), (1, .int p1), (2, .ref h2), (3, .int 0), (4, .ref ts8)]) hx hb dX12_readItems_133 hl (Nat.le_of_ble_eq_true rfl) rfl (fun ls hl => ?_)
                    as_aux_lemma =>
                    refine lv_goto (tgt := 45) hx hb dX12_readItems_135 rfl ?_
                    exact hU _ _ _ (ih45b 3 x_108 x_148 w_142 (mu_s (MU_lt (by have := q_111; have := h_130; have := h_158; omega)) hM45b) g_h0_f10 g_h0_f17 g_h0_f26 g_h0_f27 g_h0_f28 g_h0_f29 g_h0_f30 g_h0_f31 g_h0_f34 g_h0_f41 g_h0_f51 g_h0_f53 g_h0_f6 g_h0_f7 g_h0_f8 g_h0_f9 h_156 (RG_w (RG_k 3 3 rfl) (by decide +kernel)) g_p1 a_145 i_144 (by have := r_h0_f10_j45b_h0_f10; have := q_111; have := h_130; have := h_158; omega) hEX _ _ _ hP hD hS (lv_sub hl [0, 1, 2, 3, 4, 5, 6] rfl))
                  · have h_174 : r_166 = _ := h_174
                    replace hEX := hEX.trans (exc1_eq h_174)
                    replace hEX := hEX.trans (if_neg (fun q9 : r_166 = (-1) => absurd ((show r_166 = 2 from h_172).symm.trans q9) (by decide +kernel)))
                    replace hEX := hEX.trans (if_neg (fun q9 : r_166 = 3 => absurd ((show r_166 = 2 from h_172).symm.trans q9) (by decide +kernel)))
                    replace hEX := hEX.trans (if_pos (show r_166 = 2 from h_172))
                    rw [h_172]
                    refine lv_istore (lv' := [(6, .int 2), (5, .int x_108), (0, .ref h0), (1, .int p1), (2, .ref h2), (3, .int 0), (4, .ref ts8)]) hx hb dX12_readItems_133 hl (Nat.le_of_ble_eq_true rfl) rfl (fun ls hl => ?_)
                    refine lv_goto (tgt := 45) hx hb dX12_readItems_135 rfl ?_
                    exact hU _ _ _ (ih45b 2 x_108 x_148 w_142 (mu_s (MU_lt (by have := q_111; have := h_130; have := h_158; omega)) hM45b) g_h0_f10 g_h0_f17 g_h0_f26 g_h0_f27 g_h0_f28 g_h0_f29 g_h0_f30 g_h0_f31 g_h0_f34 g_h0_f41 g_h0_f51 g_h0_f53 g_h0_f6 g_h0_f7 g_h0_f8 g_h0_f9 h_156 (RG_w (RG_k 2 2 rfl) (by decide +kernel)) g_p1 a_145 i_144 (by have := r_h0_f10_j45b_h0_f10; have := q_111; have := h_130; have := h_158; omega) hEX _ _ _ hP hD hS (lv_sub hl [0, 1, 2, 3, 4, 5, 6] rfl))
                  · have h_177 : r_166 = _ := h_177
                    replace hEX := hEX.trans (exc1_eq h_177)
                    replace hEX := hEX.trans (if_neg (fun q9 : r_166 = (-1) => absurd ((show r_166 = 1 from h_175).symm.trans q9) (by decide +kernel)))
                    replace hEX := hEX.trans (if_neg (fun q9 : r_166 = 3 => absurd ((show r_166 = 1 from h_175).symm.trans q9) (by decide +kernel)))
                    replace hEX := hEX.trans (if_neg (fun q9 : r_166 = 2 => absurd ((show r_166 = 1 from h_175).symm.trans q9) (by decide +kernel)))
                    replace hEX := hEX.trans (if_pos (show r_166 = 1 from h_175))
                    rw [h_175]
                    refine lv_istore (lv' := [(6, .int 1), (5, .int x_108), (0, .ref h0), (1, .int p1), (2, .ref h2), (3, .int 0), (4, .ref ts8)]) hx hb dX12_readItems_133 hl (Nat.le_of_ble_eq_true rfl) rfl (fun ls hl => ?_)
                    as_aux_lemma =>
                    refine lv_goto (tgt := 45) hx hb dX12_readItems_135 rfl ?_
                    exact hU _ _ _ (ih45b 1 x_108 x_148 w_142 (mu_s (MU_lt (by have := q_111; have := h_130; have := h_158; omega)) hM45b) g_h0_f10 g_h0_f17 g_h0_f26 g_h0_f27 g_h0_f28 g_h0_f29 g_h0_f30 g_h0_f31 g_h0_f34 g_h0_f41 g_h0_f51 g_h0_f53 g_h0_f6 g_h0_f7 g_h0_f8 g_h0_f9 h_156 (RG_w (RG_k 1 1 rfl) (by decide +kernel)) g_p1 a_145 i_144 (by have := r_h0_f10_j45b_h0_f10; have := q_111; have := h_130; have := h_158; omega) hEX _ _ _ hP hD hS (lv_sub hl [0, 1, 2, 3, 4, 5, 6] rfl))
                  · have h_180 : r_166 = _ := h_180
                    replace hEX := hEX.trans (exc1_eq h_180)
                    replace hEX := hEX.trans (if_neg (fun q9 : r_166 = (-1) => absurd ((show r_166 = 0 from h_178).symm.trans q9) (by decide +kernel)))
                    replace hEX := hEX.trans (if_neg (fun q9 : r_166 = 3 => absurd ((show r_166 = 0 from h_178).symm.trans q9) (by decide +kernel)))
                    replace hEX := hEX.trans (if_neg (fun q9 : r_166 = 2 => absurd ((show r_166 = 0 from h_178).symm.trans q9) (by decide +kernel)))
                    replace hEX := hEX.trans (if_neg (fun q9 : r_166 = 1 => absurd ((show r_166 = 0 from h_178).symm.trans q9) (by decide +kernel)))
                    rw [h_178]
                    refine lv_istore (lv' := [(6, .int 0), (5, .int x_108), (0, .ref h0), (1, .int p1), (2, .ref h2), (3, .int 0), (4, .ref ts8)]) hx hb dX12_readItems_133 hl (Nat.le_of_ble_eq_true rfl) rfl (fun ls hl => ?_)
                    refine lv_goto (tgt := 45) hx hb dX12_readItems_135 rfl ?_
                    exact hU _ _ _ (ih45b 0 x_108 x_148 w_142 (mu_s (MU_lt (by have := q_111; have := h_130; have := h_158; omega)) hM45b) g_h0_f10 g_h0_f17 g_h0_f26 g_h0_f27 g_h0_f28 g_h0_f29 g_h0_f30 g_h0_f31 g_h0_f34 g_h0_f41 g_h0_f51 g_h0_f53 g_h0_f6 g_h0_f7 g_h0_f8 g_h0_f9 h_156 (RG_w (RG_k 0 0 rfl) (by decide +kernel)) g_p1 a_145 i_144 (by have := r_h0_f10_j45b_h0_f10; have := q_111; have := h_130; have := h_158; omega) hEX _ _ _ hP hD hS (lv_sub hl [0, 1, 2, 3, 4, 5, 6] rfl))
              · have h_136 : (r_123, x_124, x_125) = _ := h_136
                replace hEX := hEX.trans (exc3_eq h_136)
                replace hEX := hEX.trans (if_neg (RG_neq (x := x_125) (c := (-1)) (show RG x_125 0 240 from h_134) (by decide +kernel)))
                replace hEX := hEX.trans (if_pos (show r_123 = 0 from h_132))
                rw [h_132]
                have h_135 : x_109.toInt + 0 ≤ x_124.toInt := h_135
                refine va_iast hx hb hK hP hD hS 1 0 rfl rfl (RG_in (RG_k 1 1 rfl) (by decide +kernel)) dX12_readItems_115 (fun H locs hP hD hS => ?_)
                as_aux_lemma =>
                have hP : va_P (dC, dI) vwCl (wd_c_X12_readItems_2 h0 h0_f0 h0_1 h0_2 h0_3 h0_4 h0_5 h0_f6 h0_f7 h0_f8 h0_f9 x_124 x_125 h0_f12 h0_f13 h0_f14 h0_15 h0_16 h0_f17 h0_18 h0_19 h0_20 h0_21 h0_22 h0_23 h0_24 h0_25 h0_f26 h0_f27 h0_f28 h0_f29 h0_f30 h0_f31 h0_32 h0_33 h0_f34 h0_35 h0_36 h0_37 h0_38 h0_39 h0_40 h0_f41 h0_f42 h0_f43 h0_f44 h0_45 h0_46 h0_47 h0_48 h0_49 h0_50 h0_f51 h0_52 h0_f53 h2 h2k (upd j45b_h2c (1 : Int32).toNatClampNeg 0) h0_5 h0_5k tN h0_5c) H := hP
                have hD : va_D A (wd_c_X12_readItems_2 h0 h0_f0 h0_1 h0_2 h0_3 h0_4 h0_5 h0_f6 h0_f7 h0_f8 h0_f9 x_124 x_125 h0_f12 h0_f13 h0_f14 h0_15 h0_16 h0_f17 h0_18 h0_19 h0_20 h0_21 h0_22 h0_23 h0_24 h0_25 h0_f26 h0_f27 h0_f28 h0_f29 h0_f30 h0_f31 h0_32 h0_33 h0_f34 h0_35 h0_36 h0_37 h0_38 h0_39 h0_40 h0_f41 h0_f42 h0_f43 h0_f44 h0_45 h0_46 h0_47 h0_48 h0_49 h0_50 h0_f51 h0_52 h0_f53 h2 h2k (upd j45b_h2c (1 : Int32).toNatClampNeg 0) h0_5 h0_5k tN h0_5c) := hD
                have l_182 : (upd j45b_h2c (1 : Int32).toNatClampNeg 0) (1 : Int32).toNatClampNeg = 0 := pk_us
                have i_183 : AP tRule (upd j45b_h2c (1 : Int32).toNatClampNeg 0) := AP_upc i_45b_h2 (RG_k 0 0 rfl) (by decide +kernel)
                have a_184 : AI (upd j45b_h2c (1 : Int32).toNatClampNeg 0) 0 99 := AI_up a_j45b_h2c (RG_k 0 0 rfl) (by decide +kernel)
                generalize huw_181 : (upd j45b_h2c (1 : Int32).toNatClampNeg 0) = w_181 at hP hD a_184 l_182 i_183
                replace hEX := hEX.trans (exl_eq huw_181.symm)
                have hP : va_P (dC, dI) vwCl (wd_c_X12_readItems_2 h0 h0_f0 h0_1 h0_2 h0_3 h0_4 h0_5 h0_f6 h0_f7 h0_f8 h0_f9 x_124 x_125 h0_f12 h0_f13 h0_f14 h0_15 h0_16 h0_f17 h0_18 h0_19 h0_20 h0_21 h0_22 h0_23 h0_24 h0_25 h0_f26 h0_f27 h0_f28 h0_f29 h0_f30 h0_f31 h0_32 h0_33 h0_f34 h0_35 h0_36 h0_37 h0_38 h0_39 h0_40 h0_f41 h0_f42 h0_f43 h0_f44 h0_45 h0_46 h0_47 h0_48 h0_49 h0_50 h0_f51 h0_52 h0_f53 h2 h2k w_181 h0_5 h0_5k tN h0_5c) H := hP
                have hD : va_D A (wd_c_X12_readItems_2 h0 h0_f0 h0_1 h0_2 h0_3 h0_4 h0_5 h0_f6 h0_f7 h0_f8 h0_f9 x_124 x_125 h0_f12 h0_f13 h0_f14 h0_15 h0_16 h0_f17 h0_18 h0_19 h0_20 h0_21 h0_22 h0_23 h0_24 h0_25 h0_f26 h0_f27 h0_f28 h0_f29 h0_f30 h0_f31 h0_32 h0_33 h0_f34 h0_35 h0_36 h0_37 h0_38 h0_39 h0_40 h0_f41 h0_f42 h0_f43 h0_f44 h0_45 h0_46 h0_47 h0_48 h0_49 h0_50 h0_f51 h0_52 h0_f53 h2 h2k w_181 h0_5 h0_5k tN h0_5c) := hD
                refine lv_aload_n hx hb dX12_readItems_116 rfl (lv_at hl 2 rfl) ?_
                refine va_get (D := (dC, dI)) (ci := 12) (v := .int x_125) (C := RX12) (T := TX12) (N := 54) hx hb hts iw_c_X12_readItems_2_X12 hown hK hP 0 rfl rfl 11 (by decide +kernel) (hts (.fieldLink RX12 143 "BuoyVoteModel" "fault" "I") (List.mem_of_getElem? (i := 48) rfl)) (fun _ h9 => h9) rfl dX12_readItems_117 ?_
                refine lv_iconst (v := (-1)) hx hb dX12_readItems_120 kc_iconst_m1 ?_
                refine lv_icmp_ne (tgt := 45) hx hb dX12_readItems_121 rfl (fun c_185 => ?_) (fun c_185 => ?_)
                · replace hEX := hEX.trans (if_neg c_185)
                  exact hU _ _ _ (J45c x_108 1 x_124 x_125 w_181 g_h0_f10 g_h0_f17 g_h0_f26 g_h0_f27 g_h0_f28 g_h0_f29 g_h0_f30 g_h0_f31 g_h0_f34 g_h0_f41 g_h0_f51 g_h0_f53 g_h0_f6 g_h0_f7 g_h0_f8 g_h0_f9 h_133 h_134 (RG_w (RG_k 1 1 rfl) (by decide +kernel)) g_p1 a_184 hEX _ _ _ hP hD hS (lv_sub hl [0, 1, 2, 3, 4, 5, 6] rfl))
                · replace hEX := hEX.trans (if_pos c_185)
                  exact RG_dead (RG_eq1 h_134 (RG_k (-1) (-1) rfl) c_185 (a' := 0) (b' := (-1)) (by decide +kernel)) (by decide +kernel)
              · have h_141 : (r_123, x_124, x_125) = _ := h_141
                replace hEX := hEX.trans (exc3_eq h_141)
                replace hEX := hEX.trans (if_neg (RG_neq (x := x_125) (c := (-1)) (show RG x_125 0 239 from h_139) (by decide +kernel)))
                replace hEX := hEX.trans (if_neg (RG_neq (x := r_123) (c := 0) (show RG r_123 4 99 from h_137) (by decide +kernel)))
                refine va_iast hx hb hK hP hD hS 1 0 rfl rfl (RG_in (RG_k 1 1 rfl) (by decide +kernel)) dX12_readItems_115 (fun H locs hP hD hS => ?_)
                as_aux_lemma =>
                have hP : va_P (dC, dI) vwCl (wd_c_X12_readItems_2 h0 h0_f0 h0_1 h0_2 h0_3 h0_4 h0_5 h0_f6 h0_f7 h0_f8 h0_f9 x_124 x_125 h0_f12 h0_f13 h0_f14 h0_15 h0_16 h0_f17 h0_18 h0_19 h0_20 h0_21 h0_22 h0_23 h0_24 h0_25 h0_f26 h0_f27 h0_f28 h0_f29 h0_f30 h0_f31 h0_32 h0_33 h0_f34 h0_35 h0_36 h0_37 h0_38 h0_39 h0_40 h0_f41 h0_f42 h0_f43 h0_f44 h0_45 h0_46 h0_47 h0_48 h0_49 h0_50 h0_f51 h0_52 h0_f53 h2 h2k (upd j45b_h2c (1 : Int32).toNatClampNeg r_123) h0_5 h0_5k tN h0_5c) H := hP
                have hD : va_D A (wd_c_X12_readItems_2 h0 h0_f0 h0_1 h0_2 h0_3 h0_4 h0_5 h0_f6 h0_f7 h0_f8 h0_f9 x_124 x_125 h0_f12 h0_f13 h0_f14 h0_15 h0_16 h0_f17 h0_18 h0_19 h0_20 h0_21 h0_22 h0_23 h0_24 h0_25 h0_f26 h0_f27 h0_f28 h0_f29 h0_f30 h0_f31 h0_32 h0_33 h0_f34 h0_35 h0_36 h0_37 h0_38 h0_39 h0_40 h0_f41 h0_f42 h0_f43 h0_f44 h0_45 h0_46 h0_47 h0_48 h0_49 h0_50 h0_f51 h0_52 h0_f53 h2 h2k (upd j45b_h2c (1 : Int32).toNatClampNeg r_123) h0_5 h0_5k tN h0_5c) := hD
                have l_187 : (upd j45b_h2c (1 : Int32).toNatClampNeg r_123) (1 : Int32).toNatClampNeg = r_123 := pk_us
                have a_188 : AI (upd j45b_h2c (1 : Int32).toNatClampNeg r_123) 0 99 := AI_up a_j45b_h2c h_137 (by decide +kernel)
                generalize huw_186 : (upd j45b_h2c (1 : Int32).toNatClampNeg r_123) = w_186 at hP hD a_188 l_187
                replace hEX := hEX.trans (exl_eq huw_186.symm)
                have hP : va_P (dC, dI) vwCl (wd_c_X12_readItems_2 h0 h0_f0 h0_1 h0_2 h0_3 h0_4 h0_5 h0_f6 h0_f7 h0_f8 h0_f9 x_124 x_125 h0_f12 h0_f13 h0_f14 h0_15 h0_16 h0_f17 h0_18 h0_19 h0_20 h0_21 h0_22 h0_23 h0_24 h0_25 h0_f26 h0_f27 h0_f28 h0_f29 h0_f30 h0_f31 h0_32 h0_33 h0_f34 h0_35 h0_36 h0_37 h0_38 h0_39 h0_40 h0_f41 h0_f42 h0_f43 h0_f44 h0_45 h0_46 h0_47 h0_48 h0_49 h0_50 h0_f51 h0_52 h0_f53 h2 h2k w_186 h0_5 h0_5k tN h0_5c) H := hP
                have hD : va_D A (wd_c_X12_readItems_2 h0 h0_f0 h0_1 h0_2 h0_3 h0_4 h0_5 h0_f6 h0_f7 h0_f8 h0_f9 x_124 x_125 h0_f12 h0_f13 h0_f14 h0_15 h0_16 h0_f17 h0_18 h0_19 h0_20 h0_21 h0_22 h0_23 h0_24 h0_25 h0_f26 h0_f27 h0_f28 h0_f29 h0_f30 h0_f31 h0_32 h0_33 h0_f34 h0_35 h0_36 h0_37 h0_38 h0_39 h0_40 h0_f41 h0_f42 h0_f43 h0_f44 h0_45 h0_46 h0_47 h0_48 h0_49 h0_50 h0_f51 h0_52 h0_f53 h2 h2k w_186 h0_5 h0_5k tN h0_5c) := hD
                refine lv_aload_n hx hb dX12_readItems_116 rfl (lv_at hl 2 rfl) ?_
                refine va_get (D := (dC, dI)) (ci := 12) (v := .int x_125) (C := RX12) (T := TX12) (N := 54) hx hb hts iw_c_X12_readItems_2_X12 hown hK hP 0 rfl rfl 11 (by decide +kernel) (hts (.fieldLink RX12 143 "BuoyVoteModel" "fault" "I") (List.mem_of_getElem? (i := 48) rfl)) (fun _ h9 => h9) rfl dX12_readItems_117 ?_
                refine lv_iconst (v := (-1)) hx hb dX12_readItems_120 kc_iconst_m1 ?_
                refine lv_icmp_ne (tgt := 45) hx hb dX12_readItems_121 rfl (fun c_189 => ?_) (fun c_189 => ?_)
                · replace hEX := hEX.trans (if_neg c_189)
                  exact hU _ _ _ (J45c x_108 1 x_124 x_125 w_186 g_h0_f10 g_h0_f17 g_h0_f26 g_h0_f27 g_h0_f28 g_h0_f29 g_h0_f30 g_h0_f31 g_h0_f34 g_h0_f41 g_h0_f51 g_h0_f53 g_h0_f6 g_h0_f7 g_h0_f8 g_h0_f9 (RG_w h_138 (by decide +kernel)) (RG_w h_139 (by decide +kernel)) (RG_w (RG_k 1 1 rfl) (by decide +kernel)) g_p1 a_188 hEX _ _ _ hP hD hS (lv_sub hl [0, 1, 2, 3, 4, 5, 6] rfl))
                · replace hEX := hEX.trans (if_pos c_189)
                  exact RG_dead (RG_eq1 h_139 (RG_k (-1) (-1) rfl) c_189 (a' := 0) (b' := (-1)) (by decide +kernel)) (by decide +kernel)
            · have h_122 : r_116 = _ := h_122
              replace hEX := hEX.trans (exc1_eq h_122)
              replace hEX := hEX.trans (if_neg (fun q9 : r_116 = 3 => absurd ((show r_116 = 9 from h_120).symm.trans q9) (by decide +kernel)))
              rw [h_120]
              exact RG_dead (RG_eq1 (RG_k 1 1 rfl) h_121 rfl (a' := 1) (b' := 0) (by decide +kernel)) (by decide +kernel)
          · have h_105 : r_99 = _ := h_105
            replace hEX := hEX.trans (exc1_eq h_105)
            replace hEX := hEX.trans (if_neg (fun q9 : r_99 = 0 => absurd ((show r_99 = 1 from h_103).symm.trans q9) (by decide +kernel)))
            rw [h_103]
            refine lv_if_eq (tgt := 75) hx hb dX12_readItems_66 rfl (fun c_190 => absurd c_190 (by decide +kernel)) (fun c_190 => ?_)
            as_aux_lemma =>
            refine lv_aload_n hx hb dX12_readItems_69 rfl (lv_at hl 2 rfl) ?_
            obtain ⟨hPc, hDc, hFc, hqc⟩ := cl_cut (wc := (wd_c_X12_fails h0 h0_f0 h0_1 h0_2 h0_3 h0_4 h0_5 h0_f6 h0_f7 h0_f8 h0_f9 j45b_h0_f10 (-1) h0_f12 h0_f13 h0_f14 h0_15 h0_16 h0_f17 h0_18 h0_19 h0_20 h0_21 h0_22 h0_23 h0_24 h0_25 h0_f26 h0_f27 h0_f28 h0_f29 h0_f30 h0_f31 h0_32 h0_33 h0_f34 h0_35 h0_36 h0_37 h0_38 h0_39 h0_40 h0_f41 h0_f42 h0_f43 h0_f44 h0_45 h0_46 h0_47 h0_48 h0_49 h0_50 h0_f51 h0_52 h0_f53)) hP hD hS hA [0] (by decide +kernel) rfl
            have hKc := hK.sub (tys' := []) [] rfl
            have hrv := va_recv hKc hPc (ci := 12) (q0 := 0) rfl rfl
            refine va_calli (va_runV (As := []) (rest := []) ⟨hx, hb, hml, hown, hts⟩ (c_X12_fails l dC dI H.size h0 h0_f0 h0_1 h0_2 h0_3 h0_4 h0_5 h0_f6 h0_f7 h0_f8 h0_f9 j45b_h0_f10 h0_f12 h0_f13 h0_f14 h0_15 h0_16 h0_f17 h0_18 h0_19 h0_20 h0_21 h0_22 h0_23 h0_24 h0_25 h0_f26 h0_f27 h0_f28 h0_f29 h0_f30 h0_f31 h0_32 h0_33 h0_f34 h0_35 h0_36 h0_37 h0_38 h0_39 h0_40 h0_f41 h0_f42 h0_f43 h0_f44 h0_45 h0_46 h0_47 h0_48 h0_49 h0_50 h0_f51 h0_52 h0_f53 g_h0_f6 g_h0_f7 g_h0_f8 (RG_w g_h0_f9 (by decide +kernel)) (RG_w g_j45b_h0_f10 (by decide +kernel)) g_h0_f17 g_h0_f26 g_h0_f27 g_h0_f28 g_h0_f29 g_h0_f30 g_h0_f31 g_h0_f34 g_h0_f41 g_h0_f51 g_h0_f53) (cwV 0 hts gf_c_X12_readItems_2_c_X12_fails rfl rfl rfl mdV_X12_fails ⟨Nat.le_of_ble_eq_true rfl, Nat.le_of_ble_eq_true rfl⟩) ⟨fun a U g mk q => by obtain ⟨q0, q1, qP, qK, qD⟩ := q; exact ⟨q0, q1, qP, va_K.moved (u := U) (U := U.calling g mk a) (Vm.Alike.refl U.vm) qK, qD⟩, hrv, fun U hU hW => ⟨rfl, by rw [hU], by rw [hU]; exact hPc, va_K.moved hW.alike hKc, hDc.weaken (fun _ _ _ _ => trivial)⟩⟩ rfl rfl hl.1 rfl (lv_room (Nat.le_of_ble_eq_true rfl)) dX12_readItems_70 ⟨Nat.le_of_ble_eq_true rfl, Nat.le_of_ble_eq_true rfl⟩) hS (fun q _ h => hFc q h) hFc (fun r_191 u t H1 locs ht hvm hw hB hz1 hk1 hS => ?_)
            obtain ⟨hP1, hK1, hD1⟩ := hB
            rw [ht] at hP1
            obtain ⟨hP, hD⟩ := cl_put (w1 := (wd_c_X12_fails h0 h0_f0 h0_1 h0_2 h0_3 h0_4 h0_5 h0_f6 h0_f7 h0_f8 h0_f9 j45b_h0_f10 j45b_h0_f10 h0_f12 h0_f13 h0_f14 h0_15 h0_16 h0_f17 h0_18 h0_19 h0_20 h0_21 h0_22 h0_23 h0_24 h0_25 h0_f26 h0_f27 h0_f28 h0_f29 h0_f30 h0_f31 h0_32 h0_33 h0_f34 h0_35 h0_36 h0_37 h0_38 h0_39 h0_40 h0_f41 h0_f42 h0_f43 h0_f44 h0_45 h0_46 h0_47 h0_48 h0_49 h0_50 h0_f51 h0_52 h0_f53)) (nw := (wd_c_X12_readItems_2 h0 h0_f0 h0_1 h0_2 h0_3 h0_4 h0_5 h0_f6 h0_f7 h0_f8 h0_f9 j45b_h0_f10 j45b_h0_f10 h0_f12 h0_f13 h0_f14 h0_15 h0_16 h0_f17 h0_18 h0_19 h0_20 h0_21 h0_22 h0_23 h0_24 h0_25 h0_f26 h0_f27 h0_f28 h0_f29 h0_f30 h0_f31 h0_32 h0_33 h0_f34 h0_35 h0_36 h0_37 h0_38 h0_39 h0_40 h0_f41 h0_f42 h0_f43 h0_f44 h0_45 h0_46 h0_47 h0_48 h0_49 h0_50 h0_f51 h0_52 h0_f53 h2 h2k j45b_h2c h0_5 h0_5k tN h0_5c)) hP hD [0] [3, 1, 2] 3 rfl hqc (by decide +kernel) rfl hk1 hFc hP1 hD1
            generalize H1 = H at hP hS ⊢
            as_aux_lemma =>
            rcases hw with ⟨h_192, h_193⟩
            have h_193 : r_191 = _ := h_193
            replace hEX := hEX.trans (exc1_eq h_193)
            rw [h_192]
            refine lv_pop hx hb dX12_readItems_73 rfl ?_
            have hK9 := hK.sub (tys' := []) [] rfl
            exact W.vret hx hb hr (fun t ht hW => ⟨⟨(j45b_h0_f10, j45b_h0_f10, j45b_h2c), rfl, (Or.inr ⟨(RG_w g_j45b_h0_f10 (by decide +kernel)), (RG_w g_j45b_h0_f10 (by decide +kernel)), a_j45b_h2c, g_h0_f9, (hR.trans hEX).symm⟩), by rw [ht]; exact hP, va_K.moved hW.alike hK9, hD⟩, hS.F ht⟩) hS.2.2 dX12_readItems_74
        replace hEX := hEX.trans (if_neg c_98)
        by_cases c_194 : j45b_l6 = 2
        · replace hEX := hEX.trans (if_pos c_194)
          subst c_194
          refine lv_iload hx hb dX12_readItems_59 (lv_at hl 1 rfl) ?_
          refine lv_iload hx hb dX12_readItems_61 (lv_at hl 0 rfl) ?_
          obtain ⟨hPc, hDc, hFc, hqc⟩ := cl_cut (wc := []) hP hD hS hA [] (by decide +kernel) rfl
          have hKc := hK.sub (tys' := []) [] rfl
          refine va_calli (va_runS (As := [.int j45b_l5, .int 2]) (rest := []) ⟨hx, hb, hml, hown, hts⟩ (c_X12_has_2 l dC dI H.size j45b_l5 2 (RG_w (RG_k 2 2 rfl) (by decide +kernel))) (va_cwS 2 hts gf_c_X12_readItems_2_c_X12_has_2 rfl rfl rfl md_X12_has ⟨Nat.le_of_ble_eq_true rfl, Nat.le_of_ble_eq_true rfl⟩) ⟨fun a U g mk q => by obtain ⟨q0, q1, qP, qK, qD⟩ := q; exact ⟨q0, q1, qP, va_K.moved (u := U) (U := U.calling g mk a) (Vm.Alike.refl U.vm) qK, qD⟩, fun U hU hW => ⟨rfl, by rw [hU], by rw [hU]; exact hPc, va_K.moved hW.alike hKc, hDc.weaken (fun _ _ _ _ => trivial)⟩⟩ rfl rfl hl.1 rfl (lv_room (Nat.le_of_ble_eq_true rfl)) dX12_readItems_63 ⟨Nat.le_of_ble_eq_true rfl, Nat.le_of_ble_eq_true rfl⟩) hS (fun q _ h => hFc q h) hFc (fun r_195 u t H1 locs ht hvm hw hB hz1 hk1 hS => ?_)
          as_aux_lemma =>
          obtain ⟨hP1, hK1, hD1⟩ := hB
          rw [ht] at hP1
          have hP := bv_still hP hk1
          generalize H1 = H at hP hS ⊢
          as_aux_lemma =>
          rcases hw with ⟨h_196, h_197, h_198⟩ | ⟨h_199, h_200, h_201⟩
          · have h_198 : r_195 = _ := h_198
            replace hEX := hEX.trans (exc1_eq h_198)
            replace hEX := hEX.trans (if_pos (show r_195 = 0 from h_196))
            rw [h_196]
            refine lv_if_eq (tgt := 75) hx hb dX12_readItems_66 rfl (fun c_202 => ?_) (fun c_202 => absurd c_202 (by decide +kernel))
            refine lv_iload hx hb dX12_readItems_75 (lv_at hl 1 rfl) ?_
            refine lv_iconst (v := 1) hx hb dX12_readItems_77 kc_iconst_1 ?_
            refine lv_iload hx hb dX12_readItems_78 (lv_at hl 0 rfl) ?_
            refine lv_ishl hx hb dX12_readItems_80 ?_
            refine lv_topi (fun x_203 ex_203 => ?_)
            obtain rfl : x_203 = 4 := ex_203.trans (by decide +kernel)
            refine lv_ior hx hb dX12_readItems_81 ?_
            refine lv_topi (fun x_204 ex_204 => ?_)
            as_aux_lemma =>
            replace hEX := hEX.trans (exl_eq ex_204)
            refine lv_istore (lv' := [(5, .int x_204), (6, .int 2), (0, .ref h0), (1, .int p1), (2, .ref h2), (3, .int 0), (4, .ref ts8)]) hx hb dX12_readItems_82 hl (Nat.le_of_ble_eq_true rfl) rfl (fun ls hl => ?_)
            refine lv_aload_n hx hb dX12_readItems_84 rfl (lv_at hl 2 rfl) ?_
            refine lv_dup hx hb dX12_readItems_85 rfl ?_
            refine va_get (D := (dC, dI)) (ci := 12) (v := .int j45b_h0_f10) (C := RX12) (T := TX12) (N := 54) hx hb hts iw_c_X12_readItems_2_X12 hown hK hP 0 rfl rfl 10 (by decide +kernel) (hts (.fieldLink RX12 134 "BuoyVoteModel" "at" "I") (List.mem_of_getElem? (i := 21) rfl)) (fun _ h9 => h9) rfl dX12_readItems_86 ?_
            refine lv_iconst (v := 1) hx hb dX12_readItems_89 kc_iconst_1 ?_
            refine lv_iadd hx hb dX12_readItems_90 ?_
            refine lv_topi (fun x_205 ex_205 => ?_)
            replace hEX := hEX.trans (exl_eq ex_205)
            have g_206 : RG x_205 1 240 := RG_add ex_205 g_j45b_h0_f10 (RG_k 1 1 rfl) (by decide +kernel)
            have q_207 : x_205.toInt = j45b_h0_f10.toInt + 1 := eq_add ex_205 g_j45b_h0_f10 (q := 1) rfl (by decide +kernel)
            refine va_put (D := (dC, dI)) (ci := 12) (v := .int x_205) (ty := .int) (C := RX12) (T := TX12) (N := 54) hx hb hts iw_c_X12_readItems_2_X12 tyX12 tyX12_ok nmX12 hown hK hP hD hS 0 rfl rfl 10 (by decide +kernel) (hts (.fieldLink RX12 134 "BuoyVoteModel" "at" "I") (List.mem_of_getElem? (i := 21) rfl)) (fun _ h9 => h9) rfl (by decide +kernel) rfl rfl (Nat.le_of_ble_eq_true rfl) dX12_readItems_91 (fun H locs hP hD hS => ?_)
            have hP : va_P (dC, dI) vwCl (wd_c_X12_readItems_2 h0 h0_f0 h0_1 h0_2 h0_3 h0_4 h0_5 h0_f6 h0_f7 h0_f8 h0_f9 x_205 (-1) h0_f12 h0_f13 h0_f14 h0_15 h0_16 h0_f17 h0_18 h0_19 h0_20 h0_21 h0_22 h0_23 h0_24 h0_25 h0_f26 h0_f27 h0_f28 h0_f29 h0_f30 h0_f31 h0_32 h0_33 h0_f34 h0_35 h0_36 h0_37 h0_38 h0_39 h0_40 h0_f41 h0_f42 h0_f43 h0_f44 h0_45 h0_46 h0_47 h0_48 h0_49 h0_50 h0_f51 h0_52 h0_f53 h2 h2k j45b_h2c h0_5 h0_5k tN h0_5c) H := hP
            have hD : va_D A (wd_c_X12_readItems_2 h0 h0_f0 h0_1 h0_2 h0_3 h0_4 h0_5 h0_f6 h0_f7 h0_f8 h0_f9 x_205 (-1) h0_f12 h0_f13 h0_f14 h0_15 h0_16 h0_f17 h0_18 h0_19 h0_20 h0_21 h0_22 h0_23 h0_24 h0_25 h0_f26 h0_f27 h0_f28 h0_f29 h0_f30 h0_f31 h0_32 h0_33 h0_f34 h0_35 h0_36 h0_37 h0_38 h0_39 h0_40 h0_f41 h0_f42 h0_f43 h0_f44 h0_45 h0_46 h0_47 h0_48 h0_49 h0_50 h0_f51 h0_52 h0_f53 h2 h2k j45b_h2c h0_5 h0_5k tN h0_5c) := hD
            refine lv_aload_n hx hb dX12_readItems_94 rfl (lv_at hl 4 rfl) ?_
            as_aux_lemma =>
            refine lv_iload_n hx hb dX12_readItems_95 rfl (lv_at hl 5 rfl) ?_
            refine lv_iload hx hb dX12_readItems_96 (lv_at hl 1 rfl) ?_
            refine lv_iadd hx hb dX12_readItems_98 ?_
            refine lv_topi (fun x_208 ex_208 => ?_)
            obtain rfl : x_208 = 2 := ex_208.trans (by decide +kernel)
            refine lv_aload_n hx hb dX12_readItems_99 rfl (lv_at hl 2 rfl) ?_
            refine lv_iload_n hx hb dX12_readItems_100 rfl (lv_at hl 3 rfl) ?_
            refine lv_iload hx hb dX12_readItems_101 (lv_at hl 1 rfl) ?_
            obtain ⟨hPc, hDc, hFc, hqc⟩ := cl_cut (wc := []) hP hD hS hA [] (by decide +kernel) rfl
            have hKc := hK.sub (tys' := []) [] rfl
            refine va_calli (va_runS (As := [.int p1, .int 2]) (rest := [.ref h0, .int 2, .ref h2]) ⟨hx, hb, hml, hown, hts⟩ (c_X12_leastOf_7 l dC dI H.size p1 2 g_p1 (RG_w (RG_k 2 2 rfl) (by decide +kernel))) (va_cwS 2 hts gf_c_X12_readItems_2_c_X12_leastOf_7 rfl rfl rfl md_X12_leastOf ⟨Nat.le_of_ble_eq_true rfl, Nat.le_of_ble_eq_true rfl⟩) ⟨fun a U g mk q => by obtain ⟨q0, q1, qP, qK, qD⟩ := q; exact ⟨q0, q1, qP, va_K.moved (u := U) (U := U.calling g mk a) (Vm.Alike.refl U.vm) qK, qD⟩, fun U hU hW => ⟨rfl, by rw [hU], by rw [hU]; exact hPc, va_K.moved hW.alike hKc, hDc.weaken (fun _ _ _ _ => trivial)⟩⟩ rfl rfl hl.1 rfl (lv_room (Nat.le_of_ble_eq_true rfl)) dX12_readItems_103 ⟨Nat.le_of_ble_eq_true rfl, Nat.le_of_ble_eq_true rfl⟩) hS (fun q _ h => hFc q h) hFc (fun r_209 u t H1 locs ht hvm hw hB hz1 hk1 hS => ?_)
            obtain ⟨hP1, hK1, hD1⟩ := hB
            rw [ht] at hP1
            have hP := bv_still hP hk1
            generalize H1 = H at hP hS ⊢
            as_aux_lemma =>
            rcases hw with ⟨h_210, h_211, h_212⟩ | ⟨h_213, h_214, h_215⟩
            · have h_212 : r_209 = _ := h_212
              replace hEX := hEX.trans (exc1_eq h_212)
              replace hEX := hEX.trans (if_pos (show r_209 = 0 from h_210))
              rw [h_210]
              exact RG_dead (RG_eq1 (RG_k 2 2 rfl) h_211 rfl (a' := 2) (b' := 1) (by decide +kernel)) (by decide +kernel)
            · have h_215 : r_209 = _ := h_215
              replace hEX := hEX.trans (exc1_eq h_215)
              replace hEX := hEX.trans (if_neg (fun q9 : r_209 = 0 => absurd ((show r_209 = 1 from h_213).symm.trans q9) (by decide +kernel)))
              rw [h_213]
              refine lv_iload_n hx hb dX12_readItems_106 rfl (lv_at hl 3 rfl) ?_
              refine lv_iload hx hb dX12_readItems_107 (lv_at hl 1 rfl) ?_
              obtain ⟨hPc, hDc, hFc, hqc⟩ := cl_cut (wc := []) hP hD hS hA [] (by decide +kernel) rfl
              have hKc := hK.sub (tys' := []) [] rfl
              refine va_calli (va_runS (As := [.int p1, .int 2]) (rest := [.int 1, .ref h0, .int 2, .ref h2]) ⟨hx, hb, hml, hown, hts⟩ (c_X12_mostOf_7 l dC dI H.size p1 2 g_p1 (RG_w (RG_k 2 2 rfl) (by decide +kernel))) (va_cwS 2 hts gf_c_X12_readItems_2_c_X12_mostOf_7 rfl rfl rfl md_X12_mostOf ⟨Nat.le_of_ble_eq_true rfl, Nat.le_of_ble_eq_true rfl⟩) ⟨fun a U g mk q => by obtain ⟨q0, q1, qP, qK, qD⟩ := q; exact ⟨q0, q1, qP, va_K.moved (u := U) (U := U.calling g mk a) (Vm.Alike.refl U.vm) qK, qD⟩, fun U hU hW => ⟨rfl, by rw [hU], by rw [hU]; exact hPc, va_K.moved hW.alike hKc, hDc.weaken (fun _ _ _ _ => trivial)⟩⟩ rfl rfl hl.1 rfl (lv_room (Nat.le_of_ble_eq_true rfl)) dX12_readItems_109 ⟨Nat.le_of_ble_eq_true rfl, Nat.le_of_ble_eq_true rfl⟩) hS (fun q _ h => hFc q h) hFc (fun r_216 u t H1 locs ht hvm hw hB hz1 hk1 hS => ?_)
              as_aux_lemma =>
              obtain ⟨hP1, hK1, hD1⟩ := hB
              rw [ht] at hP1
              have hP := bv_still hP hk1
              generalize H1 = H at hP hS ⊢
              as_aux_lemma =>
              rcases hw with ⟨h_217, h_218, h_219⟩ | ⟨h_220, h_221, h_222⟩ | ⟨h_223, h_224, h_225⟩
              · have h_219 : r_216 = _ := h_219
                replace hEX := hEX.trans (exc1_eq h_219)
                replace hEX := hEX.trans (if_pos (show r_216 = 12 from h_217))
                rw [h_217]
                obtain ⟨hPc, hDc, hFc, hqc⟩ := cl_cut (wc := (wd_c_X12_number_3 h0 h0_f0 h0_1 h0_2 h0_3 h0_4 h0_5 h0_f6 h0_f7 h0_f8 h0_f9 x_205 (-1) h0_f12 h0_f13 h0_f14 h0_15 h0_16 h0_f17 h0_18 h0_19 h0_20 h0_21 h0_22 h0_23 h0_24 h0_25 h0_f26 h0_f27 h0_f28 h0_f29 h0_f30 h0_f31 h0_32 h0_33 h0_f34 h0_35 h0_36 h0_37 h0_38 h0_39 h0_40 h0_f41 h0_f42 h0_f43 h0_f44 h0_45 h0_46 h0_47 h0_48 h0_49 h0_50 h0_f51 h0_52 h0_f53 h0_5 h0_5k tN h0_5c)) hP hD hS hA [0, 2] (by decide +kernel) rfl
                have hKc := hK.sub (tys' := [(h0_5k, .byte)]) [1] rfl
                have hrv := va_recv hKc hPc (ci := 12) (q0 := 0) rfl rfl
                refine va_calli (va_runV (As := [.int 1, .int 12]) (rest := [.int 2, .ref h2]) ⟨hx, hb, hml, hown, hts⟩ (c_X12_number_3 l dC dI H.size h0 h0_f0 h0_1 h0_2 h0_3 h0_4 h0_5 h0_f6 h0_f7 h0_f8 h0_f9 x_205 h0_f12 h0_f13 h0_f14 h0_15 h0_16 h0_f17 h0_18 h0_19 h0_20 h0_21 h0_22 h0_23 h0_24 h0_25 h0_f26 h0_f27 h0_f28 h0_f29 h0_f30 h0_f31 h0_32 h0_33 h0_f34 h0_35 h0_36 h0_37 h0_38 h0_39 h0_40 h0_f41 h0_f42 h0_f43 h0_f44 h0_45 h0_46 h0_47 h0_48 h0_49 h0_50 h0_f51 h0_52 h0_f53 h0_5k h0_5c tN g_h0_f6 g_h0_f7 g_h0_f8 (RG_w g_h0_f9 (by decide +kernel)) (RG_w g_206 (by decide +kernel)) g_h0_f17 g_h0_f26 g_h0_f27 g_h0_f28 g_h0_f29 g_h0_f30 g_h0_f31 g_h0_f34 g_h0_f41 g_h0_f51 g_h0_f53 htN) (cwV 2 hts gf_c_X12_readItems_2_c_X12_number_3 rfl rfl rfl mdV_X12_number ⟨Nat.le_of_ble_eq_true rfl, Nat.le_of_ble_eq_true rfl⟩) ⟨fun a U g mk q => by obtain ⟨q0, q1, qP, qK, qD⟩ := q; exact ⟨q0, q1, qP, va_K.moved (u := U) (U := U.calling g mk a) (Vm.Alike.refl U.vm) qK, qD⟩, hrv, fun U hU hW => ⟨rfl, by rw [hU], by rw [hU]; exact hPc, va_K.moved hW.alike hKc, hDc.weaken (fun _ _ _ _ => trivial)⟩⟩ rfl rfl hl.1 rfl (lv_room (Nat.le_of_ble_eq_true rfl)) dX12_readItems_112 ⟨Nat.le_of_ble_eq_true rfl, Nat.le_of_ble_eq_true rfl⟩) hS (fun q _ h => hFc q h) hFc (fun r_226 u t H1 locs ht hvm hw hB hz1 hk1 hS => ?_)
                obtain ⟨x_227, x_228⟩ := u
                obtain ⟨hP1, hK1, hD1⟩ := hB
                rw [ht] at hP1
                obtain ⟨hP, hD⟩ := cl_put (w1 := (wd_c_X12_number_3 h0 h0_f0 h0_1 h0_2 h0_3 h0_4 h0_5 h0_f6 h0_f7 h0_f8 h0_f9 x_227 x_228 h0_f12 h0_f13 h0_f14 h0_15 h0_16 h0_f17 h0_18 h0_19 h0_20 h0_21 h0_22 h0_23 h0_24 h0_25 h0_f26 h0_f27 h0_f28 h0_f29 h0_f30 h0_f31 h0_32 h0_33 h0_f34 h0_35 h0_36 h0_37 h0_38 h0_39 h0_40 h0_f41 h0_f42 h0_f43 h0_f44 h0_45 h0_46 h0_47 h0_48 h0_49 h0_50 h0_f51 h0_52 h0_f53 h0_5 h0_5k tN h0_5c)) (nw := (wd_c_X12_readItems_2 h0 h0_f0 h0_1 h0_2 h0_3 h0_4 h0_5 h0_f6 h0_f7 h0_f8 h0_f9 x_227 x_228 h0_f12 h0_f13 h0_f14 h0_15 h0_16 h0_f17 h0_18 h0_19 h0_20 h0_21 h0_22 h0_23 h0_24 h0_25 h0_f26 h0_f27 h0_f28 h0_f29 h0_f30 h0_f31 h0_32 h0_33 h0_f34 h0_35 h0_36 h0_37 h0_38 h0_39 h0_40 h0_f41 h0_f42 h0_f43 h0_f44 h0_45 h0_46 h0_47 h0_48 h0_49 h0_50 h0_f51 h0_52 h0_f53 h2 h2k j45b_h2c h0_5 h0_5k tN h0_5c)) hP hD [0, 2] [3, 1, 4] 3 rfl hqc (by decide +kernel) rfl hk1 hFc hP1 hD1
                generalize H1 = H at hP hS ⊢
                as_aux_lemma =>
                rcases hw with ⟨h_229, h_230, h_231, h_232, h_233, h_234⟩ | ⟨h_235, h_236, h_237, h_238⟩
                · have h_234 : (r_226, x_227, x_228) = _ := h_234
                  replace hEX := hEX.trans (exc3_eq h_234)
                  replace hEX := hEX.trans (if_pos (show x_228 = (-1) from h_231))
                  subst h_231
                  have h_233 : x_205.toInt + 1 ≤ x_227.toInt := h_233
                  refine va_iast hx hb hK hP hD hS 1 0 rfl rfl (RG_in (RG_k 2 2 rfl) (by decide +kernel)) dX12_readItems_115 (fun H locs hP hD hS => ?_)
                  have hP : va_P (dC, dI) vwCl (wd_c_X12_readItems_2 h0 h0_f0 h0_1 h0_2 h0_3 h0_4 h0_5 h0_f6 h0_f7 h0_f8 h0_f9 x_227 (-1) h0_f12 h0_f13 h0_f14 h0_15 h0_16 h0_f17 h0_18 h0_19 h0_20 h0_21 h0_22 h0_23 h0_24 h0_25 h0_f26 h0_f27 h0_f28 h0_f29 h0_f30 h0_f31 h0_32 h0_33 h0_f34 h0_35 h0_36 h0_37 h0_38 h0_39 h0_40 h0_f41 h0_f42 h0_f43 h0_f44 h0_45 h0_46 h0_47 h0_48 h0_49 h0_50 h0_f51 h0_52 h0_f53 h2 h2k (upd j45b_h2c (2 : Int32).toNatClampNeg r_226) h0_5 h0_5k tN h0_5c) H := hP
                  have hD : va_D A (wd_c_X12_readItems_2 h0 h0_f0 h0_1 h0_2 h0_3 h0_4 h0_5 h0_f6 h0_f7 h0_f8 h0_f9 x_227 (-1) h0_f12 h0_f13 h0_f14 h0_15 h0_16 h0_f17 h0_18 h0_19 h0_20 h0_21 h0_22 h0_23 h0_24 h0_25 h0_f26 h0_f27 h0_f28 h0_f29 h0_f30 h0_f31 h0_32 h0_33 h0_f34 h0_35 h0_36 h0_37 h0_38 h0_39 h0_40 h0_f41 h0_f42 h0_f43 h0_f44 h0_45 h0_46 h0_47 h0_48 h0_49 h0_50 h0_f51 h0_52 h0_f53 h2 h2k (upd j45b_h2c (2 : Int32).toNatClampNeg r_226) h0_5 h0_5k tN h0_5c) := hD
                  have l_240 : (upd j45b_h2c (2 : Int32).toNatClampNeg r_226) (2 : Int32).toNatClampNeg = r_226 := pk_us
                  have i_241 : AP tRule (upd j45b_h2c (2 : Int32).toNatClampNeg r_226) := AP_upc i_45b_h2 h_229 (by decide +kernel)
                  have a_242 : AI (upd j45b_h2c (2 : Int32).toNatClampNeg r_226) 0 99 := AI_up a_j45b_h2c h_229 (by decide +kernel)
                  generalize huw_239 : (upd j45b_h2c (2 : Int32).toNatClampNeg r_226) = w_239 at hP hD a_242 l_240 i_241
                  replace hEX := hEX.trans (exl_eq huw_239.symm)
                  have hP : va_P (dC, dI) vwCl (wd_c_X12_readItems_2 h0 h0_f0 h0_1 h0_2 h0_3 h0_4 h0_5 h0_f6 h0_f7 h0_f8 h0_f9 x_227 (-1) h0_f12 h0_f13 h0_f14 h0_15 h0_16 h0_f17 h0_18 h0_19 h0_20 h0_21 h0_22 h0_23 h0_24 h0_25 h0_f26 h0_f27 h0_f28 h0_f29 h0_f30 h0_f31 h0_32 h0_33 h0_f34 h0_35 h0_36 h0_37 h0_38 h0_39 h0_40 h0_f41 h0_f42 h0_f43 h0_f44 h0_45 h0_46 h0_47 h0_48 h0_49 h0_50 h0_f51 h0_52 h0_f53 h2 h2k w_239 h0_5 h0_5k tN h0_5c) H := hP
                  have hD : va_D A (wd_c_X12_readItems_2 h0 h0_f0 h0_1 h0_2 h0_3 h0_4 h0_5 h0_f6 h0_f7 h0_f8 h0_f9 x_227 (-1) h0_f12 h0_f13 h0_f14 h0_15 h0_16 h0_f17 h0_18 h0_19 h0_20 h0_21 h0_22 h0_23 h0_24 h0_25 h0_f26 h0_f27 h0_f28 h0_f29 h0_f30 h0_f31 h0_32 h0_33 h0_f34 h0_35 h0_36 h0_37 h0_38 h0_39 h0_40 h0_f41 h0_f42 h0_f43 h0_f44 h0_45 h0_46 h0_47 h0_48 h0_49 h0_50 h0_f51 h0_52 h0_f53 h2 h2k w_239 h0_5 h0_5k tN h0_5c) := hD
                  refine lv_aload_n hx hb dX12_readItems_116 rfl (lv_at hl 2 rfl) ?_
                  as_aux_lemma =>
                  refine va_get (D := (dC, dI)) (ci := 12) (v := .int (-1)) (C := RX12) (T := TX12) (N := 54) hx hb hts iw_c_X12_readItems_2_X12 hown hK hP 0 rfl rfl 11 (by decide +kernel) (hts (.fieldLink RX12 143 "BuoyVoteModel" "fault" "I") (List.mem_of_getElem? (i := 48) rfl)) (fun _ h9 => h9) rfl dX12_readItems_117 ?_
                  refine lv_iconst (v := (-1)) hx hb dX12_readItems_120 kc_iconst_m1 ?_
                  refine lv_icmp_ne (tgt := 45) hx hb dX12_readItems_121 rfl (fun c_243 => absurd c_243 (by decide +kernel)) (fun c_243 => ?_)
                  refine lv_aload hx hb dX12_readItems_124 (lv_at hl 6 rfl) ?_
                  refine lv_aload_n hx hb dX12_readItems_126 rfl (lv_at hl 2 rfl) ?_
                  obtain ⟨hPc, hDc, hFc, hqc⟩ := cl_cut (wc := (wd_c_X12_look h0 h0_f0 h0_1 h0_2 h0_3 h0_4 h0_5 h0_f6 h0_f7 h0_f8 h0_f9 x_227 (-1) h0_f12 h0_f13 h0_f14 h0_15 h0_16 h0_f17 h0_18 h0_19 h0_20 h0_21 h0_22 h0_23 h0_24 h0_25 h0_f26 h0_f27 h0_f28 h0_f29 h0_f30 h0_f31 h0_32 h0_33 h0_f34 h0_35 h0_36 h0_37 h0_38 h0_39 h0_40 h0_f41 h0_f42 h0_f43 h0_f44 h0_45 h0_46 h0_47 h0_48 h0_49 h0_50 h0_f51 h0_52 h0_f53 h0_5 h0_5k tN h0_5c)) hP hD hS hA [0, 2] (by decide +kernel) rfl
                  have hKc := hK.sub (tys' := [(h0_5k, .byte)]) [1] rfl
                  have hrv := va_recv hKc hPc (ci := 12) (q0 := 0) rfl rfl
                  refine va_calli (va_runV (As := []) (rest := [.ref ts8]) ⟨hx, hb, hml, hown, hts⟩ (c_X12_look l dC dI H.size h0 h0_f0 h0_1 h0_2 h0_3 h0_4 h0_5 h0_f6 h0_f7 h0_f8 h0_f9 x_227 h0_f12 h0_f13 h0_f14 h0_15 h0_16 h0_f17 h0_18 h0_19 h0_20 h0_21 h0_22 h0_23 h0_24 h0_25 h0_f26 h0_f27 h0_f28 h0_f29 h0_f30 h0_f31 h0_32 h0_33 h0_f34 h0_35 h0_36 h0_37 h0_38 h0_39 h0_40 h0_f41 h0_f42 h0_f43 h0_f44 h0_45 h0_46 h0_47 h0_48 h0_49 h0_50 h0_f51 h0_52 h0_f53 h0_5k h0_5c tN g_h0_f6 g_h0_f7 g_h0_f8 (RG_w g_h0_f9 (by decide +kernel)) (RG_w h_230 (by decide +kernel)) g_h0_f17 g_h0_f26 g_h0_f27 g_h0_f28 g_h0_f29 g_h0_f30 g_h0_f31 g_h0_f34 g_h0_f41 g_h0_f51 g_h0_f53 htN) (cwV 0 hts gf_c_X12_readItems_2_c_X12_look rfl rfl rfl mdV_X12_look ⟨Nat.le_of_ble_eq_true rfl, Nat.le_of_ble_eq_true rfl⟩) ⟨fun a U g mk q => by obtain ⟨q0, q1, qP, qK, qD⟩ := q; exact ⟨q0, q1, qP, va_K.moved (u := U) (U := U.calling g mk a) (Vm.Alike.refl U.vm) qK, qD⟩, hrv, fun U hU hW => ⟨rfl, by rw [hU], by rw [hU]; exact hPc, va_K.moved hW.alike hKc, hDc.weaken (fun _ _ _ _ => trivial)⟩⟩ rfl rfl hl.1 rfl (lv_room (Nat.le_of_ble_eq_true rfl)) dX12_readItems_127 ⟨Nat.le_of_ble_eq_true rfl, Nat.le_of_ble_eq_true rfl⟩) hS (fun q _ h => hFc q h) hFc (fun r_244 x_245 t H1 locs ht hvm hw hB hz1 hk1 hS => ?_)
                  obtain ⟨hP1, hK1, hD1⟩ := hB
                  rw [ht] at hP1
                  obtain ⟨hP, hD⟩ := cl_put (w1 := (wd_c_X12_look h0 h0_f0 h0_1 h0_2 h0_3 h0_4 h0_5 h0_f6 h0_f7 h0_f8 h0_f9 x_245 (-1) h0_f12 h0_f13 h0_f14 h0_15 h0_16 h0_f17 h0_18 h0_19 h0_20 h0_21 h0_22 h0_23 h0_24 h0_25 h0_f26 h0_f27 h0_f28 h0_f29 h0_f30 h0_f31 h0_32 h0_33 h0_f34 h0_35 h0_36 h0_37 h0_38 h0_39 h0_40 h0_f41 h0_f42 h0_f43 h0_f44 h0_45 h0_46 h0_47 h0_48 h0_49 h0_50 h0_f51 h0_52 h0_f53 h0_5 h0_5k tN h0_5c)) (nw := (wd_c_X12_readItems_2 h0 h0_f0 h0_1 h0_2 h0_3 h0_4 h0_5 h0_f6 h0_f7 h0_f8 h0_f9 x_245 (-1) h0_f12 h0_f13 h0_f14 h0_15 h0_16 h0_f17 h0_18 h0_19 h0_20 h0_21 h0_22 h0_23 h0_24 h0_25 h0_f26 h0_f27 h0_f28 h0_f29 h0_f30 h0_f31 h0_32 h0_33 h0_f34 h0_35 h0_36 h0_37 h0_38 h0_39 h0_40 h0_f41 h0_f42 h0_f43 h0_f44 h0_45 h0_46 h0_47 h0_48 h0_49 h0_50 h0_f51 h0_52 h0_f53 h2 h2k w_239 h0_5 h0_5k tN h0_5c)) hP hD [0, 2] [3, 1, 4] 3 rfl hqc (by decide +kernel) rfl hk1 hFc hP1 hD1
                  generalize H1 = H at hP hS ⊢
                  as_aux_lemma =>
                  rcases hw with ⟨h_246, h_247, h_248, h_249, h_250, h_251⟩ | ⟨h_252, h_253, h_254, h_255, h_256, h_257, h_258⟩
                  · have h_251 : (r_244, x_245) = _ := h_251
                    replace hEX := hEX.trans (exc2_eq h_251)
                    replace hEX := hEX.trans (if_pos (show r_244 = (-1) from h_246))
                    rw [h_246]
                    obtain ⟨hPc, hDc, hFc, hqc⟩ := cl_cut (wc := []) hP hD hS hA [] (by decide +kernel) rfl
                    have hKc := hK.sub (tys' := []) [] rfl
                    refine va_calli (va_runS (As := [.ref ts8, .int (-1)]) (rest := []) ⟨hx, hb, hml, hown, hts⟩ (c_X12_spotOf_4 l dC dI H.size ts8 tv8) (va_cwS 2 hts gf_c_X12_readItems_2_c_X12_spotOf_4 rfl rfl rfl md_X12_spotOf ⟨Nat.le_of_ble_eq_true rfl, Nat.le_of_ble_eq_true rfl⟩) ⟨fun a U g mk q => by obtain ⟨q0, q1, qP, qK, qD, qE0, qE1, qE2, qE3, qE4, qE5⟩ := q; exact ⟨q0, q1, qP, va_K.moved (u := U) (U := U.calling g mk a) (Vm.Alike.refl U.vm) qK, qD, va_OF.moved (u := U) (U := U.calling g mk a) (Vm.Alike.refl U.vm) qE0, va_T.moved (u := U) (U := U.calling g mk a) (Vm.Alike.refl U.vm) qE1, va_Z.moved (u := U) (U := U.calling g mk a) (Vm.Alike.refl U.vm) qE2, va_OF.moved (u := U) (U := U.calling g mk a) (Vm.Alike.refl U.vm) qE3, va_O.moved (u := U) (U := U.calling g mk a) (Vm.Alike.refl U.vm) qE4, va_Zq.moved (u := U) (U := U.calling g mk a) (Vm.Alike.refl U.vm) qE5⟩, fun U hU hW => ⟨rfl, by rw [hU], by rw [hU]; exact hPc, va_K.moved hW.alike hKc, hDc.weaken (fun _ _ _ _ => trivial), va_OF.moved hW.alike (by rw [hU]; exact (hE_55.kept hS.2.1).narrow hFc), va_T.moved hW.alike (by rw [hU]; exact (hE_56.kept hS.2.1).narrow hFc), va_Z.moved hW.alike (by rw [hU]; exact (hE_10.kept hS.2.1).narrow hFc), va_OF.moved hW.alike (by rw [hU]; exact (hE_54.kept hS.2.1).narrow hFc), va_O.moved hW.alike (by rw [hU]; exact (hE_53.kept hS.2.1).narrow hFc), va_Zq.moved hW.alike (by rw [hU]; exact (hE_11.kept hS.2.1).narrow hFc)⟩⟩ rfl rfl hl.1 rfl (lv_room (Nat.le_of_ble_eq_true rfl)) dX12_readItems_130 ⟨Nat.le_of_ble_eq_true rfl, Nat.le_of_ble_eq_true rfl⟩) hS (fun q _ h => hFc q h) hFc (fun r_259 u t H1 locs ht hvm hw hB hz1 hk1 hS => ?_)
                    obtain ⟨hP1, hK1, hD1⟩ := hB
                    rw [ht] at hP1
                    have hP := bv_still hP hk1
                    generalize H1 = H at hP hS ⊢
                    as_aux_lemma =>
                    rcases hw with ⟨h_260, h_261⟩
                    have h_261 : r_259 = _ := h_261
                    replace hEX := hEX.trans (exc1_eq h_261)
                    rw [h_260]
                    refine lv_istore (lv' := [(6, .int (-1)), (5, .int x_204), (0, .ref h0), (1, .int p1), (2, .ref h2), (3, .int 0), (4, .ref ts8)]) hx hb dX12_readItems_133 hl (Nat.le_of_ble_eq_true rfl) rfl (fun ls hl => ?_)
                    refine lv_goto (tgt := 45) hx hb dX12_readItems_135 rfl ?_
                    exact hU _ _ _ (J45 x_204 x_245 w_239 g_h0_f10 g_h0_f17 g_h0_f26 g_h0_f27 g_h0_f28 g_h0_f29 g_h0_f30 g_h0_f31 g_h0_f34 g_h0_f41 g_h0_f51 g_h0_f53 g_h0_f6 g_h0_f7 g_h0_f8 (RG_w g_h0_f9 (by decide +kernel)) h_247 g_p1 a_242 i_241 (by have := r_h0_f10_j45b_h0_f10; have := q_207; have := h_233; have := h_248; omega) hEX _ _ _ hP hD hS (lv_sub hl [0, 1, 2, 3, 4, 5, 6] rfl))
                  · have h_258 : (r_244, x_245) = _ := h_258
                    replace hEX := hEX.trans (exc2_eq h_258)
                    replace hEX := hEX.trans (if_neg (RG_neq (x := r_244) (c := (-1)) (show RG r_244 0 255 from h_252) (by decide +kernel)))
                    have nb_262 := h_257.2.resolve_left (fun q => by have g9 := h_252; rw [q] at g9; exact absurd g9.1 (by decide +kernel))
                    obtain ⟨hPc, hDc, hFc, hqc⟩ := cl_cut (wc := []) hP hD hS hA [] (by decide +kernel) rfl
                    have hKc := hK.sub (tys' := []) [] rfl
                    refine va_calli (va_runS (As := [.ref ts8, .int r_244]) (rest := []) ⟨hx, hb, hml, hown, hts⟩ (c_X12_spotOf_5 l dC dI H.size ts8 r_244 tv8 h_252) (va_cwS 2 hts gf_c_X12_readItems_2_c_X12_spotOf_5 rfl rfl rfl md_X12_spotOf ⟨Nat.le_of_ble_eq_true rfl, Nat.le_of_ble_eq_true rfl⟩) ⟨fun a U g mk q => by obtain ⟨q0, q1, qP, qK, qD, qE0, qE1, qE2, qE3, qE4, qE5⟩ := q; exact ⟨q0, q1, qP, va_K.moved (u := U) (U := U.calling g mk a) (Vm.Alike.refl U.vm) qK, qD, va_OF.moved (u := U) (U := U.calling g mk a) (Vm.Alike.refl U.vm) qE0, va_T.moved (u := U) (U := U.calling g mk a) (Vm.Alike.refl U.vm) qE1, va_Z.moved (u := U) (U := U.calling g mk a) (Vm.Alike.refl U.vm) qE2, va_OF.moved (u := U) (U := U.calling g mk a) (Vm.Alike.refl U.vm) qE3, va_O.moved (u := U) (U := U.calling g mk a) (Vm.Alike.refl U.vm) qE4, va_Zq.moved (u := U) (U := U.calling g mk a) (Vm.Alike.refl U.vm) qE5⟩, fun U hU hW => ⟨rfl, by rw [hU], by rw [hU]; exact hPc, va_K.moved hW.alike hKc, hDc.weaken (fun _ _ _ _ => trivial), va_OF.moved hW.alike (by rw [hU]; exact (hE_55.kept hS.2.1).narrow hFc), va_T.moved hW.alike (by rw [hU]; exact (hE_56.kept hS.2.1).narrow hFc), va_Z.moved hW.alike (by rw [hU]; exact (hE_10.kept hS.2.1).narrow hFc), va_OF.moved hW.alike (by rw [hU]; exact (hE_54.kept hS.2.1).narrow hFc), va_O.moved hW.alike (by rw [hU]; exact (hE_53.kept hS.2.1).narrow hFc), va_Zq.moved hW.alike (by rw [hU]; exact (hE_11.kept hS.2.1).narrow hFc)⟩⟩ rfl rfl hl.1 rfl (lv_room (Nat.le_of_ble_eq_true rfl)) dX12_readItems_130 ⟨Nat.le_of_ble_eq_true rfl, Nat.le_of_ble_eq_true rfl⟩) hS (fun q _ h => hFc q h) hFc (fun r_263 u t H1 locs ht hvm hw hB hz1 hk1 hS => ?_)
                    as_aux_lemma =>
                    obtain ⟨hP1, hK1, hD1⟩ := hB
                    rw [ht] at hP1
                    have hP := bv_still hP hk1
                    generalize H1 = H at hP hS ⊢
                    as_aux_lemma =>
                    rcases hw with ⟨h_264, h_265⟩ | ⟨h_266, h_267, h_268⟩ | ⟨h_269, h_270, h_271⟩ | ⟨h_272, h_273, h_274⟩ | ⟨h_275, h_276, h_277⟩
                    · have h_265 : r_263 = _ := h_265
                      replace hEX := hEX.trans (exc1_eq h_265)
                      replace hEX := hEX.trans (if_pos (show r_263 = (-1) from h_264))
                      rw [h_264]
                      refine lv_istore (lv' := [(6, .int (-1)), (5, .int x_204), (0, .ref h0), (1, .int p1), (2, .ref h2), (3, .int 0), (4, .ref ts8)]) hx hb dX12_readItems_133 hl (Nat.le_of_ble_eq_true rfl) rfl (fun ls hl => ?_)
                      refine lv_goto (tgt := 45) hx hb dX12_readItems_135 rfl ?_
                      exact hU _ _ _ (J45 x_204 x_245 w_239 g_h0_f10 g_h0_f17 g_h0_f26 g_h0_f27 g_h0_f28 g_h0_f29 g_h0_f30 g_h0_f31 g_h0_f34 g_h0_f41 g_h0_f51 g_h0_f53 g_h0_f6 g_h0_f7 g_h0_f8 (RG_w g_h0_f9 (by decide +kernel)) (RG_w h_253 (by decide +kernel)) g_p1 a_242 i_241 (by have := r_h0_f10_j45b_h0_f10; have := q_207; have := h_233; have := h_255; omega) hEX _ _ _ hP hD hS (lv_sub hl [0, 1, 2, 3, 4, 5, 6] rfl))
                    · have h_268 : r_263 = _ := h_268
                      replace hEX := hEX.trans (exc1_eq h_268)
                      replace hEX := hEX.trans (if_neg (fun q9 : r_263 = (-1) => absurd ((show r_263 = 3 from h_266).symm.trans q9) (by decide +kernel)))
                      replace hEX := hEX.trans (if_pos (show r_263 = 3 from h_266))
                      rw [h_266]
                      refine lv_istore (lv' := [(6, .int 3), (5, .int x_204), (0, .ref h0), (1, .int p1), (2, .ref h2), (3, .int 0), (4, .ref ts8)]) hx hb dX12_readItems_133 hl (Nat.le_of_ble_eq_true rfl) rfl (fun ls hl => ?_)
                      as_aux_lemma =>
                      refine lv_goto (tgt := 45) hx hb dX12_readItems_135 rfl ?_
                      exact hU _ _ _ (ih45b 3 x_204 x_245 w_239 (mu_s (MU_lt (by have := q_207; have := h_233; have := h_255; omega)) hM45b) g_h0_f10 g_h0_f17 g_h0_f26 g_h0_f27 g_h0_f28 g_h0_f29 g_h0_f30 g_h0_f31 g_h0_f34 g_h0_f41 g_h0_f51 g_h0_f53 g_h0_f6 g_h0_f7 g_h0_f8 g_h0_f9 h_253 (RG_w (RG_k 3 3 rfl) (by decide +kernel)) g_p1 a_242 i_241 (by have := r_h0_f10_j45b_h0_f10; have := q_207; have := h_233; have := h_255; omega) hEX _ _ _ hP hD hS (lv_sub hl [0, 1, 2, 3, 4, 5, 6] rfl))
                    · have h_271 : r_263 = _ := h_271
                      replace hEX := hEX.trans (exc1_eq h_271)
                      replace hEX := hEX.trans (if_neg (fun q9 : r_263 = (-1) => absurd ((show r_263 = 2 from h_269).symm.trans q9) (by decide +kernel)))
                      replace hEX := hEX.trans (if_neg (fun q9 : r_263 = 3 => absurd ((show r_263 = 2 from h_269).symm.trans q9) (by decide +kernel)))
                      replace hEX := hEX.trans (if_pos (show r_263 = 2 from h_269))
                      rw [h_269]
                      refine lv_istore (lv' := [(6, .int 2), (5, .int x_204), (0, .ref h0), (1, .int p1), (2, .ref h2), (3, .int 0), (4, .ref ts8)]) hx hb dX12_readItems_133 hl (Nat.le_of_ble_eq_true rfl) rfl (fun ls hl => ?_)
                      refine lv_goto (tgt := 45) hx hb dX12_readItems_135 rfl ?_
                      exact hU _ _ _ (ih45b 2 x_204 x_245 w_239 (mu_s (MU_lt (by have := q_207; have := h_233; have := h_255; omega)) hM45b) g_h0_f10 g_h0_f17 g_h0_f26 g_h0_f27 g_h0_f28 g_h0_f29 g_h0_f30 g_h0_f31 g_h0_f34 g_h0_f41 g_h0_f51 g_h0_f53 g_h0_f6 g_h0_f7 g_h0_f8 g_h0_f9 h_253 (RG_w (RG_k 2 2 rfl) (by decide +kernel)) g_p1 a_242 i_241 (by have := r_h0_f10_j45b_h0_f10; have := q_207; have := h_233; have := h_255; omega) hEX _ _ _ hP hD hS (lv_sub hl [0, 1, 2, 3, 4, 5, 6] rfl))
                    · have h_274 : r_263 = _ := h_274
                      replace hEX := hEX.trans (exc1_eq h_274)
                      replace hEX := hEX.trans (if_neg (fun q9 : r_263 = (-1) => absurd ((show r_263 = 1 from h_272).symm.trans q9) (by decide +kernel)))
                      replace hEX := hEX.trans (if_neg (fun q9 : r_263 = 3 => absurd ((show r_263 = 1 from h_272).symm.trans q9) (by decide +kernel)))
                      replace hEX := hEX.trans (if_neg (fun q9 : r_263 = 2 => absurd ((show r_263 = 1 from h_272).symm.trans q9) (by decide +kernel)))
                      replace hEX := hEX.trans (if_pos (show r_263 = 1 from h_272))
                      rw [h_272]
                      refine lv_istore (lv' := [(6, .int 1), (5, .int x_204), (0, .ref h0), (1, .int p1), (2, .ref h2), (3, .int 0), (4, .ref ts8)]) hx hb dX12_readItems_133 hl (Nat.le_of_ble_eq_true rfl) rfl (fun ls hl => ?_)
                      as_aux_lemma =>
                      refine lv_goto (tgt := 45) hx hb dX12_readItems_135 rfl ?_
                      exact hU _ _ _ (ih45b 1 x_204 x_245 w_239 (mu_s (MU_lt (by have := q_207; have := h_233; have := h_255; omega)) hM45b) g_h0_f10 g_h0_f17 g_h0_f26 g_h0_f27 g_h0_f28 g_h0_f29 g_h0_f30 g_h0_f31 g_h0_f34 g_h0_f41 g_h0_f51 g_h0_f53 g_h0_f6 g_h0_f7 g_h0_f8 g_h0_f9 h_253 (RG_w (RG_k 1 1 rfl) (by decide +kernel)) g_p1 a_242 i_241 (by have := r_h0_f10_j45b_h0_f10; have := q_207; have := h_233; have := h_255; omega) hEX _ _ _ hP hD hS (lv_sub hl [0, 1, 2, 3, 4, 5, 6] rfl))
                    · have h_277 : r_263 = _ := h_277
                      replace hEX := hEX.trans (exc1_eq h_277)
                      replace hEX := hEX.trans (if_neg (fun q9 : r_263 = (-1) => absurd ((show r_263 = 0 from h_275).symm.trans q9) (by decide +kernel)))
                      replace hEX := hEX.trans (if_neg (fun q9 : r_263 = 3 => absurd ((show r_263 = 0 from h_275).symm.trans q9) (by decide +kernel)))
                      replace hEX := hEX.trans (if_neg (fun q9 : r_263 = 2 => absurd ((show r_263 = 0 from h_275).symm.trans q9) (by decide +kernel)))
                      replace hEX := hEX.trans (if_neg (fun q9 : r_263 = 1 => absurd ((show r_263 = 0 from h_275).symm.trans q9) (by decide +kernel)))
                      rw [h_275]
                      refine lv_istore (lv' := [(6, .int 0), (5, .int x_204), (0, .ref h0), (1, .int p1), (2, .ref h2), (3, .int 0), (4, .ref ts8)]) hx hb dX12_readItems_133 hl (Nat.le_of_ble_eq_true rfl) rfl (fun ls hl => ?_)
                      refine lv_goto (tgt := 45) hx hb dX12_readItems_135 rfl ?_
                      exact hU _ _ _ (ih45b 0 x_204 x_245 w_239 (mu_s (MU_lt (by have := q_207; have := h_233; have := h_255; omega)) hM45b) g_h0_f10 g_h0_f17 g_h0_f26 g_h0_f27 g_h0_f28 g_h0_f29 g_h0_f30 g_h0_f31 g_h0_f34 g_h0_f41 g_h0_f51 g_h0_f53 g_h0_f6 g_h0_f7 g_h0_f8 g_h0_f9 h_253 (RG_w (RG_k 0 0 rfl) (by decide +kernel)) g_p1 a_242 i_241 (by have := r_h0_f10_j45b_h0_f10; have := q_207; have := h_233; have := h_255; omega) hEX _ _ _ hP hD hS (lv_sub hl [0, 1, 2, 3, 4, 5, 6] rfl))
                · have h_238 : (r_226, x_227, x_228) = _ := h_238
                  replace hEX := hEX.trans (exc3_eq h_238)
                  replace hEX := hEX.trans (if_neg (RG_neq (x := x_228) (c := (-1)) (show RG x_228 0 240 from h_237) (by decide +kernel)))
                  refine va_iast hx hb hK hP hD hS 1 0 rfl rfl (RG_in (RG_k 2 2 rfl) (by decide +kernel)) dX12_readItems_115 (fun H locs hP hD hS => ?_)
                  as_aux_lemma =>
                  have hP : va_P (dC, dI) vwCl (wd_c_X12_readItems_2 h0 h0_f0 h0_1 h0_2 h0_3 h0_4 h0_5 h0_f6 h0_f7 h0_f8 h0_f9 x_227 x_228 h0_f12 h0_f13 h0_f14 h0_15 h0_16 h0_f17 h0_18 h0_19 h0_20 h0_21 h0_22 h0_23 h0_24 h0_25 h0_f26 h0_f27 h0_f28 h0_f29 h0_f30 h0_f31 h0_32 h0_33 h0_f34 h0_35 h0_36 h0_37 h0_38 h0_39 h0_40 h0_f41 h0_f42 h0_f43 h0_f44 h0_45 h0_46 h0_47 h0_48 h0_49 h0_50 h0_f51 h0_52 h0_f53 h2 h2k (upd j45b_h2c (2 : Int32).toNatClampNeg r_226) h0_5 h0_5k tN h0_5c) H := hP
                  have hD : va_D A (wd_c_X12_readItems_2 h0 h0_f0 h0_1 h0_2 h0_3 h0_4 h0_5 h0_f6 h0_f7 h0_f8 h0_f9 x_227 x_228 h0_f12 h0_f13 h0_f14 h0_15 h0_16 h0_f17 h0_18 h0_19 h0_20 h0_21 h0_22 h0_23 h0_24 h0_25 h0_f26 h0_f27 h0_f28 h0_f29 h0_f30 h0_f31 h0_32 h0_33 h0_f34 h0_35 h0_36 h0_37 h0_38 h0_39 h0_40 h0_f41 h0_f42 h0_f43 h0_f44 h0_45 h0_46 h0_47 h0_48 h0_49 h0_50 h0_f51 h0_52 h0_f53 h2 h2k (upd j45b_h2c (2 : Int32).toNatClampNeg r_226) h0_5 h0_5k tN h0_5c) := hD
                  have l_279 : (upd j45b_h2c (2 : Int32).toNatClampNeg r_226) (2 : Int32).toNatClampNeg = r_226 := pk_us
                  have a_280 : AI (upd j45b_h2c (2 : Int32).toNatClampNeg r_226) 0 99 := AI_up a_j45b_h2c h_235 (by decide +kernel)
                  generalize huw_278 : (upd j45b_h2c (2 : Int32).toNatClampNeg r_226) = w_278 at hP hD a_280 l_279
                  replace hEX := hEX.trans (exl_eq huw_278.symm)
                  have hP : va_P (dC, dI) vwCl (wd_c_X12_readItems_2 h0 h0_f0 h0_1 h0_2 h0_3 h0_4 h0_5 h0_f6 h0_f7 h0_f8 h0_f9 x_227 x_228 h0_f12 h0_f13 h0_f14 h0_15 h0_16 h0_f17 h0_18 h0_19 h0_20 h0_21 h0_22 h0_23 h0_24 h0_25 h0_f26 h0_f27 h0_f28 h0_f29 h0_f30 h0_f31 h0_32 h0_33 h0_f34 h0_35 h0_36 h0_37 h0_38 h0_39 h0_40 h0_f41 h0_f42 h0_f43 h0_f44 h0_45 h0_46 h0_47 h0_48 h0_49 h0_50 h0_f51 h0_52 h0_f53 h2 h2k w_278 h0_5 h0_5k tN h0_5c) H := hP
                  have hD : va_D A (wd_c_X12_readItems_2 h0 h0_f0 h0_1 h0_2 h0_3 h0_4 h0_5 h0_f6 h0_f7 h0_f8 h0_f9 x_227 x_228 h0_f12 h0_f13 h0_f14 h0_15 h0_16 h0_f17 h0_18 h0_19 h0_20 h0_21 h0_22 h0_23 h0_24 h0_25 h0_f26 h0_f27 h0_f28 h0_f29 h0_f30 h0_f31 h0_32 h0_33 h0_f34 h0_35 h0_36 h0_37 h0_38 h0_39 h0_40 h0_f41 h0_f42 h0_f43 h0_f44 h0_45 h0_46 h0_47 h0_48 h0_49 h0_50 h0_f51 h0_52 h0_f53 h2 h2k w_278 h0_5 h0_5k tN h0_5c) := hD
                  refine lv_aload_n hx hb dX12_readItems_116 rfl (lv_at hl 2 rfl) ?_
                  refine va_get (D := (dC, dI)) (ci := 12) (v := .int x_228) (C := RX12) (T := TX12) (N := 54) hx hb hts iw_c_X12_readItems_2_X12 hown hK hP 0 rfl rfl 11 (by decide +kernel) (hts (.fieldLink RX12 143 "BuoyVoteModel" "fault" "I") (List.mem_of_getElem? (i := 48) rfl)) (fun _ h9 => h9) rfl dX12_readItems_117 ?_
                  refine lv_iconst (v := (-1)) hx hb dX12_readItems_120 kc_iconst_m1 ?_
                  refine lv_icmp_ne (tgt := 45) hx hb dX12_readItems_121 rfl (fun c_281 => ?_) (fun c_281 => ?_)
                  · replace hEX := hEX.trans (if_neg c_281)
                    exact hU _ _ _ (J45c x_204 2 x_227 x_228 w_278 g_h0_f10 g_h0_f17 g_h0_f26 g_h0_f27 g_h0_f28 g_h0_f29 g_h0_f30 g_h0_f31 g_h0_f34 g_h0_f41 g_h0_f51 g_h0_f53 g_h0_f6 g_h0_f7 g_h0_f8 g_h0_f9 h_236 h_237 (RG_w (RG_k 2 2 rfl) (by decide +kernel)) g_p1 a_280 hEX _ _ _ hP hD hS (lv_sub hl [0, 1, 2, 3, 4, 5, 6] rfl))
                  · replace hEX := hEX.trans (if_pos c_281)
                    exact RG_dead (RG_eq1 h_237 (RG_k (-1) (-1) rfl) c_281 (a' := 0) (b' := (-1)) (by decide +kernel)) (by decide +kernel)
              · have h_222 : r_216 = _ := h_222
                replace hEX := hEX.trans (exc1_eq h_222)
                replace hEX := hEX.trans (if_neg (fun q9 : r_216 = 12 => absurd ((show r_216 = 3 from h_220).symm.trans q9) (by decide +kernel)))
                replace hEX := hEX.trans (if_pos (show r_216 = 3 from h_220))
                rw [h_220]
                exact RG_dead (RG_eq1 (RG_k 2 2 rfl) h_221 rfl (a' := 2) (b' := 1) (by decide +kernel)) (by decide +kernel)
              · have h_225 : r_216 = _ := h_225
                replace hEX := hEX.trans (exc1_eq h_225)
                replace hEX := hEX.trans (if_neg (fun q9 : r_216 = 12 => absurd ((show r_216 = 9 from h_223).symm.trans q9) (by decide +kernel)))
                replace hEX := hEX.trans (if_neg (fun q9 : r_216 = 3 => absurd ((show r_216 = 9 from h_223).symm.trans q9) (by decide +kernel)))
                rw [h_223]
                exact RG_dead (RG_eq1 (RG_k 2 2 rfl) h_224 rfl (a' := 2) (b' := 0) (by decide +kernel)) (by decide +kernel)
          · have h_201 : r_195 = _ := h_201
            replace hEX := hEX.trans (exc1_eq h_201)
            replace hEX := hEX.trans (if_neg (fun q9 : r_195 = 0 => absurd ((show r_195 = 1 from h_199).symm.trans q9) (by decide +kernel)))
            rw [h_199]
            refine lv_if_eq (tgt := 75) hx hb dX12_readItems_66 rfl (fun c_282 => absurd c_282 (by decide +kernel)) (fun c_282 => ?_)
            as_aux_lemma =>
            refine lv_aload_n hx hb dX12_readItems_69 rfl (lv_at hl 2 rfl) ?_
            obtain ⟨hPc, hDc, hFc, hqc⟩ := cl_cut (wc := (wd_c_X12_fails h0 h0_f0 h0_1 h0_2 h0_3 h0_4 h0_5 h0_f6 h0_f7 h0_f8 h0_f9 j45b_h0_f10 (-1) h0_f12 h0_f13 h0_f14 h0_15 h0_16 h0_f17 h0_18 h0_19 h0_20 h0_21 h0_22 h0_23 h0_24 h0_25 h0_f26 h0_f27 h0_f28 h0_f29 h0_f30 h0_f31 h0_32 h0_33 h0_f34 h0_35 h0_36 h0_37 h0_38 h0_39 h0_40 h0_f41 h0_f42 h0_f43 h0_f44 h0_45 h0_46 h0_47 h0_48 h0_49 h0_50 h0_f51 h0_52 h0_f53)) hP hD hS hA [0] (by decide +kernel) rfl
            have hKc := hK.sub (tys' := []) [] rfl
            have hrv := va_recv hKc hPc (ci := 12) (q0 := 0) rfl rfl
            refine va_calli (va_runV (As := []) (rest := []) ⟨hx, hb, hml, hown, hts⟩ (c_X12_fails l dC dI H.size h0 h0_f0 h0_1 h0_2 h0_3 h0_4 h0_5 h0_f6 h0_f7 h0_f8 h0_f9 j45b_h0_f10 h0_f12 h0_f13 h0_f14 h0_15 h0_16 h0_f17 h0_18 h0_19 h0_20 h0_21 h0_22 h0_23 h0_24 h0_25 h0_f26 h0_f27 h0_f28 h0_f29 h0_f30 h0_f31 h0_32 h0_33 h0_f34 h0_35 h0_36 h0_37 h0_38 h0_39 h0_40 h0_f41 h0_f42 h0_f43 h0_f44 h0_45 h0_46 h0_47 h0_48 h0_49 h0_50 h0_f51 h0_52 h0_f53 g_h0_f6 g_h0_f7 g_h0_f8 (RG_w g_h0_f9 (by decide +kernel)) (RG_w g_j45b_h0_f10 (by decide +kernel)) g_h0_f17 g_h0_f26 g_h0_f27 g_h0_f28 g_h0_f29 g_h0_f30 g_h0_f31 g_h0_f34 g_h0_f41 g_h0_f51 g_h0_f53) (cwV 0 hts gf_c_X12_readItems_2_c_X12_fails rfl rfl rfl mdV_X12_fails ⟨Nat.le_of_ble_eq_true rfl, Nat.le_of_ble_eq_true rfl⟩) ⟨fun a U g mk q => by obtain ⟨q0, q1, qP, qK, qD⟩ := q; exact ⟨q0, q1, qP, va_K.moved (u := U) (U := U.calling g mk a) (Vm.Alike.refl U.vm) qK, qD⟩, hrv, fun U hU hW => ⟨rfl, by rw [hU], by rw [hU]; exact hPc, va_K.moved hW.alike hKc, hDc.weaken (fun _ _ _ _ => trivial)⟩⟩ rfl rfl hl.1 rfl (lv_room (Nat.le_of_ble_eq_true rfl)) dX12_readItems_70 ⟨Nat.le_of_ble_eq_true rfl, Nat.le_of_ble_eq_true rfl⟩) hS (fun q _ h => hFc q h) hFc (fun r_283 u t H1 locs ht hvm hw hB hz1 hk1 hS => ?_)
            obtain ⟨hP1, hK1, hD1⟩ := hB
            rw [ht] at hP1
            obtain ⟨hP, hD⟩ := cl_put (w1 := (wd_c_X12_fails h0 h0_f0 h0_1 h0_2 h0_3 h0_4 h0_5 h0_f6 h0_f7 h0_f8 h0_f9 j45b_h0_f10 j45b_h0_f10 h0_f12 h0_f13 h0_f14 h0_15 h0_16 h0_f17 h0_18 h0_19 h0_20 h0_21 h0_22 h0_23 h0_24 h0_25 h0_f26 h0_f27 h0_f28 h0_f29 h0_f30 h0_f31 h0_32 h0_33 h0_f34 h0_35 h0_36 h0_37 h0_38 h0_39 h0_40 h0_f41 h0_f42 h0_f43 h0_f44 h0_45 h0_46 h0_47 h0_48 h0_49 h0_50 h0_f51 h0_52 h0_f53)) (nw := (wd_c_X12_readItems_2 h0 h0_f0 h0_1 h0_2 h0_3 h0_4 h0_5 h0_f6 h0_f7 h0_f8 h0_f9 j45b_h0_f10 j45b_h0_f10 h0_f12 h0_f13 h0_f14 h0_15 h0_16 h0_f17 h0_18 h0_19 h0_20 h0_21 h0_22 h0_23 h0_24 h0_25 h0_f26 h0_f27 h0_f28 h0_f29 h0_f30 h0_f31 h0_32 h0_33 h0_f34 h0_35 h0_36 h0_37 h0_38 h0_39 h0_40 h0_f41 h0_f42 h0_f43 h0_f44 h0_45 h0_46 h0_47 h0_48 h0_49 h0_50 h0_f51 h0_52 h0_f53 h2 h2k j45b_h2c h0_5 h0_5k tN h0_5c)) hP hD [0] [3, 1, 2] 3 rfl hqc (by decide +kernel) rfl hk1 hFc hP1 hD1
            generalize H1 = H at hP hS ⊢
            as_aux_lemma =>
            rcases hw with ⟨h_284, h_285⟩
            have h_285 : r_283 = _ := h_285
            replace hEX := hEX.trans (exc1_eq h_285)
            rw [h_284]
            refine lv_pop hx hb dX12_readItems_73 rfl ?_
            have hK9 := hK.sub (tys' := []) [] rfl
            exact W.vret hx hb hr (fun t ht hW => ⟨⟨(j45b_h0_f10, j45b_h0_f10, j45b_h2c), rfl, (Or.inr ⟨(RG_w g_j45b_h0_f10 (by decide +kernel)), (RG_w g_j45b_h0_f10 (by decide +kernel)), a_j45b_h2c, g_h0_f9, (hR.trans hEX).symm⟩), by rw [ht]; exact hP, va_K.moved hW.alike hK9, hD⟩, hS.F ht⟩) hS.2.2 dX12_readItems_74
        replace hEX := hEX.trans (if_neg c_194)
        by_cases c_286 : j45b_l6 = 3
        · replace hEX := hEX.trans (if_pos c_286)
          subst c_286
          refine lv_iload hx hb dX12_readItems_59 (lv_at hl 1 rfl) ?_
          refine lv_iload hx hb dX12_readItems_61 (lv_at hl 0 rfl) ?_
          obtain ⟨hPc, hDc, hFc, hqc⟩ := cl_cut (wc := []) hP hD hS hA [] (by decide +kernel) rfl
          have hKc := hK.sub (tys' := []) [] rfl
          refine va_calli (va_runS (As := [.int j45b_l5, .int 3]) (rest := []) ⟨hx, hb, hml, hown, hts⟩ (c_X12_has_2 l dC dI H.size j45b_l5 3 (RG_w (RG_k 3 3 rfl) (by decide +kernel))) (va_cwS 2 hts gf_c_X12_readItems_2_c_X12_has_2 rfl rfl rfl md_X12_has ⟨Nat.le_of_ble_eq_true rfl, Nat.le_of_ble_eq_true rfl⟩) ⟨fun a U g mk q => by obtain ⟨q0, q1, qP, qK, qD⟩ := q; exact ⟨q0, q1, qP, va_K.moved (u := U) (U := U.calling g mk a) (Vm.Alike.refl U.vm) qK, qD⟩, fun U hU hW => ⟨rfl, by rw [hU], by rw [hU]; exact hPc, va_K.moved hW.alike hKc, hDc.weaken (fun _ _ _ _ => trivial)⟩⟩ rfl rfl hl.1 rfl (lv_room (Nat.le_of_ble_eq_true rfl)) dX12_readItems_63 ⟨Nat.le_of_ble_eq_true rfl, Nat.le_of_ble_eq_true rfl⟩) hS (fun q _ h => hFc q h) hFc (fun r_287 u t H1 locs ht hvm hw hB hz1 hk1 hS => ?_)
          as_aux_lemma =>
          obtain ⟨hP1, hK1, hD1⟩ := hB
          rw [ht] at hP1
          have hP := bv_still hP hk1
          generalize H1 = H at hP hS ⊢
          as_aux_lemma =>
          rcases hw with ⟨h_288, h_289, h_290⟩ | ⟨h_291, h_292, h_293⟩
          · have h_290 : r_287 = _ := h_290
            replace hEX := hEX.trans (exc1_eq h_290)
            replace hEX := hEX.trans (if_pos (show r_287 = 0 from h_288))
            rw [h_288]
            refine lv_if_eq (tgt := 75) hx hb dX12_readItems_66 rfl (fun c_294 => ?_) (fun c_294 => absurd c_294 (by decide +kernel))
            refine lv_iload hx hb dX12_readItems_75 (lv_at hl 1 rfl) ?_
            refine lv_iconst (v := 1) hx hb dX12_readItems_77 kc_iconst_1 ?_
            refine lv_iload hx hb dX12_readItems_78 (lv_at hl 0 rfl) ?_
            refine lv_ishl hx hb dX12_readItems_80 ?_
            refine lv_topi (fun x_295 ex_295 => ?_)
            obtain rfl : x_295 = 8 := ex_295.trans (by decide +kernel)
            refine lv_ior hx hb dX12_readItems_81 ?_
            refine lv_topi (fun x_296 ex_296 => ?_)
            as_aux_lemma =>
            replace hEX := hEX.trans (exl_eq ex_296)
            refine lv_istore (lv' := [(5, .int x_296), (6, .int 3), (0, .ref h0), (1, .int p1), (2, .ref h2), (3, .int 0), (4, .ref ts8)]) hx hb dX12_readItems_82 hl (Nat.le_of_ble_eq_true rfl) rfl (fun ls hl => ?_)
            refine lv_aload_n hx hb dX12_readItems_84 rfl (lv_at hl 2 rfl) ?_
            refine lv_dup hx hb dX12_readItems_85 rfl ?_
            refine va_get (D := (dC, dI)) (ci := 12) (v := .int j45b_h0_f10) (C := RX12) (T := TX12) (N := 54) hx hb hts iw_c_X12_readItems_2_X12 hown hK hP 0 rfl rfl 10 (by decide +kernel) (hts (.fieldLink RX12 134 "BuoyVoteModel" "at" "I") (List.mem_of_getElem? (i := 21) rfl)) (fun _ h9 => h9) rfl dX12_readItems_86 ?_
            refine lv_iconst (v := 1) hx hb dX12_readItems_89 kc_iconst_1 ?_
            refine lv_iadd hx hb dX12_readItems_90 ?_
            refine lv_topi (fun x_297 ex_297 => ?_)
            replace hEX := hEX.trans (exl_eq ex_297)
            have g_298 : RG x_297 1 240 := RG_add ex_297 g_j45b_h0_f10 (RG_k 1 1 rfl) (by decide +kernel)
            have q_299 : x_297.toInt = j45b_h0_f10.toInt + 1 := eq_add ex_297 g_j45b_h0_f10 (q := 1) rfl (by decide +kernel)
            refine va_put (D := (dC, dI)) (ci := 12) (v := .int x_297) (ty := .int) (C := RX12) (T := TX12) (N := 54) hx hb hts iw_c_X12_readItems_2_X12 tyX12 tyX12_ok nmX12 hown hK hP hD hS 0 rfl rfl 10 (by decide +kernel) (hts (.fieldLink RX12 134 "BuoyVoteModel" "at" "I") (List.mem_of_getElem? (i := 21) rfl)) (fun _ h9 => h9) rfl (by decide +kernel) rfl rfl (Nat.le_of_ble_eq_true rfl) dX12_readItems_91 (fun H locs hP hD hS => ?_)
            have hP : va_P (dC, dI) vwCl (wd_c_X12_readItems_2 h0 h0_f0 h0_1 h0_2 h0_3 h0_4 h0_5 h0_f6 h0_f7 h0_f8 h0_f9 x_297 (-1) h0_f12 h0_f13 h0_f14 h0_15 h0_16 h0_f17 h0_18 h0_19 h0_20 h0_21 h0_22 h0_23 h0_24 h0_25 h0_f26 h0_f27 h0_f28 h0_f29 h0_f30 h0_f31 h0_32 h0_33 h0_f34 h0_35 h0_36 h0_37 h0_38 h0_39 h0_40 h0_f41 h0_f42 h0_f43 h0_f44 h0_45 h0_46 h0_47 h0_48 h0_49 h0_50 h0_f51 h0_52 h0_f53 h2 h2k j45b_h2c h0_5 h0_5k tN h0_5c) H := hP
            have hD : va_D A (wd_c_X12_readItems_2 h0 h0_f0 h0_1 h0_2 h0_3 h0_4 h0_5 h0_f6 h0_f7 h0_f8 h0_f9 x_297 (-1) h0_f12 h0_f13 h0_f14 h0_15 h0_16 h0_f17 h0_18 h0_19 h0_20 h0_21 h0_22 h0_23 h0_24 h0_25 h0_f26 h0_f27 h0_f28 h0_f29 h0_f30 h0_f31 h0_32 h0_33 h0_f34 h0_35 h0_36 h0_37 h0_38 h0_39 h0_40 h0_f41 h0_f42 h0_f43 h0_f44 h0_45 h0_46 h0_47 h0_48 h0_49 h0_50 h0_f51 h0_52 h0_f53 h2 h2k j45b_h2c h0_5 h0_5k tN h0_5c) := hD
            refine lv_aload_n hx hb dX12_readItems_94 rfl (lv_at hl 4 rfl) ?_
            as_aux_lemma =>
            refine lv_iload_n hx hb dX12_readItems_95 rfl (lv_at hl 5 rfl) ?_
            refine lv_iload hx hb dX12_readItems_96 (lv_at hl 1 rfl) ?_
            refine lv_iadd hx hb dX12_readItems_98 ?_
            refine lv_topi (fun x_300 ex_300 => ?_)
            obtain rfl : x_300 = 3 := ex_300.trans (by decide +kernel)
            refine lv_aload_n hx hb dX12_readItems_99 rfl (lv_at hl 2 rfl) ?_
            refine lv_iload_n hx hb dX12_readItems_100 rfl (lv_at hl 3 rfl) ?_
            refine lv_iload hx hb dX12_readItems_101 (lv_at hl 1 rfl) ?_
            obtain ⟨hPc, hDc, hFc, hqc⟩ := cl_cut (wc := []) hP hD hS hA [] (by decide +kernel) rfl
            have hKc := hK.sub (tys' := []) [] rfl
            refine va_calli (va_runS (As := [.int p1, .int 3]) (rest := [.ref h0, .int 3, .ref h2]) ⟨hx, hb, hml, hown, hts⟩ (c_X12_leastOf_8 l dC dI H.size p1 3 g_p1 (RG_w (RG_k 3 3 rfl) (by decide +kernel))) (va_cwS 2 hts gf_c_X12_readItems_2_c_X12_leastOf_8 rfl rfl rfl md_X12_leastOf ⟨Nat.le_of_ble_eq_true rfl, Nat.le_of_ble_eq_true rfl⟩) ⟨fun a U g mk q => by obtain ⟨q0, q1, qP, qK, qD⟩ := q; exact ⟨q0, q1, qP, va_K.moved (u := U) (U := U.calling g mk a) (Vm.Alike.refl U.vm) qK, qD⟩, fun U hU hW => ⟨rfl, by rw [hU], by rw [hU]; exact hPc, va_K.moved hW.alike hKc, hDc.weaken (fun _ _ _ _ => trivial)⟩⟩ rfl rfl hl.1 rfl (lv_room (Nat.le_of_ble_eq_true rfl)) dX12_readItems_103 ⟨Nat.le_of_ble_eq_true rfl, Nat.le_of_ble_eq_true rfl⟩) hS (fun q _ h => hFc q h) hFc (fun r_301 u t H1 locs ht hvm hw hB hz1 hk1 hS => ?_)
            obtain ⟨hP1, hK1, hD1⟩ := hB
            rw [ht] at hP1
            have hP := bv_still hP hk1
            generalize H1 = H at hP hS ⊢
            as_aux_lemma =>
            rcases hw with ⟨h_302, h_303, h_304⟩ | ⟨h_305, h_306, h_307⟩
            · have h_304 : r_301 = _ := h_304
              replace hEX := hEX.trans (exc1_eq h_304)
              replace hEX := hEX.trans (if_pos (show r_301 = 0 from h_302))
              rw [h_302]
              exact RG_dead (RG_eq1 (RG_k 3 3 rfl) h_303 rfl (a' := 3) (b' := 1) (by decide +kernel)) (by decide +kernel)
            · have h_307 : r_301 = _ := h_307
              replace hEX := hEX.trans (exc1_eq h_307)
              replace hEX := hEX.trans (if_neg (fun q9 : r_301 = 0 => absurd ((show r_301 = 1 from h_305).symm.trans q9) (by decide +kernel)))
              rw [h_305]
              refine lv_iload_n hx hb dX12_readItems_106 rfl (lv_at hl 3 rfl) ?_
              refine lv_iload hx hb dX12_readItems_107 (lv_at hl 1 rfl) ?_
              obtain ⟨hPc, hDc, hFc, hqc⟩ := cl_cut (wc := []) hP hD hS hA [] (by decide +kernel) rfl
              have hKc := hK.sub (tys' := []) [] rfl
              refine va_calli (va_runS (As := [.int p1, .int 3]) (rest := [.int 1, .ref h0, .int 3, .ref h2]) ⟨hx, hb, hml, hown, hts⟩ (c_X12_mostOf_8 l dC dI H.size p1 3 g_p1 (RG_w (RG_k 3 3 rfl) (by decide +kernel))) (va_cwS 2 hts gf_c_X12_readItems_2_c_X12_mostOf_8 rfl rfl rfl md_X12_mostOf ⟨Nat.le_of_ble_eq_true rfl, Nat.le_of_ble_eq_true rfl⟩) ⟨fun a U g mk q => by obtain ⟨q0, q1, qP, qK, qD⟩ := q; exact ⟨q0, q1, qP, va_K.moved (u := U) (U := U.calling g mk a) (Vm.Alike.refl U.vm) qK, qD⟩, fun U hU hW => ⟨rfl, by rw [hU], by rw [hU]; exact hPc, va_K.moved hW.alike hKc, hDc.weaken (fun _ _ _ _ => trivial)⟩⟩ rfl rfl hl.1 rfl (lv_room (Nat.le_of_ble_eq_true rfl)) dX12_readItems_109 ⟨Nat.le_of_ble_eq_true rfl, Nat.le_of_ble_eq_true rfl⟩) hS (fun q _ h => hFc q h) hFc (fun r_308 u t H1 locs ht hvm hw hB hz1 hk1 hS => ?_)
              as_aux_lemma =>
              obtain ⟨hP1, hK1, hD1⟩ := hB
              rw [ht] at hP1
              have hP := bv_still hP hk1
              generalize H1 = H at hP hS ⊢
              as_aux_lemma =>
              rcases hw with ⟨h_309, h_310, h_311⟩ | ⟨h_312, h_313, h_314⟩ | ⟨h_315, h_316, h_317⟩ | ⟨h_318, h_319, h_320⟩
              · have h_311 : r_308 = _ := h_311
                replace hEX := hEX.trans (exc1_eq h_311)
                replace hEX := hEX.trans (if_pos (show r_308 = 20 from h_309))
                rw [h_309]
                obtain ⟨hPc, hDc, hFc, hqc⟩ := cl_cut (wc := (wd_c_X12_number_4 h0 h0_f0 h0_1 h0_2 h0_3 h0_4 h0_5 h0_f6 h0_f7 h0_f8 h0_f9 x_297 (-1) h0_f12 h0_f13 h0_f14 h0_15 h0_16 h0_f17 h0_18 h0_19 h0_20 h0_21 h0_22 h0_23 h0_24 h0_25 h0_f26 h0_f27 h0_f28 h0_f29 h0_f30 h0_f31 h0_32 h0_33 h0_f34 h0_35 h0_36 h0_37 h0_38 h0_39 h0_40 h0_f41 h0_f42 h0_f43 h0_f44 h0_45 h0_46 h0_47 h0_48 h0_49 h0_50 h0_f51 h0_52 h0_f53 h0_5 h0_5k tN h0_5c)) hP hD hS hA [0, 2] (by decide +kernel) rfl
                have hKc := hK.sub (tys' := [(h0_5k, .byte)]) [1] rfl
                have hrv := va_recv hKc hPc (ci := 12) (q0 := 0) rfl rfl
                refine va_calli (va_runV (As := [.int 1, .int 20]) (rest := [.int 3, .ref h2]) ⟨hx, hb, hml, hown, hts⟩ (c_X12_number_4 l dC dI H.size h0 h0_f0 h0_1 h0_2 h0_3 h0_4 h0_5 h0_f6 h0_f7 h0_f8 h0_f9 x_297 h0_f12 h0_f13 h0_f14 h0_15 h0_16 h0_f17 h0_18 h0_19 h0_20 h0_21 h0_22 h0_23 h0_24 h0_25 h0_f26 h0_f27 h0_f28 h0_f29 h0_f30 h0_f31 h0_32 h0_33 h0_f34 h0_35 h0_36 h0_37 h0_38 h0_39 h0_40 h0_f41 h0_f42 h0_f43 h0_f44 h0_45 h0_46 h0_47 h0_48 h0_49 h0_50 h0_f51 h0_52 h0_f53 h0_5k h0_5c tN g_h0_f6 g_h0_f7 g_h0_f8 (RG_w g_h0_f9 (by decide +kernel)) (RG_w g_298 (by decide +kernel)) g_h0_f17 g_h0_f26 g_h0_f27 g_h0_f28 g_h0_f29 g_h0_f30 g_h0_f31 g_h0_f34 g_h0_f41 g_h0_f51 g_h0_f53 htN) (cwV 2 hts gf_c_X12_readItems_2_c_X12_number_4 rfl rfl rfl mdV_X12_number ⟨Nat.le_of_ble_eq_true rfl, Nat.le_of_ble_eq_true rfl⟩) ⟨fun a U g mk q => by obtain ⟨q0, q1, qP, qK, qD⟩ := q; exact ⟨q0, q1, qP, va_K.moved (u := U) (U := U.calling g mk a) (Vm.Alike.refl U.vm) qK, qD⟩, hrv, fun U hU hW => ⟨rfl, by rw [hU], by rw [hU]; exact hPc, va_K.moved hW.alike hKc, hDc.weaken (fun _ _ _ _ => trivial)⟩⟩ rfl rfl hl.1 rfl (lv_room (Nat.le_of_ble_eq_true rfl)) dX12_readItems_112 ⟨Nat.le_of_ble_eq_true rfl, Nat.le_of_ble_eq_true rfl⟩) hS (fun q _ h => hFc q h) hFc (fun r_321 u t H1 locs ht hvm hw hB hz1 hk1 hS => ?_)
                obtain ⟨x_322, x_323⟩ := u
                obtain ⟨hP1, hK1, hD1⟩ := hB
                rw [ht] at hP1
                obtain ⟨hP, hD⟩ := cl_put (w1 := (wd_c_X12_number_4 h0 h0_f0 h0_1 h0_2 h0_3 h0_4 h0_5 h0_f6 h0_f7 h0_f8 h0_f9 x_322 x_323 h0_f12 h0_f13 h0_f14 h0_15 h0_16 h0_f17 h0_18 h0_19 h0_20 h0_21 h0_22 h0_23 h0_24 h0_25 h0_f26 h0_f27 h0_f28 h0_f29 h0_f30 h0_f31 h0_32 h0_33 h0_f34 h0_35 h0_36 h0_37 h0_38 h0_39 h0_40 h0_f41 h0_f42 h0_f43 h0_f44 h0_45 h0_46 h0_47 h0_48 h0_49 h0_50 h0_f51 h0_52 h0_f53 h0_5 h0_5k tN h0_5c)) (nw := (wd_c_X12_readItems_2 h0 h0_f0 h0_1 h0_2 h0_3 h0_4 h0_5 h0_f6 h0_f7 h0_f8 h0_f9 x_322 x_323 h0_f12 h0_f13 h0_f14 h0_15 h0_16 h0_f17 h0_18 h0_19 h0_20 h0_21 h0_22 h0_23 h0_24 h0_25 h0_f26 h0_f27 h0_f28 h0_f29 h0_f30 h0_f31 h0_32 h0_33 h0_f34 h0_35 h0_36 h0_37 h0_38 h0_39 h0_40 h0_f41 h0_f42 h0_f43 h0_f44 h0_45 h0_46 h0_47 h0_48 h0_49 h0_50 h0_f51 h0_52 h0_f53 h2 h2k j45b_h2c h0_5 h0_5k tN h0_5c)) hP hD [0, 2] [3, 1, 4] 3 rfl hqc (by decide +kernel) rfl hk1 hFc hP1 hD1
                generalize H1 = H at hP hS ⊢
                as_aux_lemma =>
                rcases hw with ⟨h_324, h_325, h_326, h_327, h_328, h_329⟩ | ⟨h_330, h_331, h_332, h_333⟩
                · have h_329 : (r_321, x_322, x_323) = _ := h_329
                  replace hEX := hEX.trans (exc3_eq h_329)
                  replace hEX := hEX.trans (if_pos (show x_323 = (-1) from h_326))
                  subst h_326
                  have h_328 : x_297.toInt + 1 ≤ x_322.toInt := h_328
                  refine va_iast hx hb hK hP hD hS 1 0 rfl rfl (RG_in (RG_k 3 3 rfl) (by decide +kernel)) dX12_readItems_115 (fun H locs hP hD hS => ?_)
                  have hP : va_P (dC, dI) vwCl (wd_c_X12_readItems_2 h0 h0_f0 h0_1 h0_2 h0_3 h0_4 h0_5 h0_f6 h0_f7 h0_f8 h0_f9 x_322 (-1) h0_f12 h0_f13 h0_f14 h0_15 h0_16 h0_f17 h0_18 h0_19 h0_20 h0_21 h0_22 h0_23 h0_24 h0_25 h0_f26 h0_f27 h0_f28 h0_f29 h0_f30 h0_f31 h0_32 h0_33 h0_f34 h0_35 h0_36 h0_37 h0_38 h0_39 h0_40 h0_f41 h0_f42 h0_f43 h0_f44 h0_45 h0_46 h0_47 h0_48 h0_49 h0_50 h0_f51 h0_52 h0_f53 h2 h2k (upd j45b_h2c (3 : Int32).toNatClampNeg r_321) h0_5 h0_5k tN h0_5c) H := hP
                  have hD : va_D A (wd_c_X12_readItems_2 h0 h0_f0 h0_1 h0_2 h0_3 h0_4 h0_5 h0_f6 h0_f7 h0_f8 h0_f9 x_322 (-1) h0_f12 h0_f13 h0_f14 h0_15 h0_16 h0_f17 h0_18 h0_19 h0_20 h0_21 h0_22 h0_23 h0_24 h0_25 h0_f26 h0_f27 h0_f28 h0_f29 h0_f30 h0_f31 h0_32 h0_33 h0_f34 h0_35 h0_36 h0_37 h0_38 h0_39 h0_40 h0_f41 h0_f42 h0_f43 h0_f44 h0_45 h0_46 h0_47 h0_48 h0_49 h0_50 h0_f51 h0_52 h0_f53 h2 h2k (upd j45b_h2c (3 : Int32).toNatClampNeg r_321) h0_5 h0_5k tN h0_5c) := hD
                  have l_335 : (upd j45b_h2c (3 : Int32).toNatClampNeg r_321) (3 : Int32).toNatClampNeg = r_321 := pk_us
                  have i_336 : AP tRule (upd j45b_h2c (3 : Int32).toNatClampNeg r_321) := AP_upc i_45b_h2 h_324 (by decide +kernel)
                  have a_337 : AI (upd j45b_h2c (3 : Int32).toNatClampNeg r_321) 0 99 := AI_up a_j45b_h2c h_324 (by decide +kernel)
                  generalize huw_334 : (upd j45b_h2c (3 : Int32).toNatClampNeg r_321) = w_334 at hP hD a_337 l_335 i_336
                  replace hEX := hEX.trans (exl_eq huw_334.symm)
                  have hP : va_P (dC, dI) vwCl (wd_c_X12_readItems_2 h0 h0_f0 h0_1 h0_2 h0_3 h0_4 h0_5 h0_f6 h0_f7 h0_f8 h0_f9 x_322 (-1) h0_f12 h0_f13 h0_f14 h0_15 h0_16 h0_f17 h0_18 h0_19 h0_20 h0_21 h0_22 h0_23 h0_24 h0_25 h0_f26 h0_f27 h0_f28 h0_f29 h0_f30 h0_f31 h0_32 h0_33 h0_f34 h0_35 h0_36 h0_37 h0_38 h0_39 h0_40 h0_f41 h0_f42 h0_f43 h0_f44 h0_45 h0_46 h0_47 h0_48 h0_49 h0_50 h0_f51 h0_52 h0_f53 h2 h2k w_334 h0_5 h0_5k tN h0_5c) H := hP
                  have hD : va_D A (wd_c_X12_readItems_2 h0 h0_f0 h0_1 h0_2 h0_3 h0_4 h0_5 h0_f6 h0_f7 h0_f8 h0_f9 x_322 (-1) h0_f12 h0_f13 h0_f14 h0_15 h0_16 h0_f17 h0_18 h0_19 h0_20 h0_21 h0_22 h0_23 h0_24 h0_25 h0_f26 h0_f27 h0_f28 h0_f29 h0_f30 h0_f31 h0_32 h0_33 h0_f34 h0_35 h0_36 h0_37 h0_38 h0_39 h0_40 h0_f41 h0_f42 h0_f43 h0_f44 h0_45 h0_46 h0_47 h0_48 h0_49 h0_50 h0_f51 h0_52 h0_f53 h2 h2k w_334 h0_5 h0_5k tN h0_5c) := hD
                  refine lv_aload_n hx hb dX12_readItems_116 rfl (lv_at hl 2 rfl) ?_
                  as_aux_lemma =>
                  refine va_get (D := (dC, dI)) (ci := 12) (v := .int (-1)) (C := RX12) (T := TX12) (N := 54) hx hb hts iw_c_X12_readItems_2_X12 hown hK hP 0 rfl rfl 11 (by decide +kernel) (hts (.fieldLink RX12 143 "BuoyVoteModel" "fault" "I") (List.mem_of_getElem? (i := 48) rfl)) (fun _ h9 => h9) rfl dX12_readItems_117 ?_
                  refine lv_iconst (v := (-1)) hx hb dX12_readItems_120 kc_iconst_m1 ?_
                  refine lv_icmp_ne (tgt := 45) hx hb dX12_readItems_121 rfl (fun c_338 => absurd c_338 (by decide +kernel)) (fun c_338 => ?_)
                  refine lv_aload hx hb dX12_readItems_124 (lv_at hl 6 rfl) ?_
                  refine lv_aload_n hx hb dX12_readItems_126 rfl (lv_at hl 2 rfl) ?_
                  obtain ⟨hPc, hDc, hFc, hqc⟩ := cl_cut (wc := (wd_c_X12_look h0 h0_f0 h0_1 h0_2 h0_3 h0_4 h0_5 h0_f6 h0_f7 h0_f8 h0_f9 x_322 (-1) h0_f12 h0_f13 h0_f14 h0_15 h0_16 h0_f17 h0_18 h0_19 h0_20 h0_21 h0_22 h0_23 h0_24 h0_25 h0_f26 h0_f27 h0_f28 h0_f29 h0_f30 h0_f31 h0_32 h0_33 h0_f34 h0_35 h0_36 h0_37 h0_38 h0_39 h0_40 h0_f41 h0_f42 h0_f43 h0_f44 h0_45 h0_46 h0_47 h0_48 h0_49 h0_50 h0_f51 h0_52 h0_f53 h0_5 h0_5k tN h0_5c)) hP hD hS hA [0, 2] (by decide +kernel) rfl
                  have hKc := hK.sub (tys' := [(h0_5k, .byte)]) [1] rfl
                  have hrv := va_recv hKc hPc (ci := 12) (q0 := 0) rfl rfl
                  refine va_calli (va_runV (As := []) (rest := [.ref ts8]) ⟨hx, hb, hml, hown, hts⟩ (c_X12_look l dC dI H.size h0 h0_f0 h0_1 h0_2 h0_3 h0_4 h0_5 h0_f6 h0_f7 h0_f8 h0_f9 x_322 h0_f12 h0_f13 h0_f14 h0_15 h0_16 h0_f17 h0_18 h0_19 h0_20 h0_21 h0_22 h0_23 h0_24 h0_25 h0_f26 h0_f27 h0_f28 h0_f29 h0_f30 h0_f31 h0_32 h0_33 h0_f34 h0_35 h0_36 h0_37 h0_38 h0_39 h0_40 h0_f41 h0_f42 h0_f43 h0_f44 h0_45 h0_46 h0_47 h0_48 h0_49 h0_50 h0_f51 h0_52 h0_f53 h0_5k h0_5c tN g_h0_f6 g_h0_f7 g_h0_f8 (RG_w g_h0_f9 (by decide +kernel)) (RG_w h_325 (by decide +kernel)) g_h0_f17 g_h0_f26 g_h0_f27 g_h0_f28 g_h0_f29 g_h0_f30 g_h0_f31 g_h0_f34 g_h0_f41 g_h0_f51 g_h0_f53 htN) (cwV 0 hts gf_c_X12_readItems_2_c_X12_look rfl rfl rfl mdV_X12_look ⟨Nat.le_of_ble_eq_true rfl, Nat.le_of_ble_eq_true rfl⟩) ⟨fun a U g mk q => by obtain ⟨q0, q1, qP, qK, qD⟩ := q; exact ⟨q0, q1, qP, va_K.moved (u := U) (U := U.calling g mk a) (Vm.Alike.refl U.vm) qK, qD⟩, hrv, fun U hU hW => ⟨rfl, by rw [hU], by rw [hU]; exact hPc, va_K.moved hW.alike hKc, hDc.weaken (fun _ _ _ _ => trivial)⟩⟩ rfl rfl hl.1 rfl (lv_room (Nat.le_of_ble_eq_true rfl)) dX12_readItems_127 ⟨Nat.le_of_ble_eq_true rfl, Nat.le_of_ble_eq_true rfl⟩) hS (fun q _ h => hFc q h) hFc (fun r_339 x_340 t H1 locs ht hvm hw hB hz1 hk1 hS => ?_)
                  obtain ⟨hP1, hK1, hD1⟩ := hB
                  rw [ht] at hP1
                  obtain ⟨hP, hD⟩ := cl_put (w1 := (wd_c_X12_look h0 h0_f0 h0_1 h0_2 h0_3 h0_4 h0_5 h0_f6 h0_f7 h0_f8 h0_f9 x_340 (-1) h0_f12 h0_f13 h0_f14 h0_15 h0_16 h0_f17 h0_18 h0_19 h0_20 h0_21 h0_22 h0_23 h0_24 h0_25 h0_f26 h0_f27 h0_f28 h0_f29 h0_f30 h0_f31 h0_32 h0_33 h0_f34 h0_35 h0_36 h0_37 h0_38 h0_39 h0_40 h0_f41 h0_f42 h0_f43 h0_f44 h0_45 h0_46 h0_47 h0_48 h0_49 h0_50 h0_f51 h0_52 h0_f53 h0_5 h0_5k tN h0_5c)) (nw := (wd_c_X12_readItems_2 h0 h0_f0 h0_1 h0_2 h0_3 h0_4 h0_5 h0_f6 h0_f7 h0_f8 h0_f9 x_340 (-1) h0_f12 h0_f13 h0_f14 h0_15 h0_16 h0_f17 h0_18 h0_19 h0_20 h0_21 h0_22 h0_23 h0_24 h0_25 h0_f26 h0_f27 h0_f28 h0_f29 h0_f30 h0_f31 h0_32 h0_33 h0_f34 h0_35 h0_36 h0_37 h0_38 h0_39 h0_40 h0_f41 h0_f42 h0_f43 h0_f44 h0_45 h0_46 h0_47 h0_48 h0_49 h0_50 h0_f51 h0_52 h0_f53 h2 h2k w_334 h0_5 h0_5k tN h0_5c)) hP hD [0, 2] [3, 1, 4] 3 rfl hqc (by decide +kernel) rfl hk1 hFc hP1 hD1
                  generalize H1 = H at hP hS ⊢
                  as_aux_lemma =>
                  rcases hw with ⟨h_341, h_342, h_343, h_344, h_345, h_346⟩ | ⟨h_347, h_348, h_349, h_350, h_351, h_352, h_353⟩
                  · have h_346 : (r_339, x_340) = _ := h_346
                    replace hEX := hEX.trans (exc2_eq h_346)
                    replace hEX := hEX.trans (if_pos (show r_339 = (-1) from h_341))
                    rw [h_341]
                    obtain ⟨hPc, hDc, hFc, hqc⟩ := cl_cut (wc := []) hP hD hS hA [] (by decide +kernel) rfl
                    have hKc := hK.sub (tys' := []) [] rfl
                    refine va_calli (va_runS (As := [.ref ts8, .int (-1)]) (rest := []) ⟨hx, hb, hml, hown, hts⟩ (c_X12_spotOf_4 l dC dI H.size ts8 tv8) (va_cwS 2 hts gf_c_X12_readItems_2_c_X12_spotOf_4 rfl rfl rfl md_X12_spotOf ⟨Nat.le_of_ble_eq_true rfl, Nat.le_of_ble_eq_true rfl⟩) ⟨fun a U g mk q => by obtain ⟨q0, q1, qP, qK, qD, qE0, qE1, qE2, qE3, qE4, qE5⟩ := q; exact ⟨q0, q1, qP, va_K.moved (u := U) (U := U.calling g mk a) (Vm.Alike.refl U.vm) qK, qD, va_OF.moved (u := U) (U := U.calling g mk a) (Vm.Alike.refl U.vm) qE0, va_T.moved (u := U) (U := U.calling g mk a) (Vm.Alike.refl U.vm) qE1, va_Z.moved (u := U) (U := U.calling g mk a) (Vm.Alike.refl U.vm) qE2, va_OF.moved (u := U) (U := U.calling g mk a) (Vm.Alike.refl U.vm) qE3, va_O.moved (u := U) (U := U.calling g mk a) (Vm.Alike.refl U.vm) qE4, va_Zq.moved (u := U) (U := U.calling g mk a) (Vm.Alike.refl U.vm) qE5⟩, fun U hU hW => ⟨rfl, by rw [hU], by rw [hU]; exact hPc, va_K.moved hW.alike hKc, hDc.weaken (fun _ _ _ _ => trivial), va_OF.moved hW.alike (by rw [hU]; exact (hE_55.kept hS.2.1).narrow hFc), va_T.moved hW.alike (by rw [hU]; exact (hE_56.kept hS.2.1).narrow hFc), va_Z.moved hW.alike (by rw [hU]; exact (hE_10.kept hS.2.1).narrow hFc), va_OF.moved hW.alike (by rw [hU]; exact (hE_54.kept hS.2.1).narrow hFc), va_O.moved hW.alike (by rw [hU]; exact (hE_53.kept hS.2.1).narrow hFc), va_Zq.moved hW.alike (by rw [hU]; exact (hE_11.kept hS.2.1).narrow hFc)⟩⟩ rfl rfl hl.1 rfl (lv_room (Nat.le_of_ble_eq_true rfl)) dX12_readItems_130 ⟨Nat.le_of_ble_eq_true rfl, Nat.le_of_ble_eq_true rfl⟩) hS (fun q _ h => hFc q h) hFc (fun r_354 u t H1 locs ht hvm hw hB hz1 hk1 hS => ?_)
                    obtain ⟨hP1, hK1, hD1⟩ := hB
                    rw [ht] at hP1
                    have hP := bv_still hP hk1
                    generalize H1 = H at hP hS ⊢
                    as_aux_lemma =>
                    rcases hw with ⟨h_355, h_356⟩
                    have h_356 : r_354 = _ := h_356
                    replace hEX := hEX.trans (exc1_eq h_356)
                    rw [h_355]
                    refine lv_istore (lv' := [(6, .int (-1)), (5, .int x_296), (0, .ref h0), (1, .int p1), (2, .ref h2), (3, .int 0), (4, .ref ts8)]) hx hb dX12_readItems_133 hl (Nat.le_of_ble_eq_true rfl) rfl (fun ls hl => ?_)
                    refine lv_goto (tgt := 45) hx hb dX12_readItems_135 rfl ?_
                    exact hU _ _ _ (J45 x_296 x_340 w_334 g_h0_f10 g_h0_f17 g_h0_f26 g_h0_f27 g_h0_f28 g_h0_f29 g_h0_f30 g_h0_f31 g_h0_f34 g_h0_f41 g_h0_f51 g_h0_f53 g_h0_f6 g_h0_f7 g_h0_f8 (RG_w g_h0_f9 (by decide +kernel)) h_342 g_p1 a_337 i_336 (by have := r_h0_f10_j45b_h0_f10; have := q_299; have := h_328; have := h_343; omega) hEX _ _ _ hP hD hS (lv_sub hl [0, 1, 2, 3, 4, 5, 6] rfl))
                  · have h_353 : (r_339, x_340) = _ := h_353
                    replace hEX := hEX.trans (exc2_eq h_353)
                    replace hEX := hEX.trans (if_neg (RG_neq (x := r_339) (c := (-1)) (show RG r_339 0 255 from h_347) (by decide +kernel)))
                    have nb_357 := h_352.2.resolve_left (fun q => by have g9 := h_347; rw [q] at g9; exact absurd g9.1 (by decide +kernel))
                    obtain ⟨hPc, hDc, hFc, hqc⟩ := cl_cut (wc := []) hP hD hS hA [] (by decide +kernel) rfl
                    have hKc := hK.sub (tys' := []) [] rfl
                    refine va_calli (va_runS (As := [.ref ts8, .int r_339]) (rest := []) ⟨hx, hb, hml, hown, hts⟩ (c_X12_spotOf_5 l dC dI H.size ts8 r_339 tv8 h_347) (va_cwS 2 hts gf_c_X12_readItems_2_c_X12_spotOf_5 rfl rfl rfl md_X12_spotOf ⟨Nat.le_of_ble_eq_true rfl, Nat.le_of_ble_eq_true rfl⟩) ⟨fun a U g mk q => by obtain ⟨q0, q1, qP, qK, qD, qE0, qE1, qE2, qE3, qE4, qE5⟩ := q; exact ⟨q0, q1, qP, va_K.moved (u := U) (U := U.calling g mk a) (Vm.Alike.refl U.vm) qK, qD, va_OF.moved (u := U) (U := U.calling g mk a) (Vm.Alike.refl U.vm) qE0, va_T.moved (u := U) (U := U.calling g mk a) (Vm.Alike.refl U.vm) qE1, va_Z.moved (u := U) (U := U.calling g mk a) (Vm.Alike.refl U.vm) qE2, va_OF.moved (u := U) (U := U.calling g mk a) (Vm.Alike.refl U.vm) qE3, va_O.moved (u := U) (U := U.calling g mk a) (Vm.Alike.refl U.vm) qE4, va_Zq.moved (u := U) (U := U.calling g mk a) (Vm.Alike.refl U.vm) qE5⟩, fun U hU hW => ⟨rfl, by rw [hU], by rw [hU]; exact hPc, va_K.moved hW.alike hKc, hDc.weaken (fun _ _ _ _ => trivial), va_OF.moved hW.alike (by rw [hU]; exact (hE_55.kept hS.2.1).narrow hFc), va_T.moved hW.alike (by rw [hU]; exact (hE_56.kept hS.2.1).narrow hFc), va_Z.moved hW.alike (by rw [hU]; exact (hE_10.kept hS.2.1).narrow hFc), va_OF.moved hW.alike (by rw [hU]; exact (hE_54.kept hS.2.1).narrow hFc), va_O.moved hW.alike (by rw [hU]; exact (hE_53.kept hS.2.1).narrow hFc), va_Zq.moved hW.alike (by rw [hU]; exact (hE_11.kept hS.2.1).narrow hFc)⟩⟩ rfl rfl hl.1 rfl (lv_room (Nat.le_of_ble_eq_true rfl)) dX12_readItems_130 ⟨Nat.le_of_ble_eq_true rfl, Nat.le_of_ble_eq_true rfl⟩) hS (fun q _ h => hFc q h) hFc (fun r_358 u t H1 locs ht hvm hw hB hz1 hk1 hS => ?_)
                    as_aux_lemma =>
                    obtain ⟨hP1, hK1, hD1⟩ := hB
                    rw [ht] at hP1
                    have hP := bv_still hP hk1
                    generalize H1 = H at hP hS ⊢
                    as_aux_lemma =>
                    rcases hw with ⟨h_359, h_360⟩ | ⟨h_361, h_362, h_363⟩ | ⟨h_364, h_365, h_366⟩ | ⟨h_367, h_368, h_369⟩ | ⟨h_370, h_371, h_372⟩
                    · have h_360 : r_358 = _ := h_360
                      replace hEX := hEX.trans (exc1_eq h_360)
                      replace hEX := hEX.trans (if_pos (show r_358 = (-1) from h_359))
                      rw [h_359]
                      refine lv_istore (lv' := [(6, .int (-1)), (5, .int x_296), (0, .ref h0), (1, .int p1), (2, .ref h2), (3, .int 0), (4, .ref ts8)]) hx hb dX12_readItems_133 hl (Nat.le_of_ble_eq_true rfl) rfl (fun ls hl => ?_)
                      refine lv_goto (tgt := 45) hx hb dX12_readItems_135 rfl ?_
                      exact hU _ _ _ (J45 x_296 x_340 w_334 g_h0_f10 g_h0_f17 g_h0_f26 g_h0_f27 g_h0_f28 g_h0_f29 g_h0_f30 g_h0_f31 g_h0_f34 g_h0_f41 g_h0_f51 g_h0_f53 g_h0_f6 g_h0_f7 g_h0_f8 (RG_w g_h0_f9 (by decide +kernel)) (RG_w h_348 (by decide +kernel)) g_p1 a_337 i_336 (by have := r_h0_f10_j45b_h0_f10; have := q_299; have := h_328; have := h_350; omega) hEX _ _ _ hP hD hS (lv_sub hl [0, 1, 2, 3, 4, 5, 6] rfl))
                    · have h_363 : r_358 = _ := h_363
                      replace hEX := hEX.trans (exc1_eq h_363)
                      replace hEX := hEX.trans (if_neg (fun q9 : r_358 = (-1) => absurd ((show r_358 = 3 from h_361).symm.trans q9) (by decide +kernel)))
                      replace hEX := hEX.trans (if_pos (show r_358 = 3 from h_361))
                      rw [h_361]
                      refine lv_istore (lv' := [(6, .int 3), (5, .int x_296), (0, .ref h0), (1, .int p1), (2, .ref h2), (3, .int 0), (4, .ref ts8)]) hx hb dX12_readItems_133 hl (Nat.le_of_ble_eq_true rfl) rfl (fun ls hl => ?_)
                      as_aux_lemma =>
                      refine lv_goto (tgt := 45) hx hb dX12_readItems_135 rfl ?_
                      exact hU _ _ _ (ih45b 3 x_296 x_340 w_334 (mu_s (MU_lt (by have := q_299; have := h_328; have := h_350; omega)) hM45b) g_h0_f10 g_h0_f17 g_h0_f26 g_h0_f27 g_h0_f28 g_h0_f29 g_h0_f30 g_h0_f31 g_h0_f34 g_h0_f41 g_h0_f51 g_h0_f53 g_h0_f6 g_h0_f7 g_h0_f8 g_h0_f9 h_348 (RG_w (RG_k 3 3 rfl) (by decide +kernel)) g_p1 a_337 i_336 (by have := r_h0_f10_j45b_h0_f10; have := q_299; have := h_328; have := h_350; omega) hEX _ _ _ hP hD hS (lv_sub hl [0, 1, 2, 3, 4, 5, 6] rfl))
                    · have h_366 : r_358 = _ := h_366
                      replace hEX := hEX.trans (exc1_eq h_366)
                      replace hEX := hEX.trans (if_neg (fun q9 : r_358 = (-1) => absurd ((show r_358 = 2 from h_364).symm.trans q9) (by decide +kernel)))
                      replace hEX := hEX.trans (if_neg (fun q9 : r_358 = 3 => absurd ((show r_358 = 2 from h_364).symm.trans q9) (by decide +kernel)))
                      replace hEX := hEX.trans (if_pos (show r_358 = 2 from h_364))
                      rw [h_364]
                      refine lv_istore (lv' := [(6, .int 2), (5, .int x_296), (0, .ref h0), (1, .int p1), (2, .ref h2), (3, .int 0), (4, .ref ts8)]) hx hb dX12_readItems_133 hl (Nat.le_of_ble_eq_true rfl) rfl (fun ls hl => ?_)
                      refine lv_goto (tgt := 45) hx hb dX12_readItems_135 rfl ?_
                      exact hU _ _ _ (ih45b 2 x_296 x_340 w_334 (mu_s (MU_lt (by have := q_299; have := h_328; have := h_350; omega)) hM45b) g_h0_f10 g_h0_f17 g_h0_f26 g_h0_f27 g_h0_f28 g_h0_f29 g_h0_f30 g_h0_f31 g_h0_f34 g_h0_f41 g_h0_f51 g_h0_f53 g_h0_f6 g_h0_f7 g_h0_f8 g_h0_f9 h_348 (RG_w (RG_k 2 2 rfl) (by decide +kernel)) g_p1 a_337 i_336 (by have := r_h0_f10_j45b_h0_f10; have := q_299; have := h_328; have := h_350; omega) hEX _ _ _ hP hD hS (lv_sub hl [0, 1, 2, 3, 4, 5, 6] rfl))
                    · have h_369 : r_358 = _ := h_369
                      replace hEX := hEX.trans (exc1_eq h_369)
                      replace hEX := hEX.trans (if_neg (fun q9 : r_358 = (-1) => absurd ((show r_358 = 1 from h_367).symm.trans q9) (by decide +kernel)))
                      replace hEX := hEX.trans (if_neg (fun q9 : r_358 = 3 => absurd ((show r_358 = 1 from h_367).symm.trans q9) (by decide +kernel)))
                      replace hEX := hEX.trans (if_neg (fun q9 : r_358 = 2 => absurd ((show r_358 = 1 from h_367).symm.trans q9) (by decide +kernel)))
                      replace hEX := hEX.trans (if_pos (show r_358 = 1 from h_367))
                      rw [h_367]
                      refine lv_istore (lv' := [(6, .int 1), (5, .int x_296), (0, .ref h0), (1, .int p1), (2, .ref h2), (3, .int 0), (4, .ref ts8)]) hx hb dX12_readItems_133 hl (Nat.le_of_ble_eq_true rfl) rfl (fun ls hl => ?_)
                      as_aux_lemma =>
                      refine lv_goto (tgt := 45) hx hb dX12_readItems_135 rfl ?_
                      exact hU _ _ _ (ih45b 1 x_296 x_340 w_334 (mu_s (MU_lt (by have := q_299; have := h_328; have := h_350; omega)) hM45b) g_h0_f10 g_h0_f17 g_h0_f26 g_h0_f27 g_h0_f28 g_h0_f29 g_h0_f30 g_h0_f31 g_h0_f34 g_h0_f41 g_h0_f51 g_h0_f53 g_h0_f6 g_h0_f7 g_h0_f8 g_h0_f9 h_348 (RG_w (RG_k 1 1 rfl) (by decide +kernel)) g_p1 a_337 i_336 (by have := r_h0_f10_j45b_h0_f10; have := q_299; have := h_328; have := h_350; omega) hEX _ _ _ hP hD hS (lv_sub hl [0, 1, 2, 3, 4, 5, 6] rfl))
                    · have h_372 : r_358 = _ := h_372
                      replace hEX := hEX.trans (exc1_eq h_372)
                      replace hEX := hEX.trans (if_neg (fun q9 : r_358 = (-1) => absurd ((show r_358 = 0 from h_370).symm.trans q9) (by decide +kernel)))
                      replace hEX := hEX.trans (if_neg (fun q9 : r_358 = 3 => absurd ((show r_358 = 0 from h_370).symm.trans q9) (by decide +kernel)))
                      replace hEX := hEX.trans (if_neg (fun q9 : r_358 = 2 => absurd ((show r_358 = 0 from h_370).symm.trans q9) (by decide +kernel)))
                      replace hEX := hEX.trans (if_neg (fun q9 : r_358 = 1 => absurd ((show r_358 = 0 from h_370).symm.trans q9) (by decide +kernel)))
                      rw [h_370]
                      refine lv_istore (lv' := [(6, .int 0), (5, .int x_296), (0, .ref h0), (1, .int p1), (2, .ref h2), (3, .int 0), (4, .ref ts8)]) hx hb dX12_readItems_133 hl (Nat.le_of_ble_eq_true rfl) rfl (fun ls hl => ?_)
                      refine lv_goto (tgt := 45) hx hb dX12_readItems_135 rfl ?_
                      exact hU _ _ _ (ih45b 0 x_296 x_340 w_334 (mu_s (MU_lt (by have := q_299; have := h_328; have := h_350; omega)) hM45b) g_h0_f10 g_h0_f17 g_h0_f26 g_h0_f27 g_h0_f28 g_h0_f29 g_h0_f30 g_h0_f31 g_h0_f34 g_h0_f41 g_h0_f51 g_h0_f53 g_h0_f6 g_h0_f7 g_h0_f8 g_h0_f9 h_348 (RG_w (RG_k 0 0 rfl) (by decide +kernel)) g_p1 a_337 i_336 (by have := r_h0_f10_j45b_h0_f10; have := q_299; have := h_328; have := h_350; omega) hEX _ _ _ hP hD hS (lv_sub hl [0, 1, 2, 3, 4, 5, 6] rfl))
                · have h_333 : (r_321, x_322, x_323) = _ := h_333
                  replace hEX := hEX.trans (exc3_eq h_333)
                  replace hEX := hEX.trans (if_neg (RG_neq (x := x_323) (c := (-1)) (show RG x_323 0 240 from h_332) (by decide +kernel)))
                  refine va_iast hx hb hK hP hD hS 1 0 rfl rfl (RG_in (RG_k 3 3 rfl) (by decide +kernel)) dX12_readItems_115 (fun H locs hP hD hS => ?_)
                  as_aux_lemma =>
                  have hP : va_P (dC, dI) vwCl (wd_c_X12_readItems_2 h0 h0_f0 h0_1 h0_2 h0_3 h0_4 h0_5 h0_f6 h0_f7 h0_f8 h0_f9 x_322 x_323 h0_f12 h0_f13 h0_f14 h0_15 h0_16 h0_f17 h0_18 h0_19 h0_20 h0_21 h0_22 h0_23 h0_24 h0_25 h0_f26 h0_f27 h0_f28 h0_f29 h0_f30 h0_f31 h0_32 h0_33 h0_f34 h0_35 h0_36 h0_37 h0_38 h0_39 h0_40 h0_f41 h0_f42 h0_f43 h0_f44 h0_45 h0_46 h0_47 h0_48 h0_49 h0_50 h0_f51 h0_52 h0_f53 h2 h2k (upd j45b_h2c (3 : Int32).toNatClampNeg r_321) h0_5 h0_5k tN h0_5c) H := hP
                  have hD : va_D A (wd_c_X12_readItems_2 h0 h0_f0 h0_1 h0_2 h0_3 h0_4 h0_5 h0_f6 h0_f7 h0_f8 h0_f9 x_322 x_323 h0_f12 h0_f13 h0_f14 h0_15 h0_16 h0_f17 h0_18 h0_19 h0_20 h0_21 h0_22 h0_23 h0_24 h0_25 h0_f26 h0_f27 h0_f28 h0_f29 h0_f30 h0_f31 h0_32 h0_33 h0_f34 h0_35 h0_36 h0_37 h0_38 h0_39 h0_40 h0_f41 h0_f42 h0_f43 h0_f44 h0_45 h0_46 h0_47 h0_48 h0_49 h0_50 h0_f51 h0_52 h0_f53 h2 h2k (upd j45b_h2c (3 : Int32).toNatClampNeg r_321) h0_5 h0_5k tN h0_5c) := hD
                  have l_374 : (upd j45b_h2c (3 : Int32).toNatClampNeg r_321) (3 : Int32).toNatClampNeg = r_321 := pk_us
                  have a_375 : AI (upd j45b_h2c (3 : Int32).toNatClampNeg r_321) 0 99 := AI_up a_j45b_h2c h_330 (by decide +kernel)
                  generalize huw_373 : (upd j45b_h2c (3 : Int32).toNatClampNeg r_321) = w_373 at hP hD a_375 l_374
                  replace hEX := hEX.trans (exl_eq huw_373.symm)
                  have hP : va_P (dC, dI) vwCl (wd_c_X12_readItems_2 h0 h0_f0 h0_1 h0_2 h0_3 h0_4 h0_5 h0_f6 h0_f7 h0_f8 h0_f9 x_322 x_323 h0_f12 h0_f13 h0_f14 h0_15 h0_16 h0_f17 h0_18 h0_19 h0_20 h0_21 h0_22 h0_23 h0_24 h0_25 h0_f26 h0_f27 h0_f28 h0_f29 h0_f30 h0_f31 h0_32 h0_33 h0_f34 h0_35 h0_36 h0_37 h0_38 h0_39 h0_40 h0_f41 h0_f42 h0_f43 h0_f44 h0_45 h0_46 h0_47 h0_48 h0_49 h0_50 h0_f51 h0_52 h0_f53 h2 h2k w_373 h0_5 h0_5k tN h0_5c) H := hP
                  have hD : va_D A (wd_c_X12_readItems_2 h0 h0_f0 h0_1 h0_2 h0_3 h0_4 h0_5 h0_f6 h0_f7 h0_f8 h0_f9 x_322 x_323 h0_f12 h0_f13 h0_f14 h0_15 h0_16 h0_f17 h0_18 h0_19 h0_20 h0_21 h0_22 h0_23 h0_24 h0_25 h0_f26 h0_f27 h0_f28 h0_f29 h0_f30 h0_f31 h0_32 h0_33 h0_f34 h0_35 h0_36 h0_37 h0_38 h0_39 h0_40 h0_f41 h0_f42 h0_f43 h0_f44 h0_45 h0_46 h0_47 h0_48 h0_49 h0_50 h0_f51 h0_52 h0_f53 h2 h2k w_373 h0_5 h0_5k tN h0_5c) := hD
                  refine lv_aload_n hx hb dX12_readItems_116 rfl (lv_at hl 2 rfl) ?_
                  refine va_get (D := (dC, dI)) (ci := 12) (v := .int x_323) (C := RX12) (T := TX12) (N := 54) hx hb hts iw_c_X12_readItems_2_X12 hown hK hP 0 rfl rfl 11 (by decide +kernel) (hts (.fieldLink RX12 143 "BuoyVoteModel" "fault" "I") (List.mem_of_getElem? (i := 48) rfl)) (fun _ h9 => h9) rfl dX12_readItems_117 ?_
                  refine lv_iconst (v := (-1)) hx hb dX12_readItems_120 kc_iconst_m1 ?_
                  refine lv_icmp_ne (tgt := 45) hx hb dX12_readItems_121 rfl (fun c_376 => ?_) (fun c_376 => ?_)
                  · replace hEX := hEX.trans (if_neg c_376)
                    exact hU _ _ _ (J45c x_296 3 x_322 x_323 w_373 g_h0_f10 g_h0_f17 g_h0_f26 g_h0_f27 g_h0_f28 g_h0_f29 g_h0_f30 g_h0_f31 g_h0_f34 g_h0_f41 g_h0_f51 g_h0_f53 g_h0_f6 g_h0_f7 g_h0_f8 g_h0_f9 h_331 h_332 (RG_w (RG_k 3 3 rfl) (by decide +kernel)) g_p1 a_375 hEX _ _ _ hP hD hS (lv_sub hl [0, 1, 2, 3, 4, 5, 6] rfl))
                  · replace hEX := hEX.trans (if_pos c_376)
                    exact RG_dead (RG_eq1 h_332 (RG_k (-1) (-1) rfl) c_376 (a' := 0) (b' := (-1)) (by decide +kernel)) (by decide +kernel)
              · have h_314 : r_308 = _ := h_314
                replace hEX := hEX.trans (exc1_eq h_314)
                replace hEX := hEX.trans (if_neg (fun q9 : r_308 = 20 => absurd ((show r_308 = 12 from h_312).symm.trans q9) (by decide +kernel)))
                replace hEX := hEX.trans (if_pos (show r_308 = 12 from h_312))
                rw [h_312]
                exact RG_dead (RG_eq1 (RG_k 3 3 rfl) h_313 rfl (a' := 3) (b' := 2) (by decide +kernel)) (by decide +kernel)
              · have h_317 : r_308 = _ := h_317
                replace hEX := hEX.trans (exc1_eq h_317)
                replace hEX := hEX.trans (if_neg (fun q9 : r_308 = 20 => absurd ((show r_308 = 3 from h_315).symm.trans q9) (by decide +kernel)))
                replace hEX := hEX.trans (if_neg (fun q9 : r_308 = 12 => absurd ((show r_308 = 3 from h_315).symm.trans q9) (by decide +kernel)))
                replace hEX := hEX.trans (if_pos (show r_308 = 3 from h_315))
                rw [h_315]
                exact RG_dead (RG_eq1 (RG_k 3 3 rfl) h_316 rfl (a' := 3) (b' := 1) (by decide +kernel)) (by decide +kernel)
              · have h_320 : r_308 = _ := h_320
                replace hEX := hEX.trans (exc1_eq h_320)
                replace hEX := hEX.trans (if_neg (fun q9 : r_308 = 20 => absurd ((show r_308 = 9 from h_318).symm.trans q9) (by decide +kernel)))
                replace hEX := hEX.trans (if_neg (fun q9 : r_308 = 12 => absurd ((show r_308 = 9 from h_318).symm.trans q9) (by decide +kernel)))
                replace hEX := hEX.trans (if_neg (fun q9 : r_308 = 3 => absurd ((show r_308 = 9 from h_318).symm.trans q9) (by decide +kernel)))
                rw [h_318]
                exact RG_dead (RG_eq1 (RG_k 3 3 rfl) h_319 rfl (a' := 3) (b' := 0) (by decide +kernel)) (by decide +kernel)
          · have h_293 : r_287 = _ := h_293
            replace hEX := hEX.trans (exc1_eq h_293)
            replace hEX := hEX.trans (if_neg (fun q9 : r_287 = 0 => absurd ((show r_287 = 1 from h_291).symm.trans q9) (by decide +kernel)))
            rw [h_291]
            refine lv_if_eq (tgt := 75) hx hb dX12_readItems_66 rfl (fun c_377 => absurd c_377 (by decide +kernel)) (fun c_377 => ?_)
            as_aux_lemma =>
            refine lv_aload_n hx hb dX12_readItems_69 rfl (lv_at hl 2 rfl) ?_
            obtain ⟨hPc, hDc, hFc, hqc⟩ := cl_cut (wc := (wd_c_X12_fails h0 h0_f0 h0_1 h0_2 h0_3 h0_4 h0_5 h0_f6 h0_f7 h0_f8 h0_f9 j45b_h0_f10 (-1) h0_f12 h0_f13 h0_f14 h0_15 h0_16 h0_f17 h0_18 h0_19 h0_20 h0_21 h0_22 h0_23 h0_24 h0_25 h0_f26 h0_f27 h0_f28 h0_f29 h0_f30 h0_f31 h0_32 h0_33 h0_f34 h0_35 h0_36 h0_37 h0_38 h0_39 h0_40 h0_f41 h0_f42 h0_f43 h0_f44 h0_45 h0_46 h0_47 h0_48 h0_49 h0_50 h0_f51 h0_52 h0_f53)) hP hD hS hA [0] (by decide +kernel) rfl
            have hKc := hK.sub (tys' := []) [] rfl
            have hrv := va_recv hKc hPc (ci := 12) (q0 := 0) rfl rfl
            refine va_calli (va_runV (As := []) (rest := []) ⟨hx, hb, hml, hown, hts⟩ (c_X12_fails l dC dI H.size h0 h0_f0 h0_1 h0_2 h0_3 h0_4 h0_5 h0_f6 h0_f7 h0_f8 h0_f9 j45b_h0_f10 h0_f12 h0_f13 h0_f14 h0_15 h0_16 h0_f17 h0_18 h0_19 h0_20 h0_21 h0_22 h0_23 h0_24 h0_25 h0_f26 h0_f27 h0_f28 h0_f29 h0_f30 h0_f31 h0_32 h0_33 h0_f34 h0_35 h0_36 h0_37 h0_38 h0_39 h0_40 h0_f41 h0_f42 h0_f43 h0_f44 h0_45 h0_46 h0_47 h0_48 h0_49 h0_50 h0_f51 h0_52 h0_f53 g_h0_f6 g_h0_f7 g_h0_f8 (RG_w g_h0_f9 (by decide +kernel)) (RG_w g_j45b_h0_f10 (by decide +kernel)) g_h0_f17 g_h0_f26 g_h0_f27 g_h0_f28 g_h0_f29 g_h0_f30 g_h0_f31 g_h0_f34 g_h0_f41 g_h0_f51 g_h0_f53) (cwV 0 hts gf_c_X12_readItems_2_c_X12_fails rfl rfl rfl mdV_X12_fails ⟨Nat.le_of_ble_eq_true rfl, Nat.le_of_ble_eq_true rfl⟩) ⟨fun a U g mk q => by obtain ⟨q0, q1, qP, qK, qD⟩ := q; exact ⟨q0, q1, qP, va_K.moved (u := U) (U := U.calling g mk a) (Vm.Alike.refl U.vm) qK, qD⟩, hrv, fun U hU hW => ⟨rfl, by rw [hU], by rw [hU]; exact hPc, va_K.moved hW.alike hKc, hDc.weaken (fun _ _ _ _ => trivial)⟩⟩ rfl rfl hl.1 rfl (lv_room (Nat.le_of_ble_eq_true rfl)) dX12_readItems_70 ⟨Nat.le_of_ble_eq_true rfl, Nat.le_of_ble_eq_true rfl⟩) hS (fun q _ h => hFc q h) hFc (fun r_378 u t H1 locs ht hvm hw hB hz1 hk1 hS => ?_)
            obtain ⟨hP1, hK1, hD1⟩ := hB
            rw [ht] at hP1
            obtain ⟨hP, hD⟩ := cl_put (w1 := (wd_c_X12_fails h0 h0_f0 h0_1 h0_2 h0_3 h0_4 h0_5 h0_f6 h0_f7 h0_f8 h0_f9 j45b_h0_f10 j45b_h0_f10 h0_f12 h0_f13 h0_f14 h0_15 h0_16 h0_f17 h0_18 h0_19 h0_20 h0_21 h0_22 h0_23 h0_24 h0_25 h0_f26 h0_f27 h0_f28 h0_f29 h0_f30 h0_f31 h0_32 h0_33 h0_f34 h0_35 h0_36 h0_37 h0_38 h0_39 h0_40 h0_f41 h0_f42 h0_f43 h0_f44 h0_45 h0_46 h0_47 h0_48 h0_49 h0_50 h0_f51 h0_52 h0_f53)) (nw := (wd_c_X12_readItems_2 h0 h0_f0 h0_1 h0_2 h0_3 h0_4 h0_5 h0_f6 h0_f7 h0_f8 h0_f9 j45b_h0_f10 j45b_h0_f10 h0_f12 h0_f13 h0_f14 h0_15 h0_16 h0_f17 h0_18 h0_19 h0_20 h0_21 h0_22 h0_23 h0_24 h0_25 h0_f26 h0_f27 h0_f28 h0_f29 h0_f30 h0_f31 h0_32 h0_33 h0_f34 h0_35 h0_36 h0_37 h0_38 h0_39 h0_40 h0_f41 h0_f42 h0_f43 h0_f44 h0_45 h0_46 h0_47 h0_48 h0_49 h0_50 h0_f51 h0_52 h0_f53 h2 h2k j45b_h2c h0_5 h0_5k tN h0_5c)) hP hD [0] [3, 1, 2] 3 rfl hqc (by decide +kernel) rfl hk1 hFc hP1 hD1
            generalize H1 = H at hP hS ⊢
            as_aux_lemma =>
            rcases hw with ⟨h_379, h_380⟩
            have h_380 : r_378 = _ := h_380
            replace hEX := hEX.trans (exc1_eq h_380)
            rw [h_379]
            refine lv_pop hx hb dX12_readItems_73 rfl ?_
            have hK9 := hK.sub (tys' := []) [] rfl
            exact W.vret hx hb hr (fun t ht hW => ⟨⟨(j45b_h0_f10, j45b_h0_f10, j45b_h2c), rfl, (Or.inr ⟨(RG_w g_j45b_h0_f10 (by decide +kernel)), (RG_w g_j45b_h0_f10 (by decide +kernel)), a_j45b_h2c, g_h0_f9, (hR.trans hEX).symm⟩), by rw [ht]; exact hP, va_K.moved hW.alike hK9, hD⟩, hS.F ht⟩) hS.2.2 dX12_readItems_74
        replace hEX := hEX.trans (if_neg c_286)
        exfalso
        have zc_6 := lv_neT c_6 (a := 0) (by decide +kernel)
        have zc_98 := lv_neT c_98 (a := 1) (by decide +kernel)
        have zc_194 := lv_neT c_194 (a := 2) (by decide +kernel)
        have zc_286 := lv_neT c_286 (a := 3) (by decide +kernel)
        have zg1 := (g_j45b_l6).1
        have zg2 := (g_j45b_l6).2
        omega
  refine hG _ _ _ ?_
  as_aux_lemma =>
  refine lv_iconst (v := 0) hx hb dX12_readItems_0 kc_iconst_0 ?_
  refine lv_istore (lv' := [(5, .int 0), (0, .ref h0), (1, .int p1), (2, .ref h2), (3, .int 0), (4, .ref ts8)]) hx hb dX12_readItems_1 hl (Nat.le_of_ble_eq_true rfl) rfl (fun ls hl => ?_)
  refine lv_iload hx hb dX12_readItems_3 (lv_at hl 0 rfl) ?_
  refine lv_aload hx hb dX12_readItems_5 (lv_at hl 5 rfl) ?_
  obtain ⟨hPc, hDc, hFc, hqc⟩ := cl_cut (wc := []) hP hD hS hA [] (by decide +kernel) rfl
  have hKc := hK.sub (tys' := []) [] rfl
  have hrv := bv_Orecv hE_53 hS
  refine va_calli (va_runV (As := []) (rest := [.int 0]) ⟨hx, hb, hml, hown, hts⟩ (c_J0_length_8abf5_8 l dC dI H.size ts8 tv8) (cwV 0 hts gf_c_X12_readItems_2_c_J0_length_8abf5_8 rfl rfl rfl mdV_J0_length_8abf5 ⟨Nat.le_of_ble_eq_true rfl, Nat.le_of_ble_eq_true rfl⟩) ⟨fun a U g mk q => by obtain ⟨q0, q1, qP, qK, qD, qE0, qE1, qE2, qE3, qE4⟩ := q; exact ⟨q0, q1, qP, va_K.moved (u := U) (U := U.calling g mk a) (Vm.Alike.refl U.vm) qK, qD, va_OF.moved (u := U) (U := U.calling g mk a) (Vm.Alike.refl U.vm) qE0, va_T.moved (u := U) (U := U.calling g mk a) (Vm.Alike.refl U.vm) qE1, va_Z.moved (u := U) (U := U.calling g mk a) (Vm.Alike.refl U.vm) qE2, va_OF.moved (u := U) (U := U.calling g mk a) (Vm.Alike.refl U.vm) qE3, va_O.moved (u := U) (U := U.calling g mk a) (Vm.Alike.refl U.vm) qE4⟩, hrv, fun U hU hW => ⟨rfl, by rw [hU], by rw [hU]; exact hPc, va_K.moved hW.alike hKc, hDc.weaken (fun _ _ _ _ => trivial), va_OF.moved hW.alike (by rw [hU]; exact (hE_55.kept hS.2.1).narrow hFc), va_T.moved hW.alike (by rw [hU]; exact (hE_56.kept hS.2.1).narrow hFc), va_Z.moved hW.alike (by rw [hU]; exact (hE_10.kept hS.2.1).narrow hFc), va_OF.moved hW.alike (by rw [hU]; exact (hE_54.kept hS.2.1).narrow hFc), va_O.moved hW.alike (by rw [hU]; exact (hE_53.kept hS.2.1).narrow hFc)⟩⟩ rfl rfl hl.1 rfl (lv_room (Nat.le_of_ble_eq_true rfl)) dX12_readItems_7 ⟨Nat.le_of_ble_eq_true rfl, Nat.le_of_ble_eq_true rfl⟩) hS (fun q _ h => hFc q h) hFc (fun r_381 u t H1 locs ht hvm hw hB hz1 hk1 hS => ?_)
  obtain ⟨hP1, hK1, hD1⟩ := hB
  rw [ht] at hP1
  have hP := bv_still hP hk1
  generalize H1 = H at hP hS ⊢
  as_aux_lemma =>
  rcases hw with ⟨h_382, h_383⟩
  have h_383 : r_381 = _ := h_383
  replace hEX := hEX.trans (exc1_eq h_383)
  rw [h_382]
  refine lv_icmp_ge (tgt := 31) hx hb dX12_readItems_10 rfl (fun c_384 => absurd c_384 (by decide +kernel)) (fun c_384 => ?_)
  refine lv_aload_n hx hb dX12_readItems_13 rfl (lv_at hl 3 rfl) ?_
  refine lv_iload_n hx hb dX12_readItems_14 rfl (lv_at hl 4 rfl) ?_
  refine lv_iload hx hb dX12_readItems_15 (lv_at hl 0 rfl) ?_
  refine lv_iadd hx hb dX12_readItems_17 ?_
  refine lv_topi (fun x_385 ex_385 => ?_)
  obtain rfl : x_385 = 0 := ex_385.trans (by decide +kernel)
  refine lv_iload_n hx hb dX12_readItems_18 rfl (lv_at hl 2 rfl) ?_
  refine lv_iload hx hb dX12_readItems_19 (lv_at hl 0 rfl) ?_
  obtain ⟨hPc, hDc, hFc, hqc⟩ := cl_cut (wc := []) hP hD hS hA [] (by decide +kernel) rfl
  have hKc := hK.sub (tys' := []) [] rfl
  refine va_calli (va_runS (As := [.int p1, .int 0]) (rest := [.int 0, .ref h2]) ⟨hx, hb, hml, hown, hts⟩ (c_X12_usual_13 l dC dI H.size p1 0 g_p1 (RG_k 0 0 rfl)) (va_cwS 2 hts gf_c_X12_readItems_2_c_X12_usual_13 rfl rfl rfl md_X12_usual ⟨Nat.le_of_ble_eq_true rfl, Nat.le_of_ble_eq_true rfl⟩) ⟨fun a U g mk q => by obtain ⟨q0, q1, qP, qK, qD⟩ := q; exact ⟨q0, q1, qP, va_K.moved (u := U) (U := U.calling g mk a) (Vm.Alike.refl U.vm) qK, qD⟩, fun U hU hW => ⟨rfl, by rw [hU], by rw [hU]; exact hPc, va_K.moved hW.alike hKc, hDc.weaken (fun _ _ _ _ => trivial)⟩⟩ rfl rfl hl.1 rfl (lv_room (Nat.le_of_ble_eq_true rfl)) dX12_readItems_21 ⟨Nat.le_of_ble_eq_true rfl, Nat.le_of_ble_eq_true rfl⟩) hS (fun q _ h => hFc q h) hFc (fun r_386 u t H1 locs ht hvm hw hB hz1 hk1 hS => ?_)
  as_aux_lemma =>
  obtain ⟨hP1, hK1, hD1⟩ := hB
  rw [ht] at hP1
  have hP := bv_still hP hk1
  generalize H1 = H at hP hS ⊢
  as_aux_lemma =>
  rcases hw with ⟨h_387, h_388⟩
  have h_388 : r_386 = _ := h_388
  replace hEX := hEX.trans (exc1_eq h_388)
  rw [h_387]
  refine va_iast hx hb hK hP hD hS 1 0 rfl rfl (RG_in (RG_k 0 0 rfl) (by decide +kernel)) dX12_readItems_24 (fun H locs hP hD hS => ?_)
  have hP : va_P (dC, dI) vwCl (wd_c_X12_readItems_2 h0 h0_f0 h0_1 h0_2 h0_3 h0_4 h0_5 h0_f6 h0_f7 h0_f8 h0_f9 h0_f10 (-1) h0_f12 h0_f13 h0_f14 h0_15 h0_16 h0_f17 h0_18 h0_19 h0_20 h0_21 h0_22 h0_23 h0_24 h0_25 h0_f26 h0_f27 h0_f28 h0_f29 h0_f30 h0_f31 h0_32 h0_33 h0_f34 h0_35 h0_36 h0_37 h0_38 h0_39 h0_40 h0_f41 h0_f42 h0_f43 h0_f44 h0_45 h0_46 h0_47 h0_48 h0_49 h0_50 h0_f51 h0_52 h0_f53 h2 h2k (upd h2c (0 : Int32).toNatClampNeg 2) h0_5 h0_5k tN h0_5c) H := hP
  have hD : va_D A (wd_c_X12_readItems_2 h0 h0_f0 h0_1 h0_2 h0_3 h0_4 h0_5 h0_f6 h0_f7 h0_f8 h0_f9 h0_f10 (-1) h0_f12 h0_f13 h0_f14 h0_15 h0_16 h0_f17 h0_18 h0_19 h0_20 h0_21 h0_22 h0_23 h0_24 h0_25 h0_f26 h0_f27 h0_f28 h0_f29 h0_f30 h0_f31 h0_32 h0_33 h0_f34 h0_35 h0_36 h0_37 h0_38 h0_39 h0_40 h0_f41 h0_f42 h0_f43 h0_f44 h0_45 h0_46 h0_47 h0_48 h0_49 h0_50 h0_f51 h0_52 h0_f53 h2 h2k (upd h2c (0 : Int32).toNatClampNeg 2) h0_5 h0_5k tN h0_5c) := hD
  have l_390 : (upd h2c (0 : Int32).toNatClampNeg 2) (0 : Int32).toNatClampNeg = 2 := pk_us
  have i_391 : AP tRule (upd h2c (0 : Int32).toNatClampNeg 2) := AP_upc i_h2c (RG_k 2 2 rfl) (by decide +kernel)
  have a_392 : AI (upd h2c (0 : Int32).toNatClampNeg 2) 0 99 := AI_up a_h2c (RG_k 2 2 rfl) (by decide +kernel)
  generalize huw_389 : (upd h2c (0 : Int32).toNatClampNeg 2) = w_389 at hP hD a_392 l_390 i_391
  replace hEX := hEX.trans (exl_eq huw_389.symm)
  have hP : va_P (dC, dI) vwCl (wd_c_X12_readItems_2 h0 h0_f0 h0_1 h0_2 h0_3 h0_4 h0_5 h0_f6 h0_f7 h0_f8 h0_f9 h0_f10 (-1) h0_f12 h0_f13 h0_f14 h0_15 h0_16 h0_f17 h0_18 h0_19 h0_20 h0_21 h0_22 h0_23 h0_24 h0_25 h0_f26 h0_f27 h0_f28 h0_f29 h0_f30 h0_f31 h0_32 h0_33 h0_f34 h0_35 h0_36 h0_37 h0_38 h0_39 h0_40 h0_f41 h0_f42 h0_f43 h0_f44 h0_45 h0_46 h0_47 h0_48 h0_49 h0_50 h0_f51 h0_52 h0_f53 h2 h2k w_389 h0_5 h0_5k tN h0_5c) H := hP
  have hD : va_D A (wd_c_X12_readItems_2 h0 h0_f0 h0_1 h0_2 h0_3 h0_4 h0_5 h0_f6 h0_f7 h0_f8 h0_f9 h0_f10 (-1) h0_f12 h0_f13 h0_f14 h0_15 h0_16 h0_f17 h0_18 h0_19 h0_20 h0_21 h0_22 h0_23 h0_24 h0_25 h0_f26 h0_f27 h0_f28 h0_f29 h0_f30 h0_f31 h0_32 h0_33 h0_f34 h0_35 h0_36 h0_37 h0_38 h0_39 h0_40 h0_f41 h0_f42 h0_f43 h0_f44 h0_45 h0_46 h0_47 h0_48 h0_49 h0_50 h0_f51 h0_52 h0_f53 h2 h2k w_389 h0_5 h0_5k tN h0_5c) := hD
  refine lv_iinc (v := 1) (lv' := [(5, .int 1), (0, .ref h0), (1, .int p1), (2, .ref h2), (3, .int 0), (4, .ref ts8)]) hx hb dX12_readItems_25 hl (k := 0) rfl (by decide +kernel) (Nat.le_of_ble_eq_true rfl) rfl (fun ls hl => ?_)
  as_aux_lemma =>
  refine lv_goto (tgt := 3) hx hb dX12_readItems_28 rfl ?_
  refine lv_iload hx hb dX12_readItems_3 (lv_at hl 0 rfl) ?_
  refine lv_aload hx hb dX12_readItems_5 (lv_at hl 5 rfl) ?_
  obtain ⟨hPc, hDc, hFc, hqc⟩ := cl_cut (wc := []) hP hD hS hA [] (by decide +kernel) rfl
  have hKc := hK.sub (tys' := []) [] rfl
  have hrv := bv_Orecv hE_53 hS
  refine va_calli (va_runV (As := []) (rest := [.int 1]) ⟨hx, hb, hml, hown, hts⟩ (c_J0_length_8abf5_8 l dC dI H.size ts8 tv8) (cwV 0 hts gf_c_X12_readItems_2_c_J0_length_8abf5_8 rfl rfl rfl mdV_J0_length_8abf5 ⟨Nat.le_of_ble_eq_true rfl, Nat.le_of_ble_eq_true rfl⟩) ⟨fun a U g mk q => by obtain ⟨q0, q1, qP, qK, qD, qE0, qE1, qE2, qE3, qE4⟩ := q; exact ⟨q0, q1, qP, va_K.moved (u := U) (U := U.calling g mk a) (Vm.Alike.refl U.vm) qK, qD, va_OF.moved (u := U) (U := U.calling g mk a) (Vm.Alike.refl U.vm) qE0, va_T.moved (u := U) (U := U.calling g mk a) (Vm.Alike.refl U.vm) qE1, va_Z.moved (u := U) (U := U.calling g mk a) (Vm.Alike.refl U.vm) qE2, va_OF.moved (u := U) (U := U.calling g mk a) (Vm.Alike.refl U.vm) qE3, va_O.moved (u := U) (U := U.calling g mk a) (Vm.Alike.refl U.vm) qE4⟩, hrv, fun U hU hW => ⟨rfl, by rw [hU], by rw [hU]; exact hPc, va_K.moved hW.alike hKc, hDc.weaken (fun _ _ _ _ => trivial), va_OF.moved hW.alike (by rw [hU]; exact (hE_55.kept hS.2.1).narrow hFc), va_T.moved hW.alike (by rw [hU]; exact (hE_56.kept hS.2.1).narrow hFc), va_Z.moved hW.alike (by rw [hU]; exact (hE_10.kept hS.2.1).narrow hFc), va_OF.moved hW.alike (by rw [hU]; exact (hE_54.kept hS.2.1).narrow hFc), va_O.moved hW.alike (by rw [hU]; exact (hE_53.kept hS.2.1).narrow hFc)⟩⟩ rfl rfl hl.1 rfl (lv_room (Nat.le_of_ble_eq_true rfl)) dX12_readItems_7 ⟨Nat.le_of_ble_eq_true rfl, Nat.le_of_ble_eq_true rfl⟩) hS (fun q _ h => hFc q h) hFc (fun r_393 u t H1 locs ht hvm hw hB hz1 hk1 hS => ?_)
  obtain ⟨hP1, hK1, hD1⟩ := hB
  rw [ht] at hP1
  have hP := bv_still hP hk1
  generalize H1 = H at hP hS ⊢
  as_aux_lemma =>
  rcases hw with ⟨h_394, h_395⟩
  have h_395 : r_393 = _ := h_395
  replace hEX := hEX.trans (exc1_eq h_395)
  rw [h_394]
  refine lv_icmp_ge (tgt := 31) hx hb dX12_readItems_10 rfl (fun c_396 => absurd c_396 (by decide +kernel)) (fun c_396 => ?_)
  refine lv_aload_n hx hb dX12_readItems_13 rfl (lv_at hl 3 rfl) ?_
  refine lv_iload_n hx hb dX12_readItems_14 rfl (lv_at hl 4 rfl) ?_
  refine lv_iload hx hb dX12_readItems_15 (lv_at hl 0 rfl) ?_
  refine lv_iadd hx hb dX12_readItems_17 ?_
  refine lv_topi (fun x_397 ex_397 => ?_)
  obtain rfl : x_397 = 1 := ex_397.trans (by decide +kernel)
  refine lv_iload_n hx hb dX12_readItems_18 rfl (lv_at hl 2 rfl) ?_
  refine lv_iload hx hb dX12_readItems_19 (lv_at hl 0 rfl) ?_
  obtain ⟨hPc, hDc, hFc, hqc⟩ := cl_cut (wc := []) hP hD hS hA [] (by decide +kernel) rfl
  have hKc := hK.sub (tys' := []) [] rfl
  refine va_calli (va_runS (As := [.int p1, .int 1]) (rest := [.int 1, .ref h2]) ⟨hx, hb, hml, hown, hts⟩ (c_X12_usual_14 l dC dI H.size p1 1 g_p1 (RG_w (RG_k 1 1 rfl) (by decide +kernel))) (va_cwS 2 hts gf_c_X12_readItems_2_c_X12_usual_14 rfl rfl rfl md_X12_usual ⟨Nat.le_of_ble_eq_true rfl, Nat.le_of_ble_eq_true rfl⟩) ⟨fun a U g mk q => by obtain ⟨q0, q1, qP, qK, qD⟩ := q; exact ⟨q0, q1, qP, va_K.moved (u := U) (U := U.calling g mk a) (Vm.Alike.refl U.vm) qK, qD⟩, fun U hU hW => ⟨rfl, by rw [hU], by rw [hU]; exact hPc, va_K.moved hW.alike hKc, hDc.weaken (fun _ _ _ _ => trivial)⟩⟩ rfl rfl hl.1 rfl (lv_room (Nat.le_of_ble_eq_true rfl)) dX12_readItems_21 ⟨Nat.le_of_ble_eq_true rfl, Nat.le_of_ble_eq_true rfl⟩) hS (fun q _ h => hFc q h) hFc (fun r_398 u t H1 locs ht hvm hw hB hz1 hk1 hS => ?_)
  as_aux_lemma =>
  obtain ⟨hP1, hK1, hD1⟩ := hB
  rw [ht] at hP1
  have hP := bv_still hP hk1
  generalize H1 = H at hP hS ⊢
  as_aux_lemma =>
  rcases hw with ⟨h_399, h_400, h_401⟩ | ⟨h_402, h_403, h_404⟩
  · have h_401 : r_398 = _ := h_401
    replace hEX := hEX.trans (exc1_eq h_401)
    replace hEX := hEX.trans (if_pos (show r_398 = 0 from h_399))
    rw [h_399]
    refine va_iast hx hb hK hP hD hS 1 0 rfl rfl (RG_in (RG_k 1 1 rfl) (by decide +kernel)) dX12_readItems_24 (fun H locs hP hD hS => ?_)
    have hP : va_P (dC, dI) vwCl (wd_c_X12_readItems_2 h0 h0_f0 h0_1 h0_2 h0_3 h0_4 h0_5 h0_f6 h0_f7 h0_f8 h0_f9 h0_f10 (-1) h0_f12 h0_f13 h0_f14 h0_15 h0_16 h0_f17 h0_18 h0_19 h0_20 h0_21 h0_22 h0_23 h0_24 h0_25 h0_f26 h0_f27 h0_f28 h0_f29 h0_f30 h0_f31 h0_32 h0_33 h0_f34 h0_35 h0_36 h0_37 h0_38 h0_39 h0_40 h0_f41 h0_f42 h0_f43 h0_f44 h0_45 h0_46 h0_47 h0_48 h0_49 h0_50 h0_f51 h0_52 h0_f53 h2 h2k (upd w_389 (1 : Int32).toNatClampNeg 0) h0_5 h0_5k tN h0_5c) H := hP
    have hD : va_D A (wd_c_X12_readItems_2 h0 h0_f0 h0_1 h0_2 h0_3 h0_4 h0_5 h0_f6 h0_f7 h0_f8 h0_f9 h0_f10 (-1) h0_f12 h0_f13 h0_f14 h0_15 h0_16 h0_f17 h0_18 h0_19 h0_20 h0_21 h0_22 h0_23 h0_24 h0_25 h0_f26 h0_f27 h0_f28 h0_f29 h0_f30 h0_f31 h0_32 h0_33 h0_f34 h0_35 h0_36 h0_37 h0_38 h0_39 h0_40 h0_f41 h0_f42 h0_f43 h0_f44 h0_45 h0_46 h0_47 h0_48 h0_49 h0_50 h0_f51 h0_52 h0_f53 h2 h2k (upd w_389 (1 : Int32).toNatClampNeg 0) h0_5 h0_5k tN h0_5c) := hD
    have l_406 : (upd w_389 (1 : Int32).toNatClampNeg 0) (1 : Int32).toNatClampNeg = 0 := pk_us
    have i_407 : AP tRule (upd w_389 (1 : Int32).toNatClampNeg 0) := AP_upc i_391 (RG_k 0 0 rfl) (by decide +kernel)
    have a_408 : AI (upd w_389 (1 : Int32).toNatClampNeg 0) 0 99 := AI_up a_392 (RG_k 0 0 rfl) (by decide +kernel)
    generalize huw_405 : (upd w_389 (1 : Int32).toNatClampNeg 0) = w_405 at hP hD a_408 l_406 i_407
    replace hEX := hEX.trans (exl_eq huw_405.symm)
    have hP : va_P (dC, dI) vwCl (wd_c_X12_readItems_2 h0 h0_f0 h0_1 h0_2 h0_3 h0_4 h0_5 h0_f6 h0_f7 h0_f8 h0_f9 h0_f10 (-1) h0_f12 h0_f13 h0_f14 h0_15 h0_16 h0_f17 h0_18 h0_19 h0_20 h0_21 h0_22 h0_23 h0_24 h0_25 h0_f26 h0_f27 h0_f28 h0_f29 h0_f30 h0_f31 h0_32 h0_33 h0_f34 h0_35 h0_36 h0_37 h0_38 h0_39 h0_40 h0_f41 h0_f42 h0_f43 h0_f44 h0_45 h0_46 h0_47 h0_48 h0_49 h0_50 h0_f51 h0_52 h0_f53 h2 h2k w_405 h0_5 h0_5k tN h0_5c) H := hP
    have hD : va_D A (wd_c_X12_readItems_2 h0 h0_f0 h0_1 h0_2 h0_3 h0_4 h0_5 h0_f6 h0_f7 h0_f8 h0_f9 h0_f10 (-1) h0_f12 h0_f13 h0_f14 h0_15 h0_16 h0_f17 h0_18 h0_19 h0_20 h0_21 h0_22 h0_23 h0_24 h0_25 h0_f26 h0_f27 h0_f28 h0_f29 h0_f30 h0_f31 h0_32 h0_33 h0_f34 h0_35 h0_36 h0_37 h0_38 h0_39 h0_40 h0_f41 h0_f42 h0_f43 h0_f44 h0_45 h0_46 h0_47 h0_48 h0_49 h0_50 h0_f51 h0_52 h0_f53 h2 h2k w_405 h0_5 h0_5k tN h0_5c) := hD
    refine lv_iinc (v := 2) (lv' := [(5, .int 2), (0, .ref h0), (1, .int p1), (2, .ref h2), (3, .int 0), (4, .ref ts8)]) hx hb dX12_readItems_25 hl (k := 0) rfl (by decide +kernel) (Nat.le_of_ble_eq_true rfl) rfl (fun ls hl => ?_)
    as_aux_lemma =>
    refine lv_goto (tgt := 3) hx hb dX12_readItems_28 rfl ?_
    refine lv_iload hx hb dX12_readItems_3 (lv_at hl 0 rfl) ?_
    refine lv_aload hx hb dX12_readItems_5 (lv_at hl 5 rfl) ?_
    obtain ⟨hPc, hDc, hFc, hqc⟩ := cl_cut (wc := []) hP hD hS hA [] (by decide +kernel) rfl
    have hKc := hK.sub (tys' := []) [] rfl
    have hrv := bv_Orecv hE_53 hS
    refine va_calli (va_runV (As := []) (rest := [.int 2]) ⟨hx, hb, hml, hown, hts⟩ (c_J0_length_8abf5_8 l dC dI H.size ts8 tv8) (cwV 0 hts gf_c_X12_readItems_2_c_J0_length_8abf5_8 rfl rfl rfl mdV_J0_length_8abf5 ⟨Nat.le_of_ble_eq_true rfl, Nat.le_of_ble_eq_true rfl⟩) ⟨fun a U g mk q => by obtain ⟨q0, q1, qP, qK, qD, qE0, qE1, qE2, qE3, qE4⟩ := q; exact ⟨q0, q1, qP, va_K.moved (u := U) (U := U.calling g mk a) (Vm.Alike.refl U.vm) qK, qD, va_OF.moved (u := U) (U := U.calling g mk a) (Vm.Alike.refl U.vm) qE0, va_T.moved (u := U) (U := U.calling g mk a) (Vm.Alike.refl U.vm) qE1, va_Z.moved (u := U) (U := U.calling g mk a) (Vm.Alike.refl U.vm) qE2, va_OF.moved (u := U) (U := U.calling g mk a) (Vm.Alike.refl U.vm) qE3, va_O.moved (u := U) (U := U.calling g mk a) (Vm.Alike.refl U.vm) qE4⟩, hrv, fun U hU hW => ⟨rfl, by rw [hU], by rw [hU]; exact hPc, va_K.moved hW.alike hKc, hDc.weaken (fun _ _ _ _ => trivial), va_OF.moved hW.alike (by rw [hU]; exact (hE_55.kept hS.2.1).narrow hFc), va_T.moved hW.alike (by rw [hU]; exact (hE_56.kept hS.2.1).narrow hFc), va_Z.moved hW.alike (by rw [hU]; exact (hE_10.kept hS.2.1).narrow hFc), va_OF.moved hW.alike (by rw [hU]; exact (hE_54.kept hS.2.1).narrow hFc), va_O.moved hW.alike (by rw [hU]; exact (hE_53.kept hS.2.1).narrow hFc)⟩⟩ rfl rfl hl.1 rfl (lv_room (Nat.le_of_ble_eq_true rfl)) dX12_readItems_7 ⟨Nat.le_of_ble_eq_true rfl, Nat.le_of_ble_eq_true rfl⟩) hS (fun q _ h => hFc q h) hFc (fun r_409 u t H1 locs ht hvm hw hB hz1 hk1 hS => ?_)
    obtain ⟨hP1, hK1, hD1⟩ := hB
    rw [ht] at hP1
    have hP := bv_still hP hk1
    generalize H1 = H at hP hS ⊢
    as_aux_lemma =>
    rcases hw with ⟨h_410, h_411⟩
    have h_411 : r_409 = _ := h_411
    replace hEX := hEX.trans (exc1_eq h_411)
    rw [h_410]
    refine lv_icmp_ge (tgt := 31) hx hb dX12_readItems_10 rfl (fun c_412 => absurd c_412 (by decide +kernel)) (fun c_412 => ?_)
    refine lv_aload_n hx hb dX12_readItems_13 rfl (lv_at hl 3 rfl) ?_
    refine lv_iload_n hx hb dX12_readItems_14 rfl (lv_at hl 4 rfl) ?_
    refine lv_iload hx hb dX12_readItems_15 (lv_at hl 0 rfl) ?_
    refine lv_iadd hx hb dX12_readItems_17 ?_
    refine lv_topi (fun x_413 ex_413 => ?_)
    obtain rfl : x_413 = 2 := ex_413.trans (by decide +kernel)
    refine lv_iload_n hx hb dX12_readItems_18 rfl (lv_at hl 2 rfl) ?_
    refine lv_iload hx hb dX12_readItems_19 (lv_at hl 0 rfl) ?_
    obtain ⟨hPc, hDc, hFc, hqc⟩ := cl_cut (wc := []) hP hD hS hA [] (by decide +kernel) rfl
    have hKc := hK.sub (tys' := []) [] rfl
    refine va_calli (va_runS (As := [.int p1, .int 2]) (rest := [.int 2, .ref h2]) ⟨hx, hb, hml, hown, hts⟩ (c_X12_usual_15 l dC dI H.size p1 2 g_p1 (RG_w (RG_k 2 2 rfl) (by decide +kernel))) (va_cwS 2 hts gf_c_X12_readItems_2_c_X12_usual_15 rfl rfl rfl md_X12_usual ⟨Nat.le_of_ble_eq_true rfl, Nat.le_of_ble_eq_true rfl⟩) ⟨fun a U g mk q => by obtain ⟨q0, q1, qP, qK, qD⟩ := q; exact ⟨q0, q1, qP, va_K.moved (u := U) (U := U.calling g mk a) (Vm.Alike.refl U.vm) qK, qD⟩, fun U hU hW => ⟨rfl, by rw [hU], by rw [hU]; exact hPc, va_K.moved hW.alike hKc, hDc.weaken (fun _ _ _ _ => trivial)⟩⟩ rfl rfl hl.1 rfl (lv_room (Nat.le_of_ble_eq_true rfl)) dX12_readItems_21 ⟨Nat.le_of_ble_eq_true rfl, Nat.le_of_ble_eq_true rfl⟩) hS (fun q _ h => hFc q h) hFc (fun r_414 u t H1 locs ht hvm hw hB hz1 hk1 hS => ?_)
    as_aux_lemma =>
    obtain ⟨hP1, hK1, hD1⟩ := hB
    rw [ht] at hP1
    have hP := bv_still hP hk1
    generalize H1 = H at hP hS ⊢
    as_aux_lemma =>
    rcases hw with ⟨h_415, h_416, h_417⟩ | ⟨h_418, h_419, h_420⟩ | ⟨h_421, h_422, h_423⟩
    · have h_417 : r_414 = _ := h_417
      replace hEX := hEX.trans (exc1_eq h_417)
      replace hEX := hEX.trans (if_pos (show r_414 = 6 from h_415))
      rw [h_415]
      refine va_iast hx hb hK hP hD hS 1 0 rfl rfl (RG_in (RG_k 2 2 rfl) (by decide +kernel)) dX12_readItems_24 (fun H locs hP hD hS => ?_)
      have hP : va_P (dC, dI) vwCl (wd_c_X12_readItems_2 h0 h0_f0 h0_1 h0_2 h0_3 h0_4 h0_5 h0_f6 h0_f7 h0_f8 h0_f9 h0_f10 (-1) h0_f12 h0_f13 h0_f14 h0_15 h0_16 h0_f17 h0_18 h0_19 h0_20 h0_21 h0_22 h0_23 h0_24 h0_25 h0_f26 h0_f27 h0_f28 h0_f29 h0_f30 h0_f31 h0_32 h0_33 h0_f34 h0_35 h0_36 h0_37 h0_38 h0_39 h0_40 h0_f41 h0_f42 h0_f43 h0_f44 h0_45 h0_46 h0_47 h0_48 h0_49 h0_50 h0_f51 h0_52 h0_f53 h2 h2k (upd w_405 (2 : Int32).toNatClampNeg 6) h0_5 h0_5k tN h0_5c) H := hP
      have hD : va_D A (wd_c_X12_readItems_2 h0 h0_f0 h0_1 h0_2 h0_3 h0_4 h0_5 h0_f6 h0_f7 h0_f8 h0_f9 h0_f10 (-1) h0_f12 h0_f13 h0_f14 h0_15 h0_16 h0_f17 h0_18 h0_19 h0_20 h0_21 h0_22 h0_23 h0_24 h0_25 h0_f26 h0_f27 h0_f28 h0_f29 h0_f30 h0_f31 h0_32 h0_33 h0_f34 h0_35 h0_36 h0_37 h0_38 h0_39 h0_40 h0_f41 h0_f42 h0_f43 h0_f44 h0_45 h0_46 h0_47 h0_48 h0_49 h0_50 h0_f51 h0_52 h0_f53 h2 h2k (upd w_405 (2 : Int32).toNatClampNeg 6) h0_5 h0_5k tN h0_5c) := hD
      have l_425 : (upd w_405 (2 : Int32).toNatClampNeg 6) (2 : Int32).toNatClampNeg = 6 := pk_us
      have i_426 : AP tRule (upd w_405 (2 : Int32).toNatClampNeg 6) := AP_upc i_407 (RG_k 6 6 rfl) (by decide +kernel)
      have a_427 : AI (upd w_405 (2 : Int32).toNatClampNeg 6) 0 99 := AI_up a_408 (RG_k 6 6 rfl) (by decide +kernel)
      generalize huw_424 : (upd w_405 (2 : Int32).toNatClampNeg 6) = w_424 at hP hD a_427 l_425 i_426
      replace hEX := hEX.trans (exl_eq huw_424.symm)
      have hP : va_P (dC, dI) vwCl (wd_c_X12_readItems_2 h0 h0_f0 h0_1 h0_2 h0_3 h0_4 h0_5 h0_f6 h0_f7 h0_f8 h0_f9 h0_f10 (-1) h0_f12 h0_f13 h0_f14 h0_15 h0_16 h0_f17 h0_18 h0_19 h0_20 h0_21 h0_22 h0_23 h0_24 h0_25 h0_f26 h0_f27 h0_f28 h0_f29 h0_f30 h0_f31 h0_32 h0_33 h0_f34 h0_35 h0_36 h0_37 h0_38 h0_39 h0_40 h0_f41 h0_f42 h0_f43 h0_f44 h0_45 h0_46 h0_47 h0_48 h0_49 h0_50 h0_f51 h0_52 h0_f53 h2 h2k w_424 h0_5 h0_5k tN h0_5c) H := hP
      have hD : va_D A (wd_c_X12_readItems_2 h0 h0_f0 h0_1 h0_2 h0_3 h0_4 h0_5 h0_f6 h0_f7 h0_f8 h0_f9 h0_f10 (-1) h0_f12 h0_f13 h0_f14 h0_15 h0_16 h0_f17 h0_18 h0_19 h0_20 h0_21 h0_22 h0_23 h0_24 h0_25 h0_f26 h0_f27 h0_f28 h0_f29 h0_f30 h0_f31 h0_32 h0_33 h0_f34 h0_35 h0_36 h0_37 h0_38 h0_39 h0_40 h0_f41 h0_f42 h0_f43 h0_f44 h0_45 h0_46 h0_47 h0_48 h0_49 h0_50 h0_f51 h0_52 h0_f53 h2 h2k w_424 h0_5 h0_5k tN h0_5c) := hD
      refine lv_iinc (v := 3) (lv' := [(5, .int 3), (0, .ref h0), (1, .int p1), (2, .ref h2), (3, .int 0), (4, .ref ts8)]) hx hb dX12_readItems_25 hl (k := 0) rfl (by decide +kernel) (Nat.le_of_ble_eq_true rfl) rfl (fun ls hl => ?_)
      as_aux_lemma =>
      refine lv_goto (tgt := 3) hx hb dX12_readItems_28 rfl ?_
      refine lv_iload hx hb dX12_readItems_3 (lv_at hl 0 rfl) ?_
      refine lv_aload hx hb dX12_readItems_5 (lv_at hl 5 rfl) ?_
      obtain ⟨hPc, hDc, hFc, hqc⟩ := cl_cut (wc := []) hP hD hS hA [] (by decide +kernel) rfl
      have hKc := hK.sub (tys' := []) [] rfl
      have hrv := bv_Orecv hE_53 hS
      refine va_calli (va_runV (As := []) (rest := [.int 3]) ⟨hx, hb, hml, hown, hts⟩ (c_J0_length_8abf5_8 l dC dI H.size ts8 tv8) (cwV 0 hts gf_c_X12_readItems_2_c_J0_length_8abf5_8 rfl rfl rfl mdV_J0_length_8abf5 ⟨Nat.le_of_ble_eq_true rfl, Nat.le_of_ble_eq_true rfl⟩) ⟨fun a U g mk q => by obtain ⟨q0, q1, qP, qK, qD, qE0, qE1, qE2, qE3, qE4⟩ := q; exact ⟨q0, q1, qP, va_K.moved (u := U) (U := U.calling g mk a) (Vm.Alike.refl U.vm) qK, qD, va_OF.moved (u := U) (U := U.calling g mk a) (Vm.Alike.refl U.vm) qE0, va_T.moved (u := U) (U := U.calling g mk a) (Vm.Alike.refl U.vm) qE1, va_Z.moved (u := U) (U := U.calling g mk a) (Vm.Alike.refl U.vm) qE2, va_OF.moved (u := U) (U := U.calling g mk a) (Vm.Alike.refl U.vm) qE3, va_O.moved (u := U) (U := U.calling g mk a) (Vm.Alike.refl U.vm) qE4⟩, hrv, fun U hU hW => ⟨rfl, by rw [hU], by rw [hU]; exact hPc, va_K.moved hW.alike hKc, hDc.weaken (fun _ _ _ _ => trivial), va_OF.moved hW.alike (by rw [hU]; exact (hE_55.kept hS.2.1).narrow hFc), va_T.moved hW.alike (by rw [hU]; exact (hE_56.kept hS.2.1).narrow hFc), va_Z.moved hW.alike (by rw [hU]; exact (hE_10.kept hS.2.1).narrow hFc), va_OF.moved hW.alike (by rw [hU]; exact (hE_54.kept hS.2.1).narrow hFc), va_O.moved hW.alike (by rw [hU]; exact (hE_53.kept hS.2.1).narrow hFc)⟩⟩ rfl rfl hl.1 rfl (lv_room (Nat.le_of_ble_eq_true rfl)) dX12_readItems_7 ⟨Nat.le_of_ble_eq_true rfl, Nat.le_of_ble_eq_true rfl⟩) hS (fun q _ h => hFc q h) hFc (fun r_428 u t H1 locs ht hvm hw hB hz1 hk1 hS => ?_)
      obtain ⟨hP1, hK1, hD1⟩ := hB
      rw [ht] at hP1
      have hP := bv_still hP hk1
      generalize H1 = H at hP hS ⊢
      as_aux_lemma =>
      rcases hw with ⟨h_429, h_430⟩
      have h_430 : r_428 = _ := h_430
      replace hEX := hEX.trans (exc1_eq h_430)
      rw [h_429]
      refine lv_icmp_ge (tgt := 31) hx hb dX12_readItems_10 rfl (fun c_431 => absurd c_431 (by decide +kernel)) (fun c_431 => ?_)
      refine lv_aload_n hx hb dX12_readItems_13 rfl (lv_at hl 3 rfl) ?_
      refine lv_iload_n hx hb dX12_readItems_14 rfl (lv_at hl 4 rfl) ?_
      refine lv_iload hx hb dX12_readItems_15 (lv_at hl 0 rfl) ?_
      refine lv_iadd hx hb dX12_readItems_17 ?_
      refine lv_topi (fun x_432 ex_432 => ?_)
      obtain rfl : x_432 = 3 := ex_432.trans (by decide +kernel)
      refine lv_iload_n hx hb dX12_readItems_18 rfl (lv_at hl 2 rfl) ?_
      refine lv_iload hx hb dX12_readItems_19 (lv_at hl 0 rfl) ?_
      obtain ⟨hPc, hDc, hFc, hqc⟩ := cl_cut (wc := []) hP hD hS hA [] (by decide +kernel) rfl
      have hKc := hK.sub (tys' := []) [] rfl
      refine va_calli (va_runS (As := [.int p1, .int 3]) (rest := [.int 3, .ref h2]) ⟨hx, hb, hml, hown, hts⟩ (c_X12_usual_16 l dC dI H.size p1 3 g_p1 (RG_w (RG_k 3 3 rfl) (by decide +kernel))) (va_cwS 2 hts gf_c_X12_readItems_2_c_X12_usual_16 rfl rfl rfl md_X12_usual ⟨Nat.le_of_ble_eq_true rfl, Nat.le_of_ble_eq_true rfl⟩) ⟨fun a U g mk q => by obtain ⟨q0, q1, qP, qK, qD⟩ := q; exact ⟨q0, q1, qP, va_K.moved (u := U) (U := U.calling g mk a) (Vm.Alike.refl U.vm) qK, qD⟩, fun U hU hW => ⟨rfl, by rw [hU], by rw [hU]; exact hPc, va_K.moved hW.alike hKc, hDc.weaken (fun _ _ _ _ => trivial)⟩⟩ rfl rfl hl.1 rfl (lv_room (Nat.le_of_ble_eq_true rfl)) dX12_readItems_21 ⟨Nat.le_of_ble_eq_true rfl, Nat.le_of_ble_eq_true rfl⟩) hS (fun q _ h => hFc q h) hFc (fun r_433 u t H1 locs ht hvm hw hB hz1 hk1 hS => ?_)
      as_aux_lemma =>
      obtain ⟨hP1, hK1, hD1⟩ := hB
      rw [ht] at hP1
      have hP := bv_still hP hk1
      generalize H1 = H at hP hS ⊢
      as_aux_lemma =>
      rcases hw with ⟨h_434, h_435, h_436⟩ | ⟨h_437, h_438, h_439⟩ | ⟨h_440, h_441, h_442⟩ | ⟨h_443, h_444, h_445⟩
      · have h_436 : r_433 = _ := h_436
        replace hEX := hEX.trans (exc1_eq h_436)
        replace hEX := hEX.trans (if_pos (show r_433 = 8 from h_434))
        rw [h_434]
        refine va_iast hx hb hK hP hD hS 1 0 rfl rfl (RG_in (RG_k 3 3 rfl) (by decide +kernel)) dX12_readItems_24 (fun H locs hP hD hS => ?_)
        have hP : va_P (dC, dI) vwCl (wd_c_X12_readItems_2 h0 h0_f0 h0_1 h0_2 h0_3 h0_4 h0_5 h0_f6 h0_f7 h0_f8 h0_f9 h0_f10 (-1) h0_f12 h0_f13 h0_f14 h0_15 h0_16 h0_f17 h0_18 h0_19 h0_20 h0_21 h0_22 h0_23 h0_24 h0_25 h0_f26 h0_f27 h0_f28 h0_f29 h0_f30 h0_f31 h0_32 h0_33 h0_f34 h0_35 h0_36 h0_37 h0_38 h0_39 h0_40 h0_f41 h0_f42 h0_f43 h0_f44 h0_45 h0_46 h0_47 h0_48 h0_49 h0_50 h0_f51 h0_52 h0_f53 h2 h2k (upd w_424 (3 : Int32).toNatClampNeg 8) h0_5 h0_5k tN h0_5c) H := hP
        have hD : va_D A (wd_c_X12_readItems_2 h0 h0_f0 h0_1 h0_2 h0_3 h0_4 h0_5 h0_f6 h0_f7 h0_f8 h0_f9 h0_f10 (-1) h0_f12 h0_f13 h0_f14 h0_15 h0_16 h0_f17 h0_18 h0_19 h0_20 h0_21 h0_22 h0_23 h0_24 h0_25 h0_f26 h0_f27 h0_f28 h0_f29 h0_f30 h0_f31 h0_32 h0_33 h0_f34 h0_35 h0_36 h0_37 h0_38 h0_39 h0_40 h0_f41 h0_f42 h0_f43 h0_f44 h0_45 h0_46 h0_47 h0_48 h0_49 h0_50 h0_f51 h0_52 h0_f53 h2 h2k (upd w_424 (3 : Int32).toNatClampNeg 8) h0_5 h0_5k tN h0_5c) := hD
        have l_447 : (upd w_424 (3 : Int32).toNatClampNeg 8) (3 : Int32).toNatClampNeg = 8 := pk_us
        have i_448 : AP tRule (upd w_424 (3 : Int32).toNatClampNeg 8) := AP_upc i_426 (RG_k 8 8 rfl) (by decide +kernel)
        have a_449 : AI (upd w_424 (3 : Int32).toNatClampNeg 8) 0 99 := AI_up a_427 (RG_k 8 8 rfl) (by decide +kernel)
        generalize huw_446 : (upd w_424 (3 : Int32).toNatClampNeg 8) = w_446 at hP hD a_449 l_447 i_448
        replace hEX := hEX.trans (exl_eq huw_446.symm)
        have hP : va_P (dC, dI) vwCl (wd_c_X12_readItems_2 h0 h0_f0 h0_1 h0_2 h0_3 h0_4 h0_5 h0_f6 h0_f7 h0_f8 h0_f9 h0_f10 (-1) h0_f12 h0_f13 h0_f14 h0_15 h0_16 h0_f17 h0_18 h0_19 h0_20 h0_21 h0_22 h0_23 h0_24 h0_25 h0_f26 h0_f27 h0_f28 h0_f29 h0_f30 h0_f31 h0_32 h0_33 h0_f34 h0_35 h0_36 h0_37 h0_38 h0_39 h0_40 h0_f41 h0_f42 h0_f43 h0_f44 h0_45 h0_46 h0_47 h0_48 h0_49 h0_50 h0_f51 h0_52 h0_f53 h2 h2k w_446 h0_5 h0_5k tN h0_5c) H := hP
        have hD : va_D A (wd_c_X12_readItems_2 h0 h0_f0 h0_1 h0_2 h0_3 h0_4 h0_5 h0_f6 h0_f7 h0_f8 h0_f9 h0_f10 (-1) h0_f12 h0_f13 h0_f14 h0_15 h0_16 h0_f17 h0_18 h0_19 h0_20 h0_21 h0_22 h0_23 h0_24 h0_25 h0_f26 h0_f27 h0_f28 h0_f29 h0_f30 h0_f31 h0_32 h0_33 h0_f34 h0_35 h0_36 h0_37 h0_38 h0_39 h0_40 h0_f41 h0_f42 h0_f43 h0_f44 h0_45 h0_46 h0_47 h0_48 h0_49 h0_50 h0_f51 h0_52 h0_f53 h2 h2k w_446 h0_5 h0_5k tN h0_5c) := hD
        refine lv_iinc (v := 4) (lv' := [(5, .int 4), (0, .ref h0), (1, .int p1), (2, .ref h2), (3, .int 0), (4, .ref ts8)]) hx hb dX12_readItems_25 hl (k := 0) rfl (by decide +kernel) (Nat.le_of_ble_eq_true rfl) rfl (fun ls hl => ?_)
        as_aux_lemma =>
        refine lv_goto (tgt := 3) hx hb dX12_readItems_28 rfl ?_
        refine lv_iload hx hb dX12_readItems_3 (lv_at hl 0 rfl) ?_
        refine lv_aload hx hb dX12_readItems_5 (lv_at hl 5 rfl) ?_
        obtain ⟨hPc, hDc, hFc, hqc⟩ := cl_cut (wc := []) hP hD hS hA [] (by decide +kernel) rfl
        have hKc := hK.sub (tys' := []) [] rfl
        have hrv := bv_Orecv hE_53 hS
        refine va_calli (va_runV (As := []) (rest := [.int 4]) ⟨hx, hb, hml, hown, hts⟩ (c_J0_length_8abf5_8 l dC dI H.size ts8 tv8) (cwV 0 hts gf_c_X12_readItems_2_c_J0_length_8abf5_8 rfl rfl rfl mdV_J0_length_8abf5 ⟨Nat.le_of_ble_eq_true rfl, Nat.le_of_ble_eq_true rfl⟩) ⟨fun a U g mk q => by obtain ⟨q0, q1, qP, qK, qD, qE0, qE1, qE2, qE3, qE4⟩ := q; exact ⟨q0, q1, qP, va_K.moved (u := U) (U := U.calling g mk a) (Vm.Alike.refl U.vm) qK, qD, va_OF.moved (u := U) (U := U.calling g mk a) (Vm.Alike.refl U.vm) qE0, va_T.moved (u := U) (U := U.calling g mk a) (Vm.Alike.refl U.vm) qE1, va_Z.moved (u := U) (U := U.calling g mk a) (Vm.Alike.refl U.vm) qE2, va_OF.moved (u := U) (U := U.calling g mk a) (Vm.Alike.refl U.vm) qE3, va_O.moved (u := U) (U := U.calling g mk a) (Vm.Alike.refl U.vm) qE4⟩, hrv, fun U hU hW => ⟨rfl, by rw [hU], by rw [hU]; exact hPc, va_K.moved hW.alike hKc, hDc.weaken (fun _ _ _ _ => trivial), va_OF.moved hW.alike (by rw [hU]; exact (hE_55.kept hS.2.1).narrow hFc), va_T.moved hW.alike (by rw [hU]; exact (hE_56.kept hS.2.1).narrow hFc), va_Z.moved hW.alike (by rw [hU]; exact (hE_10.kept hS.2.1).narrow hFc), va_OF.moved hW.alike (by rw [hU]; exact (hE_54.kept hS.2.1).narrow hFc), va_O.moved hW.alike (by rw [hU]; exact (hE_53.kept hS.2.1).narrow hFc)⟩⟩ rfl rfl hl.1 rfl (lv_room (Nat.le_of_ble_eq_true rfl)) dX12_readItems_7 ⟨Nat.le_of_ble_eq_true rfl, Nat.le_of_ble_eq_true rfl⟩) hS (fun q _ h => hFc q h) hFc (fun r_450 u t H1 locs ht hvm hw hB hz1 hk1 hS => ?_)
        obtain ⟨hP1, hK1, hD1⟩ := hB
        rw [ht] at hP1
        have hP := bv_still hP hk1
        generalize H1 = H at hP hS ⊢
        as_aux_lemma =>
        rcases hw with ⟨h_451, h_452⟩
        have h_452 : r_450 = _ := h_452
        replace hEX := hEX.trans (exc1_eq h_452)
        rw [h_451]
        refine lv_icmp_ge (tgt := 31) hx hb dX12_readItems_10 rfl (fun c_453 => ?_) (fun c_453 => absurd c_453 (by decide +kernel))
        refine lv_iconst (v := 0) hx hb dX12_readItems_31 kc_iconst_0 ?_
        refine lv_istore (lv' := [(5, .int 0), (0, .ref h0), (1, .int p1), (2, .ref h2), (3, .int 0), (4, .ref ts8)]) hx hb dX12_readItems_32 hl (Nat.le_of_ble_eq_true rfl) rfl (fun ls hl => ?_)
        refine lv_aload hx hb dX12_readItems_34 (lv_at hl 5 rfl) ?_
        refine lv_aload_n hx hb dX12_readItems_36 rfl (lv_at hl 1 rfl) ?_
        obtain ⟨hPc, hDc, hFc, hqc⟩ := cl_cut (wc := (wd_c_X12_look h0 h0_f0 h0_1 h0_2 h0_3 h0_4 h0_5 h0_f6 h0_f7 h0_f8 h0_f9 h0_f10 (-1) h0_f12 h0_f13 h0_f14 h0_15 h0_16 h0_f17 h0_18 h0_19 h0_20 h0_21 h0_22 h0_23 h0_24 h0_25 h0_f26 h0_f27 h0_f28 h0_f29 h0_f30 h0_f31 h0_32 h0_33 h0_f34 h0_35 h0_36 h0_37 h0_38 h0_39 h0_40 h0_f41 h0_f42 h0_f43 h0_f44 h0_45 h0_46 h0_47 h0_48 h0_49 h0_50 h0_f51 h0_52 h0_f53 h0_5 h0_5k tN h0_5c)) hP hD hS hA [0, 2] (by decide +kernel) rfl
        have hKc := hK.sub (tys' := [(h0_5k, .byte)]) [1] rfl
        have hrv := va_recv hKc hPc (ci := 12) (q0 := 0) rfl rfl
        refine va_calli (va_runV (As := []) (rest := [.ref ts8]) ⟨hx, hb, hml, hown, hts⟩ (c_X12_look l dC dI H.size h0 h0_f0 h0_1 h0_2 h0_3 h0_4 h0_5 h0_f6 h0_f7 h0_f8 h0_f9 h0_f10 h0_f12 h0_f13 h0_f14 h0_15 h0_16 h0_f17 h0_18 h0_19 h0_20 h0_21 h0_22 h0_23 h0_24 h0_25 h0_f26 h0_f27 h0_f28 h0_f29 h0_f30 h0_f31 h0_32 h0_33 h0_f34 h0_35 h0_36 h0_37 h0_38 h0_39 h0_40 h0_f41 h0_f42 h0_f43 h0_f44 h0_45 h0_46 h0_47 h0_48 h0_49 h0_50 h0_f51 h0_52 h0_f53 h0_5k h0_5c tN g_h0_f6 g_h0_f7 g_h0_f8 g_h0_f9 g_h0_f10 g_h0_f17 g_h0_f26 g_h0_f27 g_h0_f28 g_h0_f29 g_h0_f30 g_h0_f31 g_h0_f34 g_h0_f41 g_h0_f51 g_h0_f53 htN) (cwV 0 hts gf_c_X12_readItems_2_c_X12_look rfl rfl rfl mdV_X12_look ⟨Nat.le_of_ble_eq_true rfl, Nat.le_of_ble_eq_true rfl⟩) ⟨fun a U g mk q => by obtain ⟨q0, q1, qP, qK, qD⟩ := q; exact ⟨q0, q1, qP, va_K.moved (u := U) (U := U.calling g mk a) (Vm.Alike.refl U.vm) qK, qD⟩, hrv, fun U hU hW => ⟨rfl, by rw [hU], by rw [hU]; exact hPc, va_K.moved hW.alike hKc, hDc.weaken (fun _ _ _ _ => trivial)⟩⟩ rfl rfl hl.1 rfl (lv_room (Nat.le_of_ble_eq_true rfl)) dX12_readItems_37 ⟨Nat.le_of_ble_eq_true rfl, Nat.le_of_ble_eq_true rfl⟩) hS (fun q _ h => hFc q h) hFc (fun r_454 x_455 t H1 locs ht hvm hw hB hz1 hk1 hS => ?_)
        obtain ⟨hP1, hK1, hD1⟩ := hB
        rw [ht] at hP1
        obtain ⟨hP, hD⟩ := cl_put (w1 := (wd_c_X12_look h0 h0_f0 h0_1 h0_2 h0_3 h0_4 h0_5 h0_f6 h0_f7 h0_f8 h0_f9 x_455 (-1) h0_f12 h0_f13 h0_f14 h0_15 h0_16 h0_f17 h0_18 h0_19 h0_20 h0_21 h0_22 h0_23 h0_24 h0_25 h0_f26 h0_f27 h0_f28 h0_f29 h0_f30 h0_f31 h0_32 h0_33 h0_f34 h0_35 h0_36 h0_37 h0_38 h0_39 h0_40 h0_f41 h0_f42 h0_f43 h0_f44 h0_45 h0_46 h0_47 h0_48 h0_49 h0_50 h0_f51 h0_52 h0_f53 h0_5 h0_5k tN h0_5c)) (nw := (wd_c_X12_readItems_2 h0 h0_f0 h0_1 h0_2 h0_3 h0_4 h0_5 h0_f6 h0_f7 h0_f8 h0_f9 x_455 (-1) h0_f12 h0_f13 h0_f14 h0_15 h0_16 h0_f17 h0_18 h0_19 h0_20 h0_21 h0_22 h0_23 h0_24 h0_25 h0_f26 h0_f27 h0_f28 h0_f29 h0_f30 h0_f31 h0_32 h0_33 h0_f34 h0_35 h0_36 h0_37 h0_38 h0_39 h0_40 h0_f41 h0_f42 h0_f43 h0_f44 h0_45 h0_46 h0_47 h0_48 h0_49 h0_50 h0_f51 h0_52 h0_f53 h2 h2k w_446 h0_5 h0_5k tN h0_5c)) hP hD [0, 2] [3, 1, 4] 3 rfl hqc (by decide +kernel) rfl hk1 hFc hP1 hD1
        generalize H1 = H at hP hS ⊢
        as_aux_lemma =>
        rcases hw with ⟨h_456, h_457, h_458, h_459, h_460, h_461⟩ | ⟨h_462, h_463, h_464, h_465, h_466, h_467, h_468⟩
        · have h_461 : (r_454, x_455) = _ := h_461
          replace hEX := hEX.trans (exc2_eq h_461)
          replace hEX := hEX.trans (if_pos (show r_454 = (-1) from h_456))
          rw [h_456]
          obtain ⟨hPc, hDc, hFc, hqc⟩ := cl_cut (wc := []) hP hD hS hA [] (by decide +kernel) rfl
          have hKc := hK.sub (tys' := []) [] rfl
          refine va_calli (va_runS (As := [.ref ts8, .int (-1)]) (rest := []) ⟨hx, hb, hml, hown, hts⟩ (c_X12_spotOf_4 l dC dI H.size ts8 tv8) (va_cwS 2 hts gf_c_X12_readItems_2_c_X12_spotOf_4 rfl rfl rfl md_X12_spotOf ⟨Nat.le_of_ble_eq_true rfl, Nat.le_of_ble_eq_true rfl⟩) ⟨fun a U g mk q => by obtain ⟨q0, q1, qP, qK, qD, qE0, qE1, qE2, qE3, qE4, qE5⟩ := q; exact ⟨q0, q1, qP, va_K.moved (u := U) (U := U.calling g mk a) (Vm.Alike.refl U.vm) qK, qD, va_OF.moved (u := U) (U := U.calling g mk a) (Vm.Alike.refl U.vm) qE0, va_T.moved (u := U) (U := U.calling g mk a) (Vm.Alike.refl U.vm) qE1, va_Z.moved (u := U) (U := U.calling g mk a) (Vm.Alike.refl U.vm) qE2, va_OF.moved (u := U) (U := U.calling g mk a) (Vm.Alike.refl U.vm) qE3, va_O.moved (u := U) (U := U.calling g mk a) (Vm.Alike.refl U.vm) qE4, va_Zq.moved (u := U) (U := U.calling g mk a) (Vm.Alike.refl U.vm) qE5⟩, fun U hU hW => ⟨rfl, by rw [hU], by rw [hU]; exact hPc, va_K.moved hW.alike hKc, hDc.weaken (fun _ _ _ _ => trivial), va_OF.moved hW.alike (by rw [hU]; exact (hE_55.kept hS.2.1).narrow hFc), va_T.moved hW.alike (by rw [hU]; exact (hE_56.kept hS.2.1).narrow hFc), va_Z.moved hW.alike (by rw [hU]; exact (hE_10.kept hS.2.1).narrow hFc), va_OF.moved hW.alike (by rw [hU]; exact (hE_54.kept hS.2.1).narrow hFc), va_O.moved hW.alike (by rw [hU]; exact (hE_53.kept hS.2.1).narrow hFc), va_Zq.moved hW.alike (by rw [hU]; exact (hE_11.kept hS.2.1).narrow hFc)⟩⟩ rfl rfl hl.1 rfl (lv_room (Nat.le_of_ble_eq_true rfl)) dX12_readItems_40 ⟨Nat.le_of_ble_eq_true rfl, Nat.le_of_ble_eq_true rfl⟩) hS (fun q _ h => hFc q h) hFc (fun r_469 u t H1 locs ht hvm hw hB hz1 hk1 hS => ?_)
          obtain ⟨hP1, hK1, hD1⟩ := hB
          rw [ht] at hP1
          have hP := bv_still hP hk1
          generalize H1 = H at hP hS ⊢
          as_aux_lemma =>
          rcases hw with ⟨h_470, h_471⟩
          have h_471 : r_469 = _ := h_471
          replace hEX := hEX.trans (exc1_eq h_471)
          rw [h_470]
          refine lv_istore (lv' := [(6, .int (-1)), (5, .int 0), (0, .ref h0), (1, .int p1), (2, .ref h2), (3, .int 0), (4, .ref ts8)]) hx hb dX12_readItems_43 hl (Nat.le_of_ble_eq_true rfl) rfl (fun ls hl => ?_)
          exact hU _ _ _ (J45 0 x_455 w_446 g_h0_f10 g_h0_f17 g_h0_f26 g_h0_f27 g_h0_f28 g_h0_f29 g_h0_f30 g_h0_f31 g_h0_f34 g_h0_f41 g_h0_f51 g_h0_f53 g_h0_f6 g_h0_f7 g_h0_f8 g_h0_f9 h_457 g_p1 a_449 i_448 (by have := h_458; omega) hEX _ _ _ hP hD hS (lv_sub hl [0, 1, 2, 3, 4, 5, 6] rfl))
        · have h_468 : (r_454, x_455) = _ := h_468
          replace hEX := hEX.trans (exc2_eq h_468)
          replace hEX := hEX.trans (if_neg (RG_neq (x := r_454) (c := (-1)) (show RG r_454 0 255 from h_462) (by decide +kernel)))
          have nb_472 := h_467.2.resolve_left (fun q => by have g9 := h_462; rw [q] at g9; exact absurd g9.1 (by decide +kernel))
          obtain ⟨hPc, hDc, hFc, hqc⟩ := cl_cut (wc := []) hP hD hS hA [] (by decide +kernel) rfl
          have hKc := hK.sub (tys' := []) [] rfl
          refine va_calli (va_runS (As := [.ref ts8, .int r_454]) (rest := []) ⟨hx, hb, hml, hown, hts⟩ (c_X12_spotOf_5 l dC dI H.size ts8 r_454 tv8 h_462) (va_cwS 2 hts gf_c_X12_readItems_2_c_X12_spotOf_5 rfl rfl rfl md_X12_spotOf ⟨Nat.le_of_ble_eq_true rfl, Nat.le_of_ble_eq_true rfl⟩) ⟨fun a U g mk q => by obtain ⟨q0, q1, qP, qK, qD, qE0, qE1, qE2, qE3, qE4, qE5⟩ := q; exact ⟨q0, q1, qP, va_K.moved (u := U) (U := U.calling g mk a) (Vm.Alike.refl U.vm) qK, qD, va_OF.moved (u := U) (U := U.calling g mk a) (Vm.Alike.refl U.vm) qE0, va_T.moved (u := U) (U := U.calling g mk a) (Vm.Alike.refl U.vm) qE1, va_Z.moved (u := U) (U := U.calling g mk a) (Vm.Alike.refl U.vm) qE2, va_OF.moved (u := U) (U := U.calling g mk a) (Vm.Alike.refl U.vm) qE3, va_O.moved (u := U) (U := U.calling g mk a) (Vm.Alike.refl U.vm) qE4, va_Zq.moved (u := U) (U := U.calling g mk a) (Vm.Alike.refl U.vm) qE5⟩, fun U hU hW => ⟨rfl, by rw [hU], by rw [hU]; exact hPc, va_K.moved hW.alike hKc, hDc.weaken (fun _ _ _ _ => trivial), va_OF.moved hW.alike (by rw [hU]; exact (hE_55.kept hS.2.1).narrow hFc), va_T.moved hW.alike (by rw [hU]; exact (hE_56.kept hS.2.1).narrow hFc), va_Z.moved hW.alike (by rw [hU]; exact (hE_10.kept hS.2.1).narrow hFc), va_OF.moved hW.alike (by rw [hU]; exact (hE_54.kept hS.2.1).narrow hFc), va_O.moved hW.alike (by rw [hU]; exact (hE_53.kept hS.2.1).narrow hFc), va_Zq.moved hW.alike (by rw [hU]; exact (hE_11.kept hS.2.1).narrow hFc)⟩⟩ rfl rfl hl.1 rfl (lv_room (Nat.le_of_ble_eq_true rfl)) dX12_readItems_40 ⟨Nat.le_of_ble_eq_true rfl, Nat.le_of_ble_eq_true rfl⟩) hS (fun q _ h => hFc q h) hFc (fun r_473 u t H1 locs ht hvm hw hB hz1 hk1 hS => ?_)
          obtain ⟨hP1, hK1, hD1⟩ := hB
          rw [ht] at hP1
          have hP := bv_still hP hk1
          generalize H1 = H at hP hS ⊢
          as_aux_lemma =>
          rcases hw with ⟨h_474, h_475⟩ | ⟨h_476, h_477, h_478⟩ | ⟨h_479, h_480, h_481⟩ | ⟨h_482, h_483, h_484⟩ | ⟨h_485, h_486, h_487⟩
          · have h_475 : r_473 = _ := h_475
            replace hEX := hEX.trans (exc1_eq h_475)
            replace hEX := hEX.trans (if_pos (show r_473 = (-1) from h_474))
            rw [h_474]
            refine lv_istore (lv' := [(6, .int (-1)), (5, .int 0), (0, .ref h0), (1, .int p1), (2, .ref h2), (3, .int 0), (4, .ref ts8)]) hx hb dX12_readItems_43 hl (Nat.le_of_ble_eq_true rfl) rfl (fun ls hl => ?_)
            exact hU _ _ _ (J45 0 x_455 w_446 g_h0_f10 g_h0_f17 g_h0_f26 g_h0_f27 g_h0_f28 g_h0_f29 g_h0_f30 g_h0_f31 g_h0_f34 g_h0_f41 g_h0_f51 g_h0_f53 g_h0_f6 g_h0_f7 g_h0_f8 (RG_w h_464 (by decide +kernel)) (RG_w h_463 (by decide +kernel)) g_p1 a_449 i_448 (by have := h_465; omega) hEX _ _ _ hP hD hS (lv_sub hl [0, 1, 2, 3, 4, 5, 6] rfl))
          · have h_478 : r_473 = _ := h_478
            replace hEX := hEX.trans (exc1_eq h_478)
            replace hEX := hEX.trans (if_neg (fun q9 : r_473 = (-1) => absurd ((show r_473 = 3 from h_476).symm.trans q9) (by decide +kernel)))
            replace hEX := hEX.trans (if_pos (show r_473 = 3 from h_476))
            rw [h_476]
            refine lv_istore (lv' := [(6, .int 3), (5, .int 0), (0, .ref h0), (1, .int p1), (2, .ref h2), (3, .int 0), (4, .ref ts8)]) hx hb dX12_readItems_43 hl (Nat.le_of_ble_eq_true rfl) rfl (fun ls hl => ?_)
            exact hU _ _ _ (J45b exF 3 0 x_455 w_446 MU_F g_h0_f10 g_h0_f17 g_h0_f26 g_h0_f27 g_h0_f28 g_h0_f29 g_h0_f30 g_h0_f31 g_h0_f34 g_h0_f41 g_h0_f51 g_h0_f53 g_h0_f6 g_h0_f7 g_h0_f8 h_464 h_463 (RG_w (RG_k 3 3 rfl) (by decide +kernel)) g_p1 a_449 i_448 (by have := h_465; omega) hEX _ _ _ hP hD hS (lv_sub hl [0, 1, 2, 3, 4, 5, 6] rfl))
          · have h_481 : r_473 = _ := h_481
            replace hEX := hEX.trans (exc1_eq h_481)
            replace hEX := hEX.trans (if_neg (fun q9 : r_473 = (-1) => absurd ((show r_473 = 2 from h_479).symm.trans q9) (by decide +kernel)))
            replace hEX := hEX.trans (if_neg (fun q9 : r_473 = 3 => absurd ((show r_473 = 2 from h_479).symm.trans q9) (by decide +kernel)))
            replace hEX := hEX.trans (if_pos (show r_473 = 2 from h_479))
            rw [h_479]
            refine lv_istore (lv' := [(6, .int 2), (5, .int 0), (0, .ref h0), (1, .int p1), (2, .ref h2), (3, .int 0), (4, .ref ts8)]) hx hb dX12_readItems_43 hl (Nat.le_of_ble_eq_true rfl) rfl (fun ls hl => ?_)
            as_aux_lemma =>
            exact hU _ _ _ (J45b exF 2 0 x_455 w_446 MU_F g_h0_f10 g_h0_f17 g_h0_f26 g_h0_f27 g_h0_f28 g_h0_f29 g_h0_f30 g_h0_f31 g_h0_f34 g_h0_f41 g_h0_f51 g_h0_f53 g_h0_f6 g_h0_f7 g_h0_f8 h_464 h_463 (RG_w (RG_k 2 2 rfl) (by decide +kernel)) g_p1 a_449 i_448 (by have := h_465; omega) hEX _ _ _ hP hD hS (lv_sub hl [0, 1, 2, 3, 4, 5, 6] rfl))
          · have h_484 : r_473 = _ := h_484
            replace hEX := hEX.trans (exc1_eq h_484)
            replace hEX := hEX.trans (if_neg (fun q9 : r_473 = (-1) => absurd ((show r_473 = 1 from h_482).symm.trans q9) (by decide +kernel)))
            replace hEX := hEX.trans (if_neg (fun q9 : r_473 = 3 => absurd ((show r_473 = 1 from h_482).symm.trans q9) (by decide +kernel)))
            replace hEX := hEX.trans (if_neg (fun q9 : r_473 = 2 => absurd ((show r_473 = 1 from h_482).symm.trans q9) (by decide +kernel)))
            replace hEX := hEX.trans (if_pos (show r_473 = 1 from h_482))
            rw [h_482]
            refine lv_istore (lv' := [(6, .int 1), (5, .int 0), (0, .ref h0), (1, .int p1), (2, .ref h2), (3, .int 0), (4, .ref ts8)]) hx hb dX12_readItems_43 hl (Nat.le_of_ble_eq_true rfl) rfl (fun ls hl => ?_)
            exact hU _ _ _ (J45b exF 1 0 x_455 w_446 MU_F g_h0_f10 g_h0_f17 g_h0_f26 g_h0_f27 g_h0_f28 g_h0_f29 g_h0_f30 g_h0_f31 g_h0_f34 g_h0_f41 g_h0_f51 g_h0_f53 g_h0_f6 g_h0_f7 g_h0_f8 h_464 h_463 (RG_w (RG_k 1 1 rfl) (by decide +kernel)) g_p1 a_449 i_448 (by have := h_465; omega) hEX _ _ _ hP hD hS (lv_sub hl [0, 1, 2, 3, 4, 5, 6] rfl))
          · have h_487 : r_473 = _ := h_487
            replace hEX := hEX.trans (exc1_eq h_487)
            replace hEX := hEX.trans (if_neg (fun q9 : r_473 = (-1) => absurd ((show r_473 = 0 from h_485).symm.trans q9) (by decide +kernel)))
            replace hEX := hEX.trans (if_neg (fun q9 : r_473 = 3 => absurd ((show r_473 = 0 from h_485).symm.trans q9) (by decide +kernel)))
            replace hEX := hEX.trans (if_neg (fun q9 : r_473 = 2 => absurd ((show r_473 = 0 from h_485).symm.trans q9) (by decide +kernel)))
            replace hEX := hEX.trans (if_neg (fun q9 : r_473 = 1 => absurd ((show r_473 = 0 from h_485).symm.trans q9) (by decide +kernel)))
            rw [h_485]
            refine lv_istore (lv' := [(6, .int 0), (5, .int 0), (0, .ref h0), (1, .int p1), (2, .ref h2), (3, .int 0), (4, .ref ts8)]) hx hb dX12_readItems_43 hl (Nat.le_of_ble_eq_true rfl) rfl (fun ls hl => ?_)
            as_aux_lemma =>
            exact hU _ _ _ (J45b exF 0 0 x_455 w_446 MU_F g_h0_f10 g_h0_f17 g_h0_f26 g_h0_f27 g_h0_f28 g_h0_f29 g_h0_f30 g_h0_f31 g_h0_f34 g_h0_f41 g_h0_f51 g_h0_f53 g_h0_f6 g_h0_f7 g_h0_f8 h_464 h_463 (RG_w (RG_k 0 0 rfl) (by decide +kernel)) g_p1 a_449 i_448 (by have := h_465; omega) hEX _ _ _ hP hD hS (lv_sub hl [0, 1, 2, 3, 4, 5, 6] rfl))
      · have h_439 : r_433 = _ := h_439
        replace hEX := hEX.trans (exc1_eq h_439)
        replace hEX := hEX.trans (if_neg (fun q9 : r_433 = 8 => absurd ((show r_433 = 6 from h_437).symm.trans q9) (by decide +kernel)))
        replace hEX := hEX.trans (if_pos (show r_433 = 6 from h_437))
        rw [h_437]
        exact RG_dead (RG_eq1 (RG_k 3 3 rfl) h_438 rfl (a' := 3) (b' := 2) (by decide +kernel)) (by decide +kernel)
      · have h_442 : r_433 = _ := h_442
        replace hEX := hEX.trans (exc1_eq h_442)
        replace hEX := hEX.trans (if_neg (fun q9 : r_433 = 8 => absurd ((show r_433 = 0 from h_440).symm.trans q9) (by decide +kernel)))
        replace hEX := hEX.trans (if_neg (fun q9 : r_433 = 6 => absurd ((show r_433 = 0 from h_440).symm.trans q9) (by decide +kernel)))
        replace hEX := hEX.trans (if_pos (show r_433 = 0 from h_440))
        rw [h_440]
        exact RG_dead (RG_eq1 (RG_k 3 3 rfl) h_441 rfl (a' := 3) (b' := 1) (by decide +kernel)) (by decide +kernel)
      · have h_445 : r_433 = _ := h_445
        replace hEX := hEX.trans (exc1_eq h_445)
        replace hEX := hEX.trans (if_neg (fun q9 : r_433 = 8 => absurd ((show r_433 = 2 from h_443).symm.trans q9) (by decide +kernel)))
        replace hEX := hEX.trans (if_neg (fun q9 : r_433 = 6 => absurd ((show r_433 = 2 from h_443).symm.trans q9) (by decide +kernel)))
        replace hEX := hEX.trans (if_neg (fun q9 : r_433 = 0 => absurd ((show r_433 = 2 from h_443).symm.trans q9) (by decide +kernel)))
        rw [h_443]
        exact RG_dead (RG_eq1 (RG_k 3 3 rfl) h_444 rfl (a' := 3) (b' := 0) (by decide +kernel)) (by decide +kernel)
    · have h_420 : r_414 = _ := h_420
      replace hEX := hEX.trans (exc1_eq h_420)
      replace hEX := hEX.trans (if_neg (fun q9 : r_414 = 6 => absurd ((show r_414 = 0 from h_418).symm.trans q9) (by decide +kernel)))
      replace hEX := hEX.trans (if_pos (show r_414 = 0 from h_418))
      rw [h_418]
      exact RG_dead (RG_eq1 (RG_k 2 2 rfl) h_419 rfl (a' := 2) (b' := 1) (by decide +kernel)) (by decide +kernel)
    · have h_423 : r_414 = _ := h_423
      replace hEX := hEX.trans (exc1_eq h_423)
      replace hEX := hEX.trans (if_neg (fun q9 : r_414 = 6 => absurd ((show r_414 = 2 from h_421).symm.trans q9) (by decide +kernel)))
      replace hEX := hEX.trans (if_neg (fun q9 : r_414 = 0 => absurd ((show r_414 = 2 from h_421).symm.trans q9) (by decide +kernel)))
      rw [h_421]
      exact RG_dead (RG_eq1 (RG_k 2 2 rfl) h_422 rfl (a' := 2) (b' := 0) (by decide +kernel)) (by decide +kernel)
  · have h_404 : r_398 = _ := h_404
    replace hEX := hEX.trans (exc1_eq h_404)
    replace hEX := hEX.trans (if_neg (fun q9 : r_398 = 0 => absurd ((show r_398 = 2 from h_402).symm.trans q9) (by decide +kernel)))
    rw [h_402]
    exact RG_dead (RG_eq1 (RG_k 1 1 rfl) h_403 rfl (a' := 1) (b' := 0) (by decide +kernel)) (by decide +kernel)
