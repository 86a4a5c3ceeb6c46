noncomputable def wf_c_X12_mostOf : List Cond := .code yX12_mostOf cX12_mostOf 2 (some .int) :: ([])
set_option maxHeartbeats 4000000 in
set_option maxRecDepth 100000 in
theorem c_X12_mostOf (l : Launch) (dC : Nat → ClassId) (dI : Nat → Nat → Nat) (sz : Nat) (p0 : Int32) (p1 : Int32) (g_p0 : RG p0 99 99) (g_p1 : RG p1 0 0) : Met l yX12_mostOf wf_c_X12_mostOf ({ frames := 0, cells := 0, slots := 0, locals := 0 }) (va_Pc [.int p0, .int p1] (fun U => U.heap.size = sz ∧ va_P (dC, dI) vwCl [] U.heap ∧ va_K (dC, dI) vwCl [] U ∧ va_D (fun _ => True) [])) (va_Qi (fun (r : Int32) (u : Unit) => (r = 9)) (fun (u : Unit) t => va_P (dC, dI) vwCl [] t.heap ∧ va_K (dC, dI) vwCl [] t ∧ va_D (va_A [] sz) []) (va_A [] sz)) 0 0 (va_A [] sz) := by
  refine Met.ofW (cc := cX12_mostOf) (maxL := 2) (ret := (some .int)) (by decide +kernel) rfl ?_
  intro p e s m args below meth c s₁ B hml hv
  obtain ⟨rfl, hsz, hP, hK, hD0⟩ := hv
  have hx := B.exec
  have hb := B.bytes
  have hr := B.returns
  have hts := atoms_spec (ws := wf_c_X12_mostOf) B.pre
  have hown : s.vm.findClass RX12 = some m.cls := findClass_of_methodNamed B.named
  have hlocks := B.notSynchronized
  subst hsz
  have hD := hD0.self (sz := s.heap.size)
  generalize hAe : va_A [] s.heap.size = A at hD ⊢
  have hA : ∀ q : Nat, s.heap.size ≤ q → A q := fun q h => by rw [← hAe]; exact Or.inr h
  have hP : va_P (dC, dI) vwCl [] s.heap := hP
  have hl := lv_entry ([.int p0, .int p1]) (n := 2) (Nat.le_of_ble_eq_true rfl)
  rw [lg_entry_eq]
  generalize (lg_sl ([.int p0, .int p1]) ++ List.replicate (2 - (lg_sl ([.int p0, .int p1])).length) Slot.unset).toArray = ls at hl ⊢
  have hl : lv_has ls 2 [(0, .int p0), (1, .int p1)] := hl
  obtain ⟨H, hHe⟩ : ∃ H : Heap, s.heap = H := ⟨_, rfl⟩
  have hS : va_S A s.heap H [] := by rw [hHe]; exact va_S.rf
  have hP : va_P (dC, dI) vwCl [] H := by rw [← hHe]; exact hP
  rw [hHe]
  refine lv_iload_n hx hb dX12_mostOf_0 rfl (lv_at hl 0 rfl) ?_
  as_aux_lemma =>
  refine lv_bipush (v := 115) hx hb dX12_mostOf_1 kc_bipush_115 ?_
  refine lv_icmp_ne (tgt := 37) hx hb dX12_mostOf_3 rfl (fun c_1 => ?_) (fun c_1 => ?_)
  · refine lv_iload_n hx hb dX12_mostOf_37 rfl (lv_at hl 0 rfl) ?_
    refine lv_bipush (v := 99) hx hb dX12_mostOf_38 kc_bipush_99 ?_
    refine lv_icmp_ne (tgt := 55) hx hb dX12_mostOf_40 rfl (fun c_2 => ?_) (fun c_2 => ?_)
    · exact RG_dead (RG_ne1 g_p0 (q := 99) rfl c_2 (a' := 100) (b' := 99) (by decide +kernel)) (by decide +kernel)
    · refine lv_iload_n hx hb dX12_mostOf_43 rfl (lv_at hl 1 rfl) ?_
      refine lv_iconst (v := 2) hx hb dX12_mostOf_44 kc_iconst_2 ?_
      refine lv_icmp_ne (tgt := 52) hx hb dX12_mostOf_45 rfl (fun c_3 => ?_) (fun c_3 => ?_)
      · refine lv_bipush (v := 9) hx hb dX12_mostOf_52 kc_bipush_9 ?_
        have hK9 := hK.sub (tys' := []) [] rfl
        exact W.iret (v := 9) hx hb hr (fun t ht hW => ⟨⟨9, (), rfl, rfl, by rw [ht]; exact hP, va_K.moved hW.alike hK9, hD⟩, hS.F ht⟩) hS.2.2 dX12_mostOf_54
      · exact RG_dead (RG_eq1 g_p1 (RG_k 2 2 rfl) c_3 (a' := 2) (b' := 0) (by decide +kernel)) (by decide +kernel)
  · exact RG_dead (RG_eq1 g_p0 (RG_k 115 115 rfl) c_1 (a' := 115) (b' := 99) (by decide +kernel)) (by decide +kernel)
noncomputable def wd_c_X12_isDigit (a0 : Nat) (a1 : Int32) (a2 : Nat) (a3 : Nat) (a4 : Nat) (a5 : Nat) (a6 : Nat) (a7 : Int32) (a8 : Int32) (a9 : Int32) (a10 : Int32) (a11 : Int32) (a12 : Int32) (a13 : Int32) (a14 : Int32) (a15 : Int32) (a16 : Nat) (a17 : Nat) (a18 : Int32) (a19 : Nat) (a20 : Nat) (a21 : Nat) (a22 : Nat) (a23 : Nat) (a24 : Nat) (a25 : Nat) (a26 : Nat) (a27 : Int32) (a28 : Int32) (a29 : Int32) (a30 : Int32) (a31 : Int32) (a32 : Int32) (a33 : Nat) (a34 : Nat) (a35 : Int32) (a36 : Nat) (a37 : Nat) (a38 : Nat) (a39 : Nat) (a40 : Nat) (a41 : Nat) (a42 : Int32) (a43 : Int64) (a44 : Int32) (a45 : Int32) (a46 : Nat) (a47 : Nat) (a48 : Nat) (a49 : Nat) (a50 : Nat) (a51 : Nat) (a52 : Int32) (a53 : Nat) (a54 : Int32) (a55 : Nat) (a56 : ClassId) (a57 : Nat) (a58 : Nat → Int32) : va_W := [(a0, .inr (12, [.int a1, .ref a2, .ref a3, .ref a4, .ref a5, .ref a6, .int a7, .int a8, .int a9, .int a10, .int a11, .int a12, .int a13, .int a14, .int a15, .ref a16, .ref a17, .int a18, .ref a19, .ref a20, .ref a21, .ref a22, .ref a23, .ref a24, .ref a25, .ref a26, .int a27, .int a28, .int a29, .int a30, .int a31, .int a32, .ref a33, .ref a34, .int a35, .ref a36, .ref a37, .ref a38, .ref a39, .ref a40, .ref a41, .int a42, .long a43, .int a44, .int a45, .ref a46, .ref a47, .ref a48, .ref a49, .ref a50, .ref a51, .int a52, .ref a53, .int a54])), (a55, .inl (a56, a57, .inl a58))]
noncomputable def wf_c_X12_isDigit : List Cond := List.cons (.code yX12_isDigit cX12_isDigit 1 (some .boolean)) (@HAppend.hAppend (List Cond) (List Cond) (List Cond) _ [.fieldLink RX12 134 "BuoyVoteModel" "at" "I", .fieldLink RX12 137 "BuoyVoteModel" "ends" "I", .fieldLink RX12 23 "BuoyVoteModel" "text" "[B", .fieldLink RX12 140 "BuoyVoteModel" "begins" "I"] wsX120)
theorem iw_c_X12_isDigit_X12 : ∀ w ∈ wsX120, w ∈ wf_c_X12_isDigit := fun w h => List.mem_cons_of_mem _ (List.mem_append_right _ h)
set_option maxHeartbeats 4000000 in
set_option maxRecDepth 100000 in
theorem c_X12_isDigit (l : Launch) (dC : Nat → ClassId) (dI : Nat → Nat → Nat) (sz : Nat) (h0 : Nat) (h0_f0 : Int32) (h0_1 : Nat) (h0_2 : Nat) (h0_3 : Nat) (h0_4 : Nat) (h0_5 : Nat) (h0_f6 : Int32) (h0_f7 : Int32) (h0_f8 : Int32) (h0_f9 : Int32) (h0_f10 : Int32) (h0_f12 : Int32) (h0_f13 : Int32) (h0_f14 : Int32) (h0_15 : Nat) (h0_16 : Nat) (h0_f17 : Int32) (h0_18 : Nat) (h0_19 : Nat) (h0_20 : Nat) (h0_21 : Nat) (h0_22 : Nat) (h0_23 : Nat) (h0_24 : Nat) (h0_25 : Nat) (h0_f26 : Int32) (h0_f27 : Int32) (h0_f28 : Int32) (h0_f29 : Int32) (h0_f30 : Int32) (h0_f31 : Int32) (h0_32 : Nat) (h0_33 : Nat) (h0_f34 : Int32) (h0_35 : Nat) (h0_36 : Nat) (h0_37 : Nat) (h0_38 : Nat) (h0_39 : Nat) (h0_40 : Nat) (h0_f41 : Int32) (h0_f42 : Int64) (h0_f43 : Int32) (h0_f44 : Int32) (h0_45 : Nat) (h0_46 : Nat) (h0_47 : Nat) (h0_48 : Nat) (h0_49 : Nat) (h0_50 : Nat) (h0_f51 : Int32) (h0_52 : Nat) (h0_f53 : Int32) (h0_5k : ClassId) (h0_5c : Nat → Int32) (tN : Nat) (g_h0_f6 : RG h0_f6 0 240) (g_h0_f7 : RG h0_f7 0 4) (g_h0_f8 : RG h0_f8 0 720) (g_h0_f9 : RG h0_f9 0 240) (g_h0_f10 : RG h0_f10 0 240) (g_h0_f17 : RG h0_f17 0 1) (g_h0_f26 : RG h0_f26 0 8) (g_h0_f27 : RG h0_f27 0 3) (g_h0_f28 : RG h0_f28 0 8) (g_h0_f29 : RG h0_f29 0 3) (g_h0_f30 : RG h0_f30 0 4) (g_h0_f31 : RG h0_f31 0 1) (g_h0_f34 : RG h0_f34 (-1) 3) (g_h0_f41 : RG h0_f41 0 40) (g_h0_f51 : RG h0_f51 0 10) (g_h0_f53 : RG h0_f53 0 1) (htN : h0_f8.toInt + 240 ≤ (tN : Int)) : Met l yX12_isDigit wf_c_X12_isDigit ({ frames := 0, cells := 0, slots := 0, locals := 0 }) (va_Pc [.ref h0] (fun U => U.heap.size = sz ∧ va_P (dC, dI) vwCl (wd_c_X12_isDigit h0 h0_f0 h0_1 h0_2 h0_3 h0_4 h0_5 h0_f6 h0_f7 h0_f8 h0_f9 h0_f10 (-1) h0_f12 h0_f13 h0_f14 h0_15 h0_16 h0_f17 h0_18 h0_19 h0_20 h0_21 h0_22 h0_23 h0_24 h0_25 h0_f26 h0_f27 h0_f28 h0_f29 h0_f30 h0_f31 h0_32 h0_33 h0_f34 h0_35 h0_36 h0_37 h0_38 h0_39 h0_40 h0_f41 h0_f42 h0_f43 h0_f44 h0_45 h0_46 h0_47 h0_48 h0_49 h0_50 h0_f51 h0_52 h0_f53 h0_5 h0_5k tN h0_5c) U.heap ∧ va_K (dC, dI) vwCl [(h0_5k, .byte)] U ∧ va_D (fun _ => True) (wd_c_X12_isDigit h0 h0_f0 h0_1 h0_2 h0_3 h0_4 h0_5 h0_f6 h0_f7 h0_f8 h0_f9 h0_f10 (-1) h0_f12 h0_f13 h0_f14 h0_15 h0_16 h0_f17 h0_18 h0_19 h0_20 h0_21 h0_22 h0_23 h0_24 h0_25 h0_f26 h0_f27 h0_f28 h0_f29 h0_f30 h0_f31 h0_32 h0_33 h0_f34 h0_35 h0_36 h0_37 h0_38 h0_39 h0_40 h0_f41 h0_f42 h0_f43 h0_f44 h0_45 h0_46 h0_47 h0_48 h0_49 h0_50 h0_f51 h0_52 h0_f53 h0_5 h0_5k tN h0_5c))) (va_Qi (fun (r : Int32) (u : Unit) => (r = 0 ∧ (r = 1 → RG (h0_5c (h0_f8 + h0_f10).toNatClampNeg) 48 57)) ∨ (r = 1 ∧ RG h0_f10 0 239 ∧ RG h0_f9 1 240 ∧ h0_f10.toInt ≤ h0_f9.toInt + (-1) ∧ (r = 1 → RG (h0_5c (h0_f8 + h0_f10).toNatClampNeg) 48 57))) (fun (u : Unit) t => va_P (dC, dI) vwCl (wd_c_X12_isDigit h0 h0_f0 h0_1 h0_2 h0_3 h0_4 h0_5 h0_f6 h0_f7 h0_f8 h0_f9 h0_f10 (-1) h0_f12 h0_f13 h0_f14 h0_15 h0_16 h0_f17 h0_18 h0_19 h0_20 h0_21 h0_22 h0_23 h0_24 h0_25 h0_f26 h0_f27 h0_f28 h0_f29 h0_f30 h0_f31 h0_32 h0_33 h0_f34 h0_35 h0_36 h0_37 h0_38 h0_39 h0_40 h0_f41 h0_f42 h0_f43 h0_f44 h0_45 h0_46 h0_47 h0_48 h0_49 h0_50 h0_f51 h0_52 h0_f53 h0_5 h0_5k tN h0_5c) t.heap ∧ va_K (dC, dI) vwCl [] t ∧ va_D (va_A (wd_c_X12_isDigit h0 h0_f0 h0_1 h0_2 h0_3 h0_4 h0_5 h0_f6 h0_f7 h0_f8 h0_f9 h0_f10 (-1) h0_f12 h0_f13 h0_f14 h0_15 h0_16 h0_f17 h0_18 h0_19 h0_20 h0_21 h0_22 h0_23 h0_24 h0_25 h0_f26 h0_f27 h0_f28 h0_f29 h0_f30 h0_f31 h0_32 h0_33 h0_f34 h0_35 h0_36 h0_37 h0_38 h0_39 h0_40 h0_f41 h0_f42 h0_f43 h0_f44 h0_45 h0_46 h0_47 h0_48 h0_49 h0_50 h0_f51 h0_52 h0_f53 h0_5 h0_5k tN h0_5c) sz) (wd_c_X12_isDigit h0 h0_f0 h0_1 h0_2 h0_3 h0_4 h0_5 h0_f6 h0_f7 h0_f8 h0_f9 h0_f10 (-1) h0_f12 h0_f13 h0_f14 h0_15 h0_16 h0_f17 h0_18 h0_19 h0_20 h0_21 h0_22 h0_23 h0_24 h0_25 h0_f26 h0_f27 h0_f28 h0_f29 h0_f30 h0_f31 h0_32 h0_33 h0_f34 h0_35 h0_36 h0_37 h0_38 h0_39 h0_40 h0_f41 h0_f42 h0_f43 h0_f44 h0_45 h0_46 h0_47 h0_48 h0_49 h0_50 h0_f51 h0_52 h0_f53 h0_5 h0_5k tN h0_5c)) (va_A (wd_c_X12_isDigit h0 h0_f0 h0_1 h0_2 h0_3 h0_4 h0_5 h0_f6 h0_f7 h0_f8 h0_f9 h0_f10 (-1) h0_f12 h0_f13 h0_f14 h0_15 h0_16 h0_f17 h0_18 h0_19 h0_20 h0_21 h0_22 h0_23 h0_24 h0_25 h0_f26 h0_f27 h0_f28 h0_f29 h0_f30 h0_f31 h0_32 h0_33 h0_f34 h0_35 h0_36 h0_37 h0_38 h0_39 h0_40 h0_f41 h0_f42 h0_f43 h0_f44 h0_45 h0_46 h0_47 h0_48 h0_49 h0_50 h0_f51 h0_52 h0_f53 h0_5 h0_5k tN h0_5c) sz)) 0 0 (va_A (wd_c_X12_isDigit h0 h0_f0 h0_1 h0_2 h0_3 h0_4 h0_5 h0_f6 h0_f7 h0_f8 h0_f9 h0_f10 (-1) h0_f12 h0_f13 h0_f14 h0_15 h0_16 h0_f17 h0_18 h0_19 h0_20 h0_21 h0_22 h0_23 h0_24 h0_25 h0_f26 h0_f27 h0_f28 h0_f29 h0_f30 h0_f31 h0_32 h0_33 h0_f34 h0_35 h0_36 h0_37 h0_38 h0_39 h0_40 h0_f41 h0_f42 h0_f43 h0_f44 h0_45 h0_46 h0_47 h0_48 h0_49 h0_50 h0_f51 h0_52 h0_f53 h0_5 h0_5k tN h0_5c) sz) := by
  refine Met.ofW (cc := cX12_isDigit) (maxL := 1) (ret := (some .boolean)) (by decide +kernel) rfl ?_
  intro p e s m args below meth c s₁ B hml hv
  obtain ⟨rfl, hsz, hP, hK, hD0⟩ := hv
  have hx := B.exec
  have hb := B.bytes
  have hr := B.returns
  have hts := atoms_spec (ws := wf_c_X12_isDigit) B.pre
  have hown : s.vm.findClass RX12 = some m.cls := findClass_of_methodNamed B.named
  have hlocks := B.notSynchronized
  subst hsz
  have hD := hD0.self (sz := s.heap.size)
  generalize hAe : va_A (wd_c_X12_isDigit h0 h0_f0 h0_1 h0_2 h0_3 h0_4 h0_5 h0_f6 h0_f7 h0_f8 h0_f9 h0_f10 (-1) h0_f12 h0_f13 h0_f14 h0_15 h0_16 h0_f17 h0_18 h0_19 h0_20 h0_21 h0_22 h0_23 h0_24 h0_25 h0_f26 h0_f27 h0_f28 h0_f29 h0_f30 h0_f31 h0_32 h0_33 h0_f34 h0_35 h0_36 h0_37 h0_38 h0_39 h0_40 h0_f41 h0_f42 h0_f43 h0_f44 h0_45 h0_46 h0_47 h0_48 h0_49 h0_50 h0_f51 h0_52 h0_f53 h0_5 h0_5k tN h0_5c) s.heap.size = A at hD ⊢
  have hA : ∀ q : Nat, s.heap.size ≤ q → A q := fun q h => by rw [← hAe]; exact Or.inr h
  have hP : va_P (dC, dI) vwCl (wd_c_X12_isDigit h0 h0_f0 h0_1 h0_2 h0_3 h0_4 h0_5 h0_f6 h0_f7 h0_f8 h0_f9 h0_f10 (-1) h0_f12 h0_f13 h0_f14 h0_15 h0_16 h0_f17 h0_18 h0_19 h0_20 h0_21 h0_22 h0_23 h0_24 h0_25 h0_f26 h0_f27 h0_f28 h0_f29 h0_f30 h0_f31 h0_32 h0_33 h0_f34 h0_35 h0_36 h0_37 h0_38 h0_39 h0_40 h0_f41 h0_f42 h0_f43 h0_f44 h0_45 h0_46 h0_47 h0_48 h0_49 h0_50 h0_f51 h0_52 h0_f53 h0_5 h0_5k tN h0_5c) s.heap := hP
  have hl := lv_entry ([.ref h0]) (n := 1) (Nat.le_of_ble_eq_true rfl)
  rw [lg_entry_eq]
  generalize (lg_sl ([.ref h0]) ++ List.replicate (1 - (lg_sl ([.ref h0])).length) Slot.unset).toArray = ls at hl ⊢
  have hl : lv_has ls 1 [(0, .ref h0)] := hl
  obtain ⟨H, hHe⟩ : ∃ H : Heap, s.heap = H := ⟨_, rfl⟩
  have hS : va_S A s.heap H [] := by rw [hHe]; exact va_S.rf
  have hP : va_P (dC, dI) vwCl (wd_c_X12_isDigit h0 h0_f0 h0_1 h0_2 h0_3 h0_4 h0_5 h0_f6 h0_f7 h0_f8 h0_f9 h0_f10 (-1) h0_f12 h0_f13 h0_f14 h0_15 h0_16 h0_f17 h0_18 h0_19 h0_20 h0_21 h0_22 h0_23 h0_24 h0_25 h0_f26 h0_f27 h0_f28 h0_f29 h0_f30 h0_f31 h0_32 h0_33 h0_f34 h0_35 h0_36 h0_37 h0_38 h0_39 h0_40 h0_f41 h0_f42 h0_f43 h0_f44 h0_45 h0_46 h0_47 h0_48 h0_49 h0_50 h0_f51 h0_52 h0_f53 h0_5 h0_5k tN h0_5c) H := by rw [← hHe]; exact hP
  rw [hHe]
  refine lv_aload_n hx hb dX12_isDigit_0 rfl (lv_at hl 0 rfl) ?_
  as_aux_lemma =>
  refine va_get (D := (dC, dI)) (ci := 12) (v := .int h0_f10) (C := RX12) (T := TX12) (N := 54) hx hb hts iw_c_X12_isDigit_X12 hown hK hP 0 rfl rfl 10 (by decide +kernel) (hts (.fieldLink RX12 134 "BuoyVoteModel" "at" "I") (List.mem_of_getElem? (i := 1) rfl)) (fun _ h9 => h9) rfl dX12_isDigit_1 ?_
  refine lv_aload_n hx hb dX12_isDigit_4 rfl (lv_at hl 0 rfl) ?_
  refine va_get (D := (dC, dI)) (ci := 12) (v := .int h0_f9) (C := RX12) (T := TX12) (N := 54) hx hb hts iw_c_X12_isDigit_X12 hown hK hP 0 rfl rfl 9 (by decide +kernel) (hts (.fieldLink RX12 137 "BuoyVoteModel" "ends" "I") (List.mem_of_getElem? (i := 2) rfl)) (fun _ h9 => h9) rfl dX12_isDigit_5 ?_
  refine lv_icmp_ge (tgt := 53) hx hb dX12_isDigit_8 rfl (fun c_1 => ?_) (fun c_1 => ?_)
  · have b_2 : h0_f9.toInt ≤ h0_f10.toInt + 0 := by have := Int32.le_iff_toInt_le.mp c_1; omega
    refine lv_iconst (v := 0) hx hb dX12_isDigit_53 kc_iconst_0 ?_
    have hK9 := hK.sub (tys' := []) [] rfl
    exact W.zret (v := 0) hx hb hr rfl (fun t ht hW => ⟨⟨0, (), rfl, (Or.inl ⟨rfl, (fun h => absurd h (by decide +kernel))⟩), by rw [ht]; exact hP, va_K.moved hW.alike hK9, hD⟩, hS.F ht⟩) hS.2.2 dX12_isDigit_54
  · have d_3 := Int32.not_le.mp c_1
    have b_4 : h0_f10.toInt ≤ h0_f9.toInt + (-1) := by have := Int32.lt_iff_toInt_lt.mp d_3; omega
    have g_5 : RG h0_f10 0 239 := RG_lt1 g_h0_f10 g_h0_f9 d_3 (by decide +kernel)
    have g_6 : RG h0_f9 1 240 := RG_lt2 g_h0_f10 g_h0_f9 d_3 (by decide +kernel)
    refine lv_aload_n hx hb dX12_isDigit_11 rfl (lv_at hl 0 rfl) ?_
    refine va_get (D := (dC, dI)) (ci := 12) (v := .ref h0_5) (C := RX12) (T := TX12) (N := 54) hx hb hts iw_c_X12_isDigit_X12 hown hK hP 0 rfl rfl 5 (by decide +kernel) (hts (.fieldLink RX12 23 "BuoyVoteModel" "text" "[B") (List.mem_of_getElem? (i := 3) rfl)) (fun _ h9 => h9) rfl dX12_isDigit_12 ?_
    as_aux_lemma =>
    refine lv_aload_n hx hb dX12_isDigit_15 rfl (lv_at hl 0 rfl) ?_
    refine va_get (D := (dC, dI)) (ci := 12) (v := .int h0_f8) (C := RX12) (T := TX12) (N := 54) hx hb hts iw_c_X12_isDigit_X12 hown hK hP 0 rfl rfl 8 (by decide +kernel) (hts (.fieldLink RX12 140 "BuoyVoteModel" "begins" "I") (List.mem_of_getElem? (i := 4) rfl)) (fun _ h9 => h9) rfl dX12_isDigit_16 ?_
    refine lv_aload_n hx hb dX12_isDigit_19 rfl (lv_at hl 0 rfl) ?_
    refine va_get (D := (dC, dI)) (ci := 12) (v := .int h0_f10) (C := RX12) (T := TX12) (N := 54) hx hb hts iw_c_X12_isDigit_X12 hown hK hP 0 rfl rfl 10 (by decide +kernel) (hts (.fieldLink RX12 134 "BuoyVoteModel" "at" "I") (List.mem_of_getElem? (i := 1) rfl)) (fun _ h9 => h9) rfl dX12_isDigit_20 ?_
    refine lv_iadd hx hb dX12_isDigit_23 ?_
    refine lv_topi (fun x_7 ex_7 => ?_)
    have g_8 : RG x_7 0 959 := RG_add ex_7 g_h0_f8 g_5 (by decide +kernel)
    refine va_bald hx hb hK hP 1 0 rfl rfl (vp_in_iff.mpr ⟨by have := (g_8).1; omega, by have := eq_add2 ex_7 g_h0_f8 g_5 (by decide +kernel); have := htN; have := (g_5).2; omega⟩) dX12_isDigit_24 ?_
    refine lv_topi (fun x_9 ex_9 => ?_)
    refine lv_bipush (v := 48) hx hb dX12_isDigit_25 kc_bipush_48 ?_
    refine lv_icmp_lt (tgt := 53) hx hb dX12_isDigit_27 rfl (fun c_10 => ?_) (fun c_10 => ?_)
    · have g_11 : RG x_9 (-2147483648) 47 := RG_lt1 (RG_any x_9) (RG_k 48 48 rfl) c_10 (by decide +kernel)
      refine lv_iconst (v := 0) hx hb dX12_isDigit_53 kc_iconst_0 ?_
      have hK9 := hK.sub (tys' := []) [] rfl
      exact W.zret (v := 0) hx hb hr rfl (fun t ht hW => ⟨⟨0, (), rfl, (Or.inl ⟨rfl, (fun h => absurd h (by decide +kernel))⟩), by rw [ht]; exact hP, va_K.moved hW.alike hK9, hD⟩, hS.F ht⟩) hS.2.2 dX12_isDigit_54
    · have d_12 := Int32.not_lt.mp c_10
      have g_13 : RG x_9 48 2147483647 := RG_le2 (RG_k 48 48 rfl) (RG_any x_9) d_12 (by decide +kernel)
      refine lv_aload_n hx hb dX12_isDigit_30 rfl (lv_at hl 0 rfl) ?_
      as_aux_lemma =>
      refine va_get (D := (dC, dI)) (ci := 12) (v := .ref h0_5) (C := RX12) (T := TX12) (N := 54) hx hb hts iw_c_X12_isDigit_X12 hown hK hP 0 rfl rfl 5 (by decide +kernel) (hts (.fieldLink RX12 23 "BuoyVoteModel" "text" "[B") (List.mem_of_getElem? (i := 3) rfl)) (fun _ h9 => h9) rfl dX12_isDigit_31 ?_
      refine lv_aload_n hx hb dX12_isDigit_34 rfl (lv_at hl 0 rfl) ?_
      refine va_get (D := (dC, dI)) (ci := 12) (v := .int h0_f8) (C := RX12) (T := TX12) (N := 54) hx hb hts iw_c_X12_isDigit_X12 hown hK hP 0 rfl rfl 8 (by decide +kernel) (hts (.fieldLink RX12 140 "BuoyVoteModel" "begins" "I") (List.mem_of_getElem? (i := 4) rfl)) (fun _ h9 => h9) rfl dX12_isDigit_35 ?_
      refine lv_aload_n hx hb dX12_isDigit_38 rfl (lv_at hl 0 rfl) ?_
      refine va_get (D := (dC, dI)) (ci := 12) (v := .int h0_f10) (C := RX12) (T := TX12) (N := 54) hx hb hts iw_c_X12_isDigit_X12 hown hK hP 0 rfl rfl 10 (by decide +kernel) (hts (.fieldLink RX12 134 "BuoyVoteModel" "at" "I") (List.mem_of_getElem? (i := 1) rfl)) (fun _ h9 => h9) rfl dX12_isDigit_39 ?_
      refine lv_iadd hx hb dX12_isDigit_42 ?_
      refine lv_topi (fun x_14 ex_14 => ?_)
      obtain rfl : x_7 = x_14 := ex_7.trans ex_14.symm
      refine va_bald hx hb hK hP 1 0 rfl rfl (vp_in_iff.mpr ⟨by have := (g_8).1; omega, by have := eq_add2 ex_7 g_h0_f8 g_5 (by decide +kernel); have := htN; have := (g_5).2; omega⟩) dX12_isDigit_43 ?_
      refine lv_topi (fun x_15 ex_15 => ?_)
      obtain rfl : x_9 = x_15 := (ex_15.trans ex_9.symm).symm
      refine lv_bipush (v := 57) hx hb dX12_isDigit_44 kc_bipush_57 ?_
      refine lv_icmp_gt (tgt := 53) hx hb dX12_isDigit_46 rfl (fun c_16 => ?_) (fun c_16 => ?_)
      · have g_17 : RG x_9 58 2147483647 := RG_lt2 (RG_k 57 57 rfl) g_13 c_16 (by decide +kernel)
        refine lv_iconst (v := 0) hx hb dX12_isDigit_53 kc_iconst_0 ?_
        as_aux_lemma =>
        have hK9 := hK.sub (tys' := []) [] rfl
        exact W.zret (v := 0) hx hb hr rfl (fun t ht hW => ⟨⟨0, (), rfl, (Or.inl ⟨rfl, (fun h => absurd h (by decide +kernel))⟩), by rw [ht]; exact hP, va_K.moved hW.alike hK9, hD⟩, hS.F ht⟩) hS.2.2 dX12_isDigit_54
      · have d_18 := Int32.not_lt.mp c_16
        have g_19 : RG x_9 48 57 := RG_le1 g_13 (RG_k 57 57 rfl) d_18 (by decide +kernel)
        refine lv_iconst (v := 1) hx hb dX12_isDigit_49 kc_iconst_1 ?_
        refine lv_goto (tgt := 54) hx hb dX12_isDigit_50 rfl ?_
        have hK9 := hK.sub (tys' := []) [] rfl
        exact W.zret (v := 1) hx hb hr rfl (fun t ht hW => ⟨⟨1, (), rfl, (Or.inr ⟨rfl, g_5, g_6, (by have := b_4; have := (g_5).2; have := (g_6).1; show h0_f10.toInt ≤ h0_f9.toInt + (-1); omega), (fun _ => (by rw [← ex_7, ← ex_9]; exact g_19))⟩), by rw [ht]; exact hP, va_K.moved hW.alike hK9, hD⟩, hS.F ht⟩) hS.2.2 dX12_isDigit_54
noncomputable def wd_c_X12_fails (a0 : Nat) (a1 : Int32) (a2 : Nat) (a3 : Nat) (a4 : Nat) (a5 : Nat) (a6 : Nat) (a7 : Int32) (a8 : Int32) (a9 : Int32) (a10 : Int32) (a11 : Int32) (a12 : Int32) (a13 : Int32) (a14 : Int32) (a15 : Int32) (a16 : Nat) (a17 : Nat) (a18 : Int32) (a19 : Nat) (a20 : Nat) (a21 : Nat) (a22 : Nat) (a23 : Nat) (a24 : Nat) (a25 : Nat) (a26 : Nat) (a27 : Int32) (a28 : Int32) (a29 : Int32) (a30 : Int32) (a31 : Int32) (a32 : Int32) (a33 : Nat) (a34 : Nat) (a35 : Int32) (a36 : Nat) (a37 : Nat) (a38 : Nat) (a39 : Nat) (a40 : Nat) (a41 : Nat) (a42 : Int32) (a43 : Int64) (a44 : Int32) (a45 : Int32) (a46 : Nat) (a47 : Nat) (a48 : Nat) (a49 : Nat) (a50 : Nat) (a51 : Nat) (a52 : Int32) (a53 : Nat) (a54 : Int32) : va_W := [(a0, .inr (12, [.int a1, .ref a2, .ref a3, .ref a4, .ref a5, .ref a6, .int a7, .int a8, .int a9, .int a10, .int a11, .int a12, .int a13, .int a14, .int a15, .ref a16, .ref a17, .int a18, .ref a19, .ref a20, .ref a21, .ref a22, .ref a23, .ref a24, .ref a25, .ref a26, .int a27, .int a28, .int a29, .int a30, .int a31, .int a32, .ref a33, .ref a34, .int a35, .ref a36, .ref a37, .ref a38, .ref a39, .ref a40, .ref a41, .int a42, .long a43, .int a44, .int a45, .ref a46, .ref a47, .ref a48, .ref a49, .ref a50, .ref a51, .int a52, .ref a53, .int a54]))]
noncomputable def wf_c_X12_fails : List Cond := List.cons (.code yX12_fails cX12_fails 1 (some .boolean)) (@HAppend.hAppend (List Cond) (List Cond) (List Cond) _ [.fieldLink RX12 143 "BuoyVoteModel" "fault" "I", .fieldLink RX12 134 "BuoyVoteModel" "at" "I"] wsX120)
theorem iw_c_X12_fails_X12 : ∀ w ∈ wsX120, w ∈ wf_c_X12_fails := fun w h => List.mem_cons_of_mem _ (List.mem_append_right _ h)
set_option maxHeartbeats 4000000 in
set_option maxRecDepth 100000 in
theorem c_X12_fails (l : Launch) (dC : Nat → ClassId) (dI : Nat → Nat → Nat) (sz : Nat) (h0 : Nat) (h0_f0 : Int32) (h0_1 : Nat) (h0_2 : Nat) (h0_3 : Nat) (h0_4 : Nat) (h0_5 : Nat) (h0_f6 : Int32) (h0_f7 : Int32) (h0_f8 : Int32) (h0_f9 : Int32) (h0_f10 : Int32) (h0_f12 : Int32) (h0_f13 : Int32) (h0_f14 : Int32) (h0_15 : Nat) (h0_16 : Nat) (h0_f17 : Int32) (h0_18 : Nat) (h0_19 : Nat) (h0_20 : Nat) (h0_21 : Nat) (h0_22 : Nat) (h0_23 : Nat) (h0_24 : Nat) (h0_25 : Nat) (h0_f26 : Int32) (h0_f27 : Int32) (h0_f28 : Int32) (h0_f29 : Int32) (h0_f30 : Int32) (h0_f31 : Int32) (h0_32 : Nat) (h0_33 : Nat) (h0_f34 : Int32) (h0_35 : Nat) (h0_36 : Nat) (h0_37 : Nat) (h0_38 : Nat) (h0_39 : Nat) (h0_40 : Nat) (h0_f41 : Int32) (h0_f42 : Int64) (h0_f43 : Int32) (h0_f44 : Int32) (h0_45 : Nat) (h0_46 : Nat) (h0_47 : Nat) (h0_48 : Nat) (h0_49 : Nat) (h0_50 : Nat) (h0_f51 : Int32) (h0_52 : Nat) (h0_f53 : Int32) (g_h0_f6 : RG h0_f6 0 240) (g_h0_f7 : RG h0_f7 0 4) (g_h0_f8 : RG h0_f8 0 720) (g_h0_f9 : RG h0_f9 0 240) (g_h0_f10 : RG h0_f10 0 240) (g_h0_f17 : RG h0_f17 0 1) (g_h0_f26 : RG h0_f26 0 8) (g_h0_f27 : RG h0_f27 0 3) (g_h0_f28 : RG h0_f28 0 8) (g_h0_f29 : RG h0_f29 0 3) (g_h0_f30 : RG h0_f30 0 4) (g_h0_f31 : RG h0_f31 0 1) (g_h0_f34 : RG h0_f34 (-1) 3) (g_h0_f41 : RG h0_f41 0 40) (g_h0_f51 : RG h0_f51 0 10) (g_h0_f53 : RG h0_f53 0 1) : Met l yX12_fails wf_c_X12_fails ({ frames := 0, cells := 0, slots := 0, locals := 0 }) (va_Pc [.ref h0] (fun U => U.heap.size = sz ∧ va_P (dC, dI) vwCl (wd_c_X12_fails h0 h0_f0 h0_1 h0_2 h0_3 h0_4 h0_5 h0_f6 h0_f7 h0_f8 h0_f9 h0_f10 (-1) h0_f12 h0_f13 h0_f14 h0_15 h0_16 h0_f17 h0_18 h0_19 h0_20 h0_21 h0_22 h0_23 h0_24 h0_25 h0_f26 h0_f27 h0_f28 h0_f29 h0_f30 h0_f31 h0_32 h0_33 h0_f34 h0_35 h0_36 h0_37 h0_38 h0_39 h0_40 h0_f41 h0_f42 h0_f43 h0_f44 h0_45 h0_46 h0_47 h0_48 h0_49 h0_50 h0_f51 h0_52 h0_f53) U.heap ∧ va_K (dC, dI) vwCl [] U ∧ va_D (fun _ => True) (wd_c_X12_fails h0 h0_f0 h0_1 h0_2 h0_3 h0_4 h0_5 h0_f6 h0_f7 h0_f8 h0_f9 h0_f10 (-1) h0_f12 h0_f13 h0_f14 h0_15 h0_16 h0_f17 h0_18 h0_19 h0_20 h0_21 h0_22 h0_23 h0_24 h0_25 h0_f26 h0_f27 h0_f28 h0_f29 h0_f30 h0_f31 h0_32 h0_33 h0_f34 h0_35 h0_36 h0_37 h0_38 h0_39 h0_40 h0_f41 h0_f42 h0_f43 h0_f44 h0_45 h0_46 h0_47 h0_48 h0_49 h0_50 h0_f51 h0_52 h0_f53))) (va_Qi (fun (r : Int32) (u : Unit) => (r = 0)) (fun (u : Unit) t => va_P (dC, dI) vwCl (wd_c_X12_fails h0 h0_f0 h0_1 h0_2 h0_3 h0_4 h0_5 h0_f6 h0_f7 h0_f8 h0_f9 h0_f10 h0_f10 h0_f12 h0_f13 h0_f14 h0_15 h0_16 h0_f17 h0_18 h0_19 h0_20 h0_21 h0_22 h0_23 h0_24 h0_25 h0_f26 h0_f27 h0_f28 h0_f29 h0_f30 h0_f31 h0_32 h0_33 h0_f34 h0_35 h0_36 h0_37 h0_38 h0_39 h0_40 h0_f41 h0_f42 h0_f43 h0_f44 h0_45 h0_46 h0_47 h0_48 h0_49 h0_50 h0_f51 h0_52 h0_f53) t.heap ∧ va_K (dC, dI) vwCl [] t ∧ va_D (va_A (wd_c_X12_fails h0 h0_f0 h0_1 h0_2 h0_3 h0_4 h0_5 h0_f6 h0_f7 h0_f8 h0_f9 h0_f10 (-1) h0_f12 h0_f13 h0_f14 h0_15 h0_16 h0_f17 h0_18 h0_19 h0_20 h0_21 h0_22 h0_23 h0_24 h0_25 h0_f26 h0_f27 h0_f28 h0_f29 h0_f30 h0_f31 h0_32 h0_33 h0_f34 h0_35 h0_36 h0_37 h0_38 h0_39 h0_40 h0_f41 h0_f42 h0_f43 h0_f44 h0_45 h0_46 h0_47 h0_48 h0_49 h0_50 h0_f51 h0_52 h0_f53) sz) (wd_c_X12_fails h0 h0_f0 h0_1 h0_2 h0_3 h0_4 h0_5 h0_f6 h0_f7 h0_f8 h0_f9 h0_f10 h0_f10 h0_f12 h0_f13 h0_f14 h0_15 h0_16 h0_f17 h0_18 h0_19 h0_20 h0_21 h0_22 h0_23 h0_24 h0_25 h0_f26 h0_f27 h0_f28 h0_f29 h0_f30 h0_f31 h0_32 h0_33 h0_f34 h0_35 h0_36 h0_37 h0_38 h0_39 h0_40 h0_f41 h0_f42 h0_f43 h0_f44 h0_45 h0_46 h0_47 h0_48 h0_49 h0_50 h0_f51 h0_52 h0_f53)) (va_A (wd_c_X12_fails h0 h0_f0 h0_1 h0_2 h0_3 h0_4 h0_5 h0_f6 h0_f7 h0_f8 h0_f9 h0_f10 (-1) h0_f12 h0_f13 h0_f14 h0_15 h0_16 h0_f17 h0_18 h0_19 h0_20 h0_21 h0_22 h0_23 h0_24 h0_25 h0_f26 h0_f27 h0_f28 h0_f29 h0_f30 h0_f31 h0_32 h0_33 h0_f34 h0_35 h0_36 h0_37 h0_38 h0_39 h0_40 h0_f41 h0_f42 h0_f43 h0_f44 h0_45 h0_46 h0_47 h0_48 h0_49 h0_50 h0_f51 h0_52 h0_f53) sz)) 0 0 (va_A (wd_c_X12_fails h0 h0_f0 h0_1 h0_2 h0_3 h0_4 h0_5 h0_f6 h0_f7 h0_f8 h0_f9 h0_f10 (-1) h0_f12 h0_f13 h0_f14 h0_15 h0_16 h0_f17 h0_18 h0_19 h0_20 h0_21 h0_22 h0_23 h0_24 h0_25 h0_f26 h0_f27 h0_f28 h0_f29 h0_f30 h0_f31 h0_32 h0_33 h0_f34 h0_35 h0_36 h0_37 h0_38 h0_39 h0_40 h0_f41 h0_f42 h0_f43 h0_f44 h0_45 h0_46 h0_47 h0_48 h0_49 h0_50 h0_f51 h0_52 h0_f53) sz) := by
  refine Met.ofW (cc := cX12_fails) (maxL := 1) (ret := (some .boolean)) (by decide +kernel) rfl ?_
  intro p e s m args below meth c s₁ B hml hv
  obtain ⟨rfl, hsz, hP, hK, hD0⟩ := hv
  have hx := B.exec
  have hb := B.bytes
  have hr := B.returns
  have hts := atoms_spec (ws := wf_c_X12_fails) B.pre
  have hown : s.vm.findClass RX12 = some m.cls := findClass_of_methodNamed B.named
  have hlocks := B.notSynchronized
  subst hsz
  have hD := hD0.self (sz := s.heap.size)
  generalize hAe : va_A (wd_c_X12_fails h0 h0_f0 h0_1 h0_2 h0_3 h0_4 h0_5 h0_f6 h0_f7 h0_f8 h0_f9 h0_f10 (-1) h0_f12 h0_f13 h0_f14 h0_15 h0_16 h0_f17 h0_18 h0_19 h0_20 h0_21 h0_22 h0_23 h0_24 h0_25 h0_f26 h0_f27 h0_f28 h0_f29 h0_f30 h0_f31 h0_32 h0_33 h0_f34 h0_35 h0_36 h0_37 h0_38 h0_39 h0_40 h0_f41 h0_f42 h0_f43 h0_f44 h0_45 h0_46 h0_47 h0_48 h0_49 h0_50 h0_f51 h0_52 h0_f53) s.heap.size = A at hD ⊢
  have hA : ∀ q : Nat, s.heap.size ≤ q → A q := fun q h => by rw [← hAe]; exact Or.inr h
  have hP : va_P (dC, dI) vwCl (wd_c_X12_fails h0 h0_f0 h0_1 h0_2 h0_3 h0_4 h0_5 h0_f6 h0_f7 h0_f8 h0_f9 h0_f10 (-1) h0_f12 h0_f13 h0_f14 h0_15 h0_16 h0_f17 h0_18 h0_19 h0_20 h0_21 h0_22 h0_23 h0_24 h0_25 h0_f26 h0_f27 h0_f28 h0_f29 h0_f30 h0_f31 h0_32 h0_33 h0_f34 h0_35 h0_36 h0_37 h0_38 h0_39 h0_40 h0_f41 h0_f42 h0_f43 h0_f44 h0_45 h0_46 h0_47 h0_48 h0_49 h0_50 h0_f51 h0_52 h0_f53) s.heap := hP
  have hl := lv_entry ([.ref h0]) (n := 1) (Nat.le_of_ble_eq_true rfl)
  rw [lg_entry_eq]
  generalize (lg_sl ([.ref h0]) ++ List.replicate (1 - (lg_sl ([.ref h0])).length) Slot.unset).toArray = ls at hl ⊢
  have hl : lv_has ls 1 [(0, .ref h0)] := hl
  obtain ⟨H, hHe⟩ : ∃ H : Heap, s.heap = H := ⟨_, rfl⟩
  have hS : va_S A s.heap H [] := by rw [hHe]; exact va_S.rf
  have hP : va_P (dC, dI) vwCl (wd_c_X12_fails h0 h0_f0 h0_1 h0_2 h0_3 h0_4 h0_5 h0_f6 h0_f7 h0_f8 h0_f9 h0_f10 (-1) h0_f12 h0_f13 h0_f14 h0_15 h0_16 h0_f17 h0_18 h0_19 h0_20 h0_21 h0_22 h0_23 h0_24 h0_25 h0_f26 h0_f27 h0_f28 h0_f29 h0_f30 h0_f31 h0_32 h0_33 h0_f34 h0_35 h0_36 h0_37 h0_38 h0_39 h0_40 h0_f41 h0_f42 h0_f43 h0_f44 h0_45 h0_46 h0_47 h0_48 h0_49 h0_50 h0_f51 h0_52 h0_f53) H := by rw [← hHe]; exact hP
  rw [hHe]
  refine lv_aload_n hx hb dX12_fails_0 rfl (lv_at hl 0 rfl) ?_
  as_aux_lemma =>
  refine va_get (D := (dC, dI)) (ci := 12) (v := .int (-1)) (C := RX12) (T := TX12) (N := 54) hx hb hts iw_c_X12_fails_X12 hown hK hP 0 rfl rfl 11 (by decide +kernel) (hts (.fieldLink RX12 143 "BuoyVoteModel" "fault" "I") (List.mem_of_getElem? (i := 1) rfl)) (fun _ h9 => h9) rfl dX12_fails_1 ?_
  refine lv_iconst (v := (-1)) hx hb dX12_fails_4 kc_iconst_m1 ?_
  refine lv_icmp_ne (tgt := 16) hx hb dX12_fails_5 rfl (fun c_1 => absurd c_1 (by decide +kernel)) (fun c_1 => ?_)
  refine lv_aload_n hx hb dX12_fails_8 rfl (lv_at hl 0 rfl) ?_
  refine lv_aload_n hx hb dX12_fails_9 rfl (lv_at hl 0 rfl) ?_
  refine va_get (D := (dC, dI)) (ci := 12) (v := .int h0_f10) (C := RX12) (T := TX12) (N := 54) hx hb hts iw_c_X12_fails_X12 hown hK hP 0 rfl rfl 10 (by decide +kernel) (hts (.fieldLink RX12 134 "BuoyVoteModel" "at" "I") (List.mem_of_getElem? (i := 2) rfl)) (fun _ h9 => h9) rfl dX12_fails_10 ?_
  refine va_put (D := (dC, dI)) (ci := 12) (v := .int h0_f10) (ty := .int) (C := RX12) (T := TX12) (N := 54) hx hb hts iw_c_X12_fails_X12 tyX12 tyX12_ok nmX12 hown hK hP hD hS 0 rfl rfl 11 (by decide +kernel) (hts (.fieldLink RX12 143 "BuoyVoteModel" "fault" "I") (List.mem_of_getElem? (i := 1) rfl)) (fun _ h9 => h9) rfl (by decide +kernel) rfl rfl (Nat.le_of_ble_eq_true rfl) dX12_fails_13 (fun H locs hP hD hS => ?_)
  have hP : va_P (dC, dI) vwCl (wd_c_X12_fails h0 h0_f0 h0_1 h0_2 h0_3 h0_4 h0_5 h0_f6 h0_f7 h0_f8 h0_f9 h0_f10 h0_f10 h0_f12 h0_f13 h0_f14 h0_15 h0_16 h0_f17 h0_18 h0_19 h0_20 h0_21 h0_22 h0_23 h0_24 h0_25 h0_f26 h0_f27 h0_f28 h0_f29 h0_f30 h0_f31 h0_32 h0_33 h0_f34 h0_35 h0_36 h0_37 h0_38 h0_39 h0_40 h0_f41 h0_f42 h0_f43 h0_f44 h0_45 h0_46 h0_47 h0_48 h0_49 h0_50 h0_f51 h0_52 h0_f53) H := hP
  have hD : va_D A (wd_c_X12_fails h0 h0_f0 h0_1 h0_2 h0_3 h0_4 h0_5 h0_f6 h0_f7 h0_f8 h0_f9 h0_f10 h0_f10 h0_f12 h0_f13 h0_f14 h0_15 h0_16 h0_f17 h0_18 h0_19 h0_20 h0_21 h0_22 h0_23 h0_24 h0_25 h0_f26 h0_f27 h0_f28 h0_f29 h0_f30 h0_f31 h0_32 h0_33 h0_f34 h0_35 h0_36 h0_37 h0_38 h0_39 h0_40 h0_f41 h0_f42 h0_f43 h0_f44 h0_45 h0_46 h0_47 h0_48 h0_49 h0_50 h0_f51 h0_52 h0_f53) := hD
  refine lv_iconst (v := 0) hx hb dX12_fails_16 kc_iconst_0 ?_
  have hK9 := hK.sub (tys' := []) [] rfl
  exact W.zret (v := 0) hx hb hr rfl (fun t ht hW => ⟨⟨0, (), rfl, rfl, by rw [ht]; exact hP, va_K.moved hW.alike hK9, hD⟩, hS.F ht⟩) hS.2.2 dX12_fails_17
noncomputable def wd_c_X12_here (a0 : Nat) (a1 : Int32) (a2 : Nat) (a3 : Nat) (a4 : Nat) (a5 : Nat) (a6 : Nat) (a7 : Int32) (a8 : Int32) (a9 : Int32) (a10 : Int32) (a11 : Int32) (a12 : Int32) (a13 : Int32) (a14 : Int32) (a15 : Int32) (a16 : Nat) (a17 : Nat) (a18 : Int32) (a19 : Nat) (a20 : Nat) (a21 : Nat) (a22 : Nat) (a23 : Nat) (a24 : Nat) (a25 : Nat) (a26 : Nat) (a27 : Int32) (a28 : Int32) (a29 : Int32) (a30 : Int32) (a31 : Int32) (a32 : Int32) (a33 : Nat) (a34 : Nat) (a35 : Int32) (a36 : Nat) (a37 : Nat) (a38 : Nat) (a39 : Nat) (a40 : Nat) (a41 : Nat) (a42 : Int32) (a43 : Int64) (a44 : Int32) (a45 : Int32) (a46 : Nat) (a47 : Nat) (a48 : Nat) (a49 : Nat) (a50 : Nat) (a51 : Nat) (a52 : Int32) (a53 : Nat) (a54 : Int32) (a55 : Nat) (a56 : ClassId) (a57 : Nat) (a58 : Nat → Int32) : va_W := [(a0, .inr (12, [.int a1, .ref a2, .ref a3, .ref a4, .ref a5, .ref a6, .int a7, .int a8, .int a9, .int a10, .int a11, .int a12, .int a13, .int a14, .int a15, .ref a16, .ref a17, .int a18, .ref a19, .ref a20, .ref a21, .ref a22, .ref a23, .ref a24, .ref a25, .ref a26, .int a27, .int a28, .int a29, .int a30, .int a31, .int a32, .ref a33, .ref a34, .int a35, .ref a36, .ref a37, .ref a38, .ref a39, .ref a40, .ref a41, .int a42, .long a43, .int a44, .int a45, .ref a46, .ref a47, .ref a48, .ref a49, .ref a50, .ref a51, .int a52, .ref a53, .int a54])), (a55, .inl (a56, a57, .inl a58))]
noncomputable def wf_c_X12_here : List Cond := List.cons (.code yX12_here cX12_here 1 (some .int)) (@HAppend.hAppend (List Cond) (List Cond) (List Cond) _ [.fieldLink RX12 134 "BuoyVoteModel" "at" "I", .fieldLink RX12 137 "BuoyVoteModel" "ends" "I", .fieldLink RX12 23 "BuoyVoteModel" "text" "[B", .fieldLink RX12 140 "BuoyVoteModel" "begins" "I"] wsX120)
theorem iw_c_X12_here_X12 : ∀ w ∈ wsX120, w ∈ wf_c_X12_here := fun w h => List.mem_cons_of_mem _ (List.mem_append_right _ h)
set_option maxHeartbeats 4000000 in
set_option maxRecDepth 100000 in
theorem c_X12_here (l : Launch) (dC : Nat → ClassId) (dI : Nat → Nat → Nat) (sz : Nat) (h0 : Nat) (h0_f0 : Int32) (h0_1 : Nat) (h0_2 : Nat) (h0_3 : Nat) (h0_4 : Nat) (h0_5 : Nat) (h0_f6 : Int32) (h0_f7 : Int32) (h0_f8 : Int32) (h0_f9 : Int32) (h0_f10 : Int32) (h0_f12 : Int32) (h0_f13 : Int32) (h0_f14 : Int32) (h0_15 : Nat) (h0_16 : Nat) (h0_f17 : Int32) (h0_18 : Nat) (h0_19 : Nat) (h0_20 : Nat) (h0_21 : Nat) (h0_22 : Nat) (h0_23 : Nat) (h0_24 : Nat) (h0_25 : Nat) (h0_f26 : Int32) (h0_f27 : Int32) (h0_f28 : Int32) (h0_f29 : Int32) (h0_f30 : Int32) (h0_f31 : Int32) (h0_32 : Nat) (h0_33 : Nat) (h0_f34 : Int32) (h0_35 : Nat) (h0_36 : Nat) (h0_37 : Nat) (h0_38 : Nat) (h0_39 : Nat) (h0_40 : Nat) (h0_f41 : Int32) (h0_f42 : Int64) (h0_f43 : Int32) (h0_f44 : Int32) (h0_45 : Nat) (h0_46 : Nat) (h0_47 : Nat) (h0_48 : Nat) (h0_49 : Nat) (h0_50 : Nat) (h0_f51 : Int32) (h0_52 : Nat) (h0_f53 : Int32) (h0_5k : ClassId) (h0_5c : Nat → Int32) (tN : Nat) (g_h0_f6 : RG h0_f6 0 240) (g_h0_f7 : RG h0_f7 0 4) (g_h0_f8 : RG h0_f8 0 720) (g_h0_f9 : RG h0_f9 0 240) (g_h0_f10 : RG h0_f10 0 240) (g_h0_f17 : RG h0_f17 0 1) (g_h0_f26 : RG h0_f26 0 8) (g_h0_f27 : RG h0_f27 0 3) (g_h0_f28 : RG h0_f28 0 8) (g_h0_f29 : RG h0_f29 0 3) (g_h0_f30 : RG h0_f30 0 4) (g_h0_f31 : RG h0_f31 0 1) (g_h0_f34 : RG h0_f34 (-1) 3) (g_h0_f41 : RG h0_f41 0 40) (g_h0_f51 : RG h0_f51 0 10) (g_h0_f53 : RG h0_f53 0 1) (htN : h0_f8.toInt + 240 ≤ (tN : Int)) : Met l yX12_here wf_c_X12_here ({ frames := 0, cells := 0, slots := 0, locals := 0 }) (va_Pc [.ref h0] (fun U => U.heap.size = sz ∧ va_P (dC, dI) vwCl (wd_c_X12_here h0 h0_f0 h0_1 h0_2 h0_3 h0_4 h0_5 h0_f6 h0_f7 h0_f8 h0_f9 h0_f10 (-1) h0_f12 h0_f13 h0_f14 h0_15 h0_16 h0_f17 h0_18 h0_19 h0_20 h0_21 h0_22 h0_23 h0_24 h0_25 h0_f26 h0_f27 h0_f28 h0_f29 h0_f30 h0_f31 h0_32 h0_33 h0_f34 h0_35 h0_36 h0_37 h0_38 h0_39 h0_40 h0_f41 h0_f42 h0_f43 h0_f44 h0_45 h0_46 h0_47 h0_48 h0_49 h0_50 h0_f51 h0_52 h0_f53 h0_5 h0_5k tN h0_5c) U.heap ∧ va_K (dC, dI) vwCl [(h0_5k, .byte)] U ∧ va_D (fun _ => True) (wd_c_X12_here h0 h0_f0 h0_1 h0_2 h0_3 h0_4 h0_5 h0_f6 h0_f7 h0_f8 h0_f9 h0_f10 (-1) h0_f12 h0_f13 h0_f14 h0_15 h0_16 h0_f17 h0_18 h0_19 h0_20 h0_21 h0_22 h0_23 h0_24 h0_25 h0_f26 h0_f27 h0_f28 h0_f29 h0_f30 h0_f31 h0_32 h0_33 h0_f34 h0_35 h0_36 h0_37 h0_38 h0_39 h0_40 h0_f41 h0_f42 h0_f43 h0_f44 h0_45 h0_46 h0_47 h0_48 h0_49 h0_50 h0_f51 h0_52 h0_f53 h0_5 h0_5k tN h0_5c))) (va_Qi (fun (r : Int32) (u : Unit) => (r = (-1) ∧ h0_f9.toInt ≤ h0_f10.toInt + 0 ∧ (r = (-1) ∨ r = h0_5c (h0_f8 + h0_f10).toNatClampNeg &&& 255)) ∨ (RG r 0 255 ∧ RG h0_f10 0 239 ∧ RG h0_f9 1 240 ∧ (r = (-1) ∨ r = h0_5c (h0_f8 + h0_f10).toNatClampNeg &&& 255))) (fun (u : Unit) t => va_P (dC, dI) vwCl (wd_c_X12_here h0 h0_f0 h0_1 h0_2 h0_3 h0_4 h0_5 h0_f6 h0_f7 h0_f8 h0_f9 h0_f10 (-1) h0_f12 h0_f13 h0_f14 h0_15 h0_16 h0_f17 h0_18 h0_19 h0_20 h0_21 h0_22 h0_23 h0_24 h0_25 h0_f26 h0_f27 h0_f28 h0_f29 h0_f30 h0_f31 h0_32 h0_33 h0_f34 h0_35 h0_36 h0_37 h0_38 h0_39 h0_40 h0_f41 h0_f42 h0_f43 h0_f44 h0_45 h0_46 h0_47 h0_48 h0_49 h0_50 h0_f51 h0_52 h0_f53 h0_5 h0_5k tN h0_5c) t.heap ∧ va_K (dC, dI) vwCl [] t ∧ va_D (va_A (wd_c_X12_here h0 h0_f0 h0_1 h0_2 h0_3 h0_4 h0_5 h0_f6 h0_f7 h0_f8 h0_f9 h0_f10 (-1) h0_f12 h0_f13 h0_f14 h0_15 h0_16 h0_f17 h0_18 h0_19 h0_20 h0_21 h0_22 h0_23 h0_24 h0_25 h0_f26 h0_f27 h0_f28 h0_f29 h0_f30 h0_f31 h0_32 h0_33 h0_f34 h0_35 h0_36 h0_37 h0_38 h0_39 h0_40 h0_f41 h0_f42 h0_f43 h0_f44 h0_45 h0_46 h0_47 h0_48 h0_49 h0_50 h0_f51 h0_52 h0_f53 h0_5 h0_5k tN h0_5c) sz) (wd_c_X12_here h0 h0_f0 h0_1 h0_2 h0_3 h0_4 h0_5 h0_f6 h0_f7 h0_f8 h0_f9 h0_f10 (-1) h0_f12 h0_f13 h0_f14 h0_15 h0_16 h0_f17 h0_18 h0_19 h0_20 h0_21 h0_22 h0_23 h0_24 h0_25 h0_f26 h0_f27 h0_f28 h0_f29 h0_f30 h0_f31 h0_32 h0_33 h0_f34 h0_35 h0_36 h0_37 h0_38 h0_39 h0_40 h0_f41 h0_f42 h0_f43 h0_f44 h0_45 h0_46 h0_47 h0_48 h0_49 h0_50 h0_f51 h0_52 h0_f53 h0_5 h0_5k tN h0_5c)) (va_A (wd_c_X12_here h0 h0_f0 h0_1 h0_2 h0_3 h0_4 h0_5 h0_f6 h0_f7 h0_f8 h0_f9 h0_f10 (-1) h0_f12 h0_f13 h0_f14 h0_15 h0_16 h0_f17 h0_18 h0_19 h0_20 h0_21 h0_22 h0_23 h0_24 h0_25 h0_f26 h0_f27 h0_f28 h0_f29 h0_f30 h0_f31 h0_32 h0_33 h0_f34 h0_35 h0_36 h0_37 h0_38 h0_39 h0_40 h0_f41 h0_f42 h0_f43 h0_f44 h0_45 h0_46 h0_47 h0_48 h0_49 h0_50 h0_f51 h0_52 h0_f53 h0_5 h0_5k tN h0_5c) sz)) 0 0 (va_A (wd_c_X12_here h0 h0_f0 h0_1 h0_2 h0_3 h0_4 h0_5 h0_f6 h0_f7 h0_f8 h0_f9 h0_f10 (-1) h0_f12 h0_f13 h0_f14 h0_15 h0_16 h0_f17 h0_18 h0_19 h0_20 h0_21 h0_22 h0_23 h0_24 h0_25 h0_f26 h0_f27 h0_f28 h0_f29 h0_f30 h0_f31 h0_32 h0_33 h0_f34 h0_35 h0_36 h0_37 h0_38 h0_39 h0_40 h0_f41 h0_f42 h0_f43 h0_f44 h0_45 h0_46 h0_47 h0_48 h0_49 h0_50 h0_f51 h0_52 h0_f53 h0_5 h0_5k tN h0_5c) sz) := by
  refine Met.ofW (cc := cX12_here) (maxL := 1) (ret := (some .int)) (by decide +kernel) rfl ?_
  intro p e s m args below meth c s₁ B hml hv
  obtain ⟨rfl, hsz, hP, hK, hD0⟩ := hv
  have hx := B.exec
  have hb := B.bytes
  have hr := B.returns
  have hts := atoms_spec (ws := wf_c_X12_here) B.pre
  have hown : s.vm.findClass RX12 = some m.cls := findClass_of_methodNamed B.named
  have hlocks := B.notSynchronized
  subst hsz
  have hD := hD0.self (sz := s.heap.size)
  generalize hAe : va_A (wd_c_X12_here h0 h0_f0 h0_1 h0_2 h0_3 h0_4 h0_5 h0_f6 h0_f7 h0_f8 h0_f9 h0_f10 (-1) h0_f12 h0_f13 h0_f14 h0_15 h0_16 h0_f17 h0_18 h0_19 h0_20 h0_21 h0_22 h0_23 h0_24 h0_25 h0_f26 h0_f27 h0_f28 h0_f29 h0_f30 h0_f31 h0_32 h0_33 h0_f34 h0_35 h0_36 h0_37 h0_38 h0_39 h0_40 h0_f41 h0_f42 h0_f43 h0_f44 h0_45 h0_46 h0_47 h0_48 h0_49 h0_50 h0_f51 h0_52 h0_f53 h0_5 h0_5k tN h0_5c) s.heap.size = A at hD ⊢
  have hA : ∀ q : Nat, s.heap.size ≤ q → A q := fun q h => by rw [← hAe]; exact Or.inr h
  have hP : va_P (dC, dI) vwCl (wd_c_X12_here h0 h0_f0 h0_1 h0_2 h0_3 h0_4 h0_5 h0_f6 h0_f7 h0_f8 h0_f9 h0_f10 (-1) h0_f12 h0_f13 h0_f14 h0_15 h0_16 h0_f17 h0_18 h0_19 h0_20 h0_21 h0_22 h0_23 h0_24 h0_25 h0_f26 h0_f27 h0_f28 h0_f29 h0_f30 h0_f31 h0_32 h0_33 h0_f34 h0_35 h0_36 h0_37 h0_38 h0_39 h0_40 h0_f41 h0_f42 h0_f43 h0_f44 h0_45 h0_46 h0_47 h0_48 h0_49 h0_50 h0_f51 h0_52 h0_f53 h0_5 h0_5k tN h0_5c) s.heap := hP
  have hl := lv_entry ([.ref h0]) (n := 1) (Nat.le_of_ble_eq_true rfl)
  rw [lg_entry_eq]
  generalize (lg_sl ([.ref h0]) ++ List.replicate (1 - (lg_sl ([.ref h0])).length) Slot.unset).toArray = ls at hl ⊢
  have hl : lv_has ls 1 [(0, .ref h0)] := hl
  obtain ⟨H, hHe⟩ : ∃ H : Heap, s.heap = H := ⟨_, rfl⟩
  have hS : va_S A s.heap H [] := by rw [hHe]; exact va_S.rf
  have hP : va_P (dC, dI) vwCl (wd_c_X12_here h0 h0_f0 h0_1 h0_2 h0_3 h0_4 h0_5 h0_f6 h0_f7 h0_f8 h0_f9 h0_f10 (-1) h0_f12 h0_f13 h0_f14 h0_15 h0_16 h0_f17 h0_18 h0_19 h0_20 h0_21 h0_22 h0_23 h0_24 h0_25 h0_f26 h0_f27 h0_f28 h0_f29 h0_f30 h0_f31 h0_32 h0_33 h0_f34 h0_35 h0_36 h0_37 h0_38 h0_39 h0_40 h0_f41 h0_f42 h0_f43 h0_f44 h0_45 h0_46 h0_47 h0_48 h0_49 h0_50 h0_f51 h0_52 h0_f53 h0_5 h0_5k tN h0_5c) H := by rw [← hHe]; exact hP
  rw [hHe]
  refine lv_aload_n hx hb dX12_here_0 rfl (lv_at hl 0 rfl) ?_
  as_aux_lemma =>
  refine va_get (D := (dC, dI)) (ci := 12) (v := .int h0_f10) (C := RX12) (T := TX12) (N := 54) hx hb hts iw_c_X12_here_X12 hown hK hP 0 rfl rfl 10 (by decide +kernel) (hts (.fieldLink RX12 134 "BuoyVoteModel" "at" "I") (List.mem_of_getElem? (i := 1) rfl)) (fun _ h9 => h9) rfl dX12_here_1 ?_
  refine lv_aload_n hx hb dX12_here_4 rfl (lv_at hl 0 rfl) ?_
  refine va_get (D := (dC, dI)) (ci := 12) (v := .int h0_f9) (C := RX12) (T := TX12) (N := 54) hx hb hts iw_c_X12_here_X12 hown hK hP 0 rfl rfl 9 (by decide +kernel) (hts (.fieldLink RX12 137 "BuoyVoteModel" "ends" "I") (List.mem_of_getElem? (i := 2) rfl)) (fun _ h9 => h9) rfl dX12_here_5 ?_
  refine lv_icmp_ge (tgt := 32) hx hb dX12_here_8 rfl (fun c_1 => ?_) (fun c_1 => ?_)
  · have b_2 : h0_f9.toInt ≤ h0_f10.toInt + 0 := by have := Int32.le_iff_toInt_le.mp c_1; omega
    refine lv_iconst (v := (-1)) hx hb dX12_here_32 kc_iconst_m1 ?_
    have hK9 := hK.sub (tys' := []) [] rfl
    exact W.iret (v := (-1)) hx hb hr (fun t ht hW => ⟨⟨(-1), (), rfl, (Or.inl ⟨rfl, (by have := b_2; have := (g_h0_f9).2; have := (g_h0_f10).1; show h0_f9.toInt ≤ h0_f10.toInt + 0; omega), (Or.inl rfl)⟩), by rw [ht]; exact hP, va_K.moved hW.alike hK9, hD⟩, hS.F ht⟩) hS.2.2 dX12_here_33
  · have d_3 := Int32.not_le.mp c_1
    have b_4 : h0_f10.toInt ≤ h0_f9.toInt + (-1) := by have := Int32.lt_iff_toInt_lt.mp d_3; omega
    have g_5 : RG h0_f10 0 239 := RG_lt1 g_h0_f10 g_h0_f9 d_3 (by decide +kernel)
    have g_6 : RG h0_f9 1 240 := RG_lt2 g_h0_f10 g_h0_f9 d_3 (by decide +kernel)
    refine lv_aload_n hx hb dX12_here_11 rfl (lv_at hl 0 rfl) ?_
    refine va_get (D := (dC, dI)) (ci := 12) (v := .ref h0_5) (C := RX12) (T := TX12) (N := 54) hx hb hts iw_c_X12_here_X12 hown hK hP 0 rfl rfl 5 (by decide +kernel) (hts (.fieldLink RX12 23 "BuoyVoteModel" "text" "[B") (List.mem_of_getElem? (i := 3) rfl)) (fun _ h9 => h9) rfl dX12_here_12 ?_
    as_aux_lemma =>
    refine lv_aload_n hx hb dX12_here_15 rfl (lv_at hl 0 rfl) ?_
    refine va_get (D := (dC, dI)) (ci := 12) (v := .int h0_f8) (C := RX12) (T := TX12) (N := 54) hx hb hts iw_c_X12_here_X12 hown hK hP 0 rfl rfl 8 (by decide +kernel) (hts (.fieldLink RX12 140 "BuoyVoteModel" "begins" "I") (List.mem_of_getElem? (i := 4) rfl)) (fun _ h9 => h9) rfl dX12_here_16 ?_
    refine lv_aload_n hx hb dX12_here_19 rfl (lv_at hl 0 rfl) ?_
    refine va_get (D := (dC, dI)) (ci := 12) (v := .int h0_f10) (C := RX12) (T := TX12) (N := 54) hx hb hts iw_c_X12_here_X12 hown hK hP 0 rfl rfl 10 (by decide +kernel) (hts (.fieldLink RX12 134 "BuoyVoteModel" "at" "I") (List.mem_of_getElem? (i := 1) rfl)) (fun _ h9 => h9) rfl dX12_here_20 ?_
    refine lv_iadd hx hb dX12_here_23 ?_
    refine lv_topi (fun x_7 ex_7 => ?_)
    have g_8 : RG x_7 0 959 := RG_add ex_7 g_h0_f8 g_5 (by decide +kernel)
    refine va_bald hx hb hK hP 1 0 rfl rfl (vp_in_iff.mpr ⟨by have := (g_8).1; omega, by have := eq_add2 ex_7 g_h0_f8 g_5 (by decide +kernel); have := htN; have := (g_5).2; omega⟩) dX12_here_24 ?_
    refine lv_topi (fun x_9 ex_9 => ?_)
    refine lv_sipush (v := 255) hx hb dX12_here_25 kc_sipush_255 ?_
    refine lv_iand hx hb dX12_here_28 ?_
    refine lv_topi (fun x_10 ex_10 => ?_)
    have g_11 : RG x_10 0 255 := RG_andr ex_10 (RG_k 255 255 rfl) (by decide +kernel)
    refine lv_goto (tgt := 33) hx hb dX12_here_29 rfl ?_
    as_aux_lemma =>
    have hK9 := hK.sub (tys' := []) [] rfl
    exact W.iret (v := x_10) hx hb hr (fun t ht hW => ⟨⟨x_10, (), rfl, (Or.inr ⟨g_11, g_5, g_6, (Or.inr (by rw [ex_10, ex_9, ex_7]))⟩), by rw [ht]; exact hP, va_K.moved hW.alike hK9, hD⟩, hS.F ht⟩) hS.2.2 dX12_here_33
noncomputable def wf_c_X12_isIn_1 : List Cond := .code yX12_isIn cX12_isIn 6 (some .boolean) :: ([])
set_option maxHeartbeats 4000000 in
set_option maxRecDepth 100000 in
theorem c_X12_isIn_1 (l : Launch) (dC : Nat → ClassId) (dI : Nat → Nat → Nat) (sz : Nat) (p0 : Int64) (g_p0 : LG p0 0 99) : Met l yX12_isIn wf_c_X12_isIn_1 ({ frames := 0, cells := 0, slots := 0, locals := 0 }) (va_Pc [.long p0, .long 0, .long 9] (fun U => U.heap.size = sz ∧ va_P (dC, dI) vwCl [] U.heap ∧ va_K (dC, dI) vwCl [] U ∧ va_D (fun _ => True) [])) (va_Qi (fun (r : Int32) (u : Unit) => (r = 0 ∧ LG p0 10 99) ∨ (r = 1 ∧ LG p0 0 9)) (fun (u : Unit) t => va_P (dC, dI) vwCl [] t.heap ∧ va_K (dC, dI) vwCl [] t ∧ va_D (va_A [] sz) []) (va_A [] sz)) 0 0 (va_A [] sz) := by
  refine Met.ofW (cc := cX12_isIn) (maxL := 6) (ret := (some .boolean)) (by decide +kernel) rfl ?_
  intro p e s m args below meth c s₁ B hml hv
  obtain ⟨rfl, hsz, hP, hK, hD0⟩ := hv
  have hx := B.exec
  have hb := B.bytes
  have hr := B.returns
  have hts := atoms_spec (ws := wf_c_X12_isIn_1) B.pre
  have hown : s.vm.findClass RX12 = some m.cls := findClass_of_methodNamed B.named
  have hlocks := B.notSynchronized
  subst hsz
  have hD := hD0.self (sz := s.heap.size)
  generalize hAe : va_A [] s.heap.size = A at hD ⊢
  have hA : ∀ q : Nat, s.heap.size ≤ q → A q := fun q h => by rw [← hAe]; exact Or.inr h
  have hP : va_P (dC, dI) vwCl [] s.heap := hP
  have hl := lv_entry ([.long p0, .long 0, .long 9]) (n := 6) (Nat.le_of_ble_eq_true rfl)
  rw [lg_entry_eq]
  generalize (lg_sl ([.long p0, .long 0, .long 9]) ++ List.replicate (6 - (lg_sl ([.long p0, .long 0, .long 9])).length) Slot.unset).toArray = ls at hl ⊢
  have hl : lv_has ls 6 [(0, .long p0), (2, .long 0), (4, .long 9)] := hl
  obtain ⟨H, hHe⟩ : ∃ H : Heap, s.heap = H := ⟨_, rfl⟩
  have hS : va_S A s.heap H [] := by rw [hHe]; exact va_S.rf
  have hP : va_P (dC, dI) vwCl [] H := by rw [← hHe]; exact hP
  rw [hHe]
  refine lv_lload_n hx hb dX12_isIn_0 rfl (lv_at hl 0 rfl) ?_
  as_aux_lemma =>
  refine lv_lload_n hx hb dX12_isIn_1 rfl (lv_at hl 1 rfl) ?_
  refine W.lcmp hx hb dX12_isIn_2 ?_
  refine lv_if_lt (tgt := 17) hx hb dX12_isIn_3 rfl (fun c_1 => ?_) (fun c_1 => ?_)
  · replace c_1 := lc_lt_t c_1
    exact LG_dead (LG_lt1 g_p0 (LG_k 0 0 rfl) c_1 (b' := (-1)) (by decide +kernel)) (by decide +kernel)
  · replace c_1 := lc_lt_f c_1
    have d_2 := Int64.not_lt.mp c_1
    refine lv_lload_n hx hb dX12_isIn_6 rfl (lv_at hl 0 rfl) ?_
    refine lv_lload hx hb dX12_isIn_7 (lv_at hl 2 rfl) ?_
    refine W.lcmp hx hb dX12_isIn_9 ?_
    refine lv_if_gt (tgt := 17) hx hb dX12_isIn_10 rfl (fun c_3 => ?_) (fun c_3 => ?_)
    · replace c_3 := lc_gt_t c_3
      have g_4 : LG p0 10 99 := LG_lt2 (LG_k 9 9 rfl) g_p0 c_3 (by decide +kernel)
      refine lv_iconst (v := 0) hx hb dX12_isIn_17 kc_iconst_0 ?_
      as_aux_lemma =>
      have hK9 := hK.sub (tys' := []) [] rfl
      exact W.zret (v := 0) hx hb hr rfl (fun t ht hW => ⟨⟨0, (), rfl, (Or.inl ⟨rfl, g_4⟩), by rw [ht]; exact hP, va_K.moved hW.alike hK9, hD⟩, hS.F ht⟩) hS.2.2 dX12_isIn_18
    · replace c_3 := lc_gt_f c_3
      have d_5 := Int64.not_lt.mp c_3
      have g_6 : LG p0 0 9 := LG_le1 g_p0 (LG_k 9 9 rfl) d_5 (by decide +kernel)
      refine lv_iconst (v := 1) hx hb dX12_isIn_13 kc_iconst_1 ?_
      refine lv_goto (tgt := 18) hx hb dX12_isIn_14 rfl ?_
      have hK9 := hK.sub (tys' := []) [] rfl
      exact W.zret (v := 1) hx hb hr rfl (fun t ht hW => ⟨⟨1, (), rfl, (Or.inr ⟨rfl, g_6⟩), by rw [ht]; exact hP, va_K.moved hW.alike hK9, hD⟩, hS.F ht⟩) hS.2.2 dX12_isIn_18
noncomputable def wd_c_X12_number (a0 : Nat) (a1 : Int32) (a2 : Nat) (a3 : Nat) (a4 : Nat) (a5 : Nat) (a6 : Nat) (a7 : Int32) (a8 : Int32) (a9 : Int32) (a10 : Int32) (a11 : Int32) (a12 : Int32) (a13 : Int32) (a14 : Int32) (a15 : Int32) (a16 : Nat) (a17 : Nat) (a18 : Int32) (a19 : Nat) (a20 : Nat) (a21 : Nat) (a22 : Nat) (a23 : Nat) (a24 : Nat) (a25 : Nat) (a26 : Nat) (a27 : Int32) (a28 : Int32) (a29 : Int32) (a30 : Int32) (a31 : Int32) (a32 : Int32) (a33 : Nat) (a34 : Nat) (a35 : Int32) (a36 : Nat) (a37 : Nat) (a38 : Nat) (a39 : Nat) (a40 : Nat) (a41 : Nat) (a42 : Int32) (a43 : Int64) (a44 : Int32) (a45 : Int32) (a46 : Nat) (a47 : Nat) (a48 : Nat) (a49 : Nat) (a50 : Nat) (a51 : Nat) (a52 : Int32) (a53 : Nat) (a54 : Int32) (a55 : Nat) (a56 : ClassId) (a57 : Nat) (a58 : Nat → Int32) : va_W := [(a0, .inr (12, [.int a1, .ref a2, .ref a3, .ref a4, .ref a5, .ref a6, .int a7, .int a8, .int a9, .int a10, .int a11, .int a12, .int a13, .int a14, .int a15, .ref a16, .ref a17, .int a18, .ref a19, .ref a20, .ref a21, .ref a22, .ref a23, .ref a24, .ref a25, .ref a26, .int a27, .int a28, .int a29, .int a30, .int a31, .int a32, .ref a33, .ref a34, .int a35, .ref a36, .ref a37, .ref a38, .ref a39, .ref a40, .ref a41, .int a42, .long a43, .int a44, .int a45, .ref a46, .ref a47, .ref a48, .ref a49, .ref a50, .ref a51, .int a52, .ref a53, .int a54])), (a55, .inl (a56, a57, .inl a58))]
noncomputable def wf_c_X12_number : List Cond := List.cons (.code yX12_number cX12_number 5 (some .int)) (@HAppend.hAppend (List Cond) (List Cond) (List Cond) _ [.methodLink RX12 153 yX12_look, .instanceMethod yX12_look, .selects RX12 yX12_look yX12_look, .initialized RX12, .code yX12_look cX12_look 1 (some .int), .fieldLink RX12 134 "BuoyVoteModel" "at" "I", .fieldLink RX12 137 "BuoyVoteModel" "ends" "I", .fieldLink RX12 23 "BuoyVoteModel" "text" "[B", .fieldLink RX12 140 "BuoyVoteModel" "begins" "I", .methodLink RX12 183 yX12_isDigit, .instanceMethod yX12_isDigit, .selects RX12 yX12_isDigit yX12_isDigit, .code yX12_isDigit cX12_isDigit 1 (some .boolean), .methodLink RX12 149 yX12_fails, .instanceMethod yX12_fails, .selects RX12 yX12_fails yX12_fails, .code yX12_fails cX12_fails 1 (some .boolean), .fieldLink RX12 143 "BuoyVoteModel" "fault" "I", .methodLink RX12 229 yX12_here, .instanceMethod yX12_here, .selects RX12 yX12_here yX12_here, .code yX12_here cX12_here 1 (some .int), .methodLink RX12 232 yX12_isIn, .static yX12_isIn, .code yX12_isIn cX12_isIn 6 (some .boolean)] wsX120)
theorem iw_c_X12_number_X12 : ∀ w ∈ wsX120, w ∈ wf_c_X12_number := fun w h => List.mem_cons_of_mem _ (List.mem_append_right _ h)
set_option maxRecDepth 20000 in
theorem gf_c_X12_number_c_X12_isDigit : GoodIn wf_c_X12_number (wsV RX12 183 RX12 yX12_isDigit wf_c_X12_isDigit) := goodIn_app (gi_l [10, 11, 12, 4] rfl rfl) (gi_cons (j := 13) rfl rfl (goodIn_app (gi_l [6, 7, 8, 9] rfl rfl) (goodIn_sub iw_c_X12_number_X12 gw_X12)))
set_option maxRecDepth 20000 in
theorem gf_c_X12_number_c_X12_isIn_1 : GoodIn wf_c_X12_number (va_wsS RX12 232 yX12_isIn wf_c_X12_isIn_1) := goodIn_app (gi_l [23, 24, 4] rfl rfl) (gi_cons (j := 25) rfl rfl gi_nil)
set_option maxRecDepth 20000 in
theorem gf_c_X12_number_c_X12_fails : GoodIn wf_c_X12_number (wsV RX12 149 RX12 yX12_fails wf_c_X12_fails) := goodIn_app (gi_l [14, 15, 16, 4] rfl rfl) (gi_cons (j := 17) rfl rfl (goodIn_app (gi_l [18, 6] rfl rfl) (goodIn_sub iw_c_X12_number_X12 gw_X12)))
set_option maxRecDepth 20000 in
theorem gf_c_X12_number_c_X12_look : GoodIn wf_c_X12_number (wsV RX12 153 RX12 yX12_look wf_c_X12_look) := goodIn_app (gi_l [1, 2, 3, 4] rfl rfl) (gi_cons (j := 5) rfl rfl (goodIn_app (gi_l [6, 7, 8, 9] rfl rfl) (goodIn_sub iw_c_X12_number_X12 gw_X12)))
set_option maxRecDepth 20000 in
theorem gf_c_X12_number_c_X12_here : GoodIn wf_c_X12_number (wsV RX12 229 RX12 yX12_here wf_c_X12_here) := goodIn_app (gi_l [19, 20, 21, 4] rfl rfl) (gi_cons (j := 22) rfl rfl (goodIn_app (gi_l [6, 7, 8, 9] rfl rfl) (goodIn_sub iw_c_X12_number_X12 gw_X12)))
set_option maxHeartbeats 4000000 in
set_option maxRecDepth 100000 in
theorem c_X12_number (l : Launch) (dC : Nat → ClassId) (dI : Nat → Nat → Nat) (sz : Nat) (h0 : Nat) (h0_f0 : Int32) (h0_1 : Nat) (h0_2 : Nat) (h0_3 : Nat) (h0_4 : Nat) (h0_5 : Nat) (h0_f6 : Int32) (h0_f7 : Int32) (h0_f8 : Int32) (h0_f9 : Int32) (h0_f10 : Int32) (h0_f12 : Int32) (h0_f13 : Int32) (h0_f14 : Int32) (h0_15 : Nat) (h0_16 : Nat) (h0_f17 : Int32) (h0_18 : Nat) (h0_19 : Nat) (h0_20 : Nat) (h0_21 : Nat) (h0_22 : Nat) (h0_23 : Nat) (h0_24 : Nat) (h0_25 : Nat) (h0_f26 : Int32) (h0_f27 : Int32) (h0_f28 : Int32) (h0_f29 : Int32) (h0_f30 : Int32) (h0_f31 : Int32) (h0_32 : Nat) (h0_33 : Nat) (h0_f34 : Int32) (h0_35 : Nat) (h0_36 : Nat) (h0_37 : Nat) (h0_38 : Nat) (h0_39 : Nat) (h0_40 : Nat) (h0_f41 : Int32) (h0_f42 : Int64) (h0_f43 : Int32) (h0_f44 : Int32) (h0_45 : Nat) (h0_46 : Nat) (h0_47 : Nat) (h0_48 : Nat) (h0_49 : Nat) (h0_50 : Nat) (h0_f51 : Int32) (h0_52 : Nat) (h0_f53 : Int32) (h0_5k : ClassId) (h0_5c : Nat → Int32) (tN : Nat) (g_h0_f6 : RG h0_f6 0 240) (g_h0_f7 : RG h0_f7 0 4) (g_h0_f8 : RG h0_f8 0 720) (g_h0_f9 : RG h0_f9 0 240) (g_h0_f10 : RG h0_f10 0 240) (g_h0_f17 : RG h0_f17 0 1) (g_h0_f26 : RG h0_f26 0 8) (g_h0_f27 : RG h0_f27 0 3) (g_h0_f28 : RG h0_f28 0 8) (g_h0_f29 : RG h0_f29 0 3) (g_h0_f30 : RG h0_f30 0 4) (g_h0_f31 : RG h0_f31 0 1) (g_h0_f34 : RG h0_f34 (-1) 3) (g_h0_f41 : RG h0_f41 0 40) (g_h0_f51 : RG h0_f51 0 10) (g_h0_f53 : RG h0_f53 0 1) (htN : h0_f8.toInt + 240 ≤ (tN : Int)) : Met l yX12_number wf_c_X12_number ({ frames := 1, cells := 0, slots := 0, locals := 25 }) (va_Pc [.ref h0, .int 0, .int 9] (fun U => U.heap.size = sz ∧ va_P (dC, dI) vwCl (wd_c_X12_number h0 h0_f0 h0_1 h0_2 h0_3 h0_4 h0_5 h0_f6 h0_f7 h0_f8 h0_f9 h0_f10 (-1) h0_f12 h0_f13 h0_f14 h0_15 h0_16 h0_f17 h0_18 h0_19 h0_20 h0_21 h0_22 h0_23 h0_24 h0_25 h0_f26 h0_f27 h0_f28 h0_f29 h0_f30 h0_f31 h0_32 h0_33 h0_f34 h0_35 h0_36 h0_37 h0_38 h0_39 h0_40 h0_f41 h0_f42 h0_f43 h0_f44 h0_45 h0_46 h0_47 h0_48 h0_49 h0_50 h0_f51 h0_52 h0_f53 h0_5 h0_5k tN h0_5c) U.heap ∧ va_K (dC, dI) vwCl [(h0_5k, .byte)] U ∧ va_D (fun _ => True) (wd_c_X12_number h0 h0_f0 h0_1 h0_2 h0_3 h0_4 h0_5 h0_f6 h0_f7 h0_f8 h0_f9 h0_f10 (-1) h0_f12 h0_f13 h0_f14 h0_15 h0_16 h0_f17 h0_18 h0_19 h0_20 h0_21 h0_22 h0_23 h0_24 h0_25 h0_f26 h0_f27 h0_f28 h0_f29 h0_f30 h0_f31 h0_32 h0_33 h0_f34 h0_35 h0_36 h0_37 h0_38 h0_39 h0_40 h0_f41 h0_f42 h0_f43 h0_f44 h0_45 h0_46 h0_47 h0_48 h0_49 h0_50 h0_f51 h0_52 h0_f53 h0_5 h0_5k tN h0_5c))) (va_Qi (fun (r : Int32) (u : (Int32) × (Int32)) => (r = 0 ∧ RG u.1 0 240 ∧ RG u.2 0 240 ∧ h0_f10.toInt + 0 ≤ (u.1).toInt) ∨ (RG r 10 99 ∧ RG u.1 0 239 ∧ RG u.2 0 239 ∧ RG h0_f9 1 240) ∨ (RG r 0 9 ∧ RG u.1 1 240 ∧ u.2 = (-1) ∧ RG h0_f9 1 240 ∧ h0_f10.toInt + 1 ≤ (u.1).toInt)) (fun (u : (Int32) × (Int32)) t => va_P (dC, dI) vwCl (wd_c_X12_number h0 h0_f0 h0_1 h0_2 h0_3 h0_4 h0_5 h0_f6 h0_f7 h0_f8 h0_f9 (u.1) (u.2) h0_f12 h0_f13 h0_f14 h0_15 h0_16 h0_f17 h0_18 h0_19 h0_20 h0_21 h0_22 h0_23 h0_24 h0_25 h0_f26 h0_f27 h0_f28 h0_f29 h0_f30 h0_f31 h0_32 h0_33 h0_f34 h0_35 h0_36 h0_37 h0_38 h0_39 h0_40 h0_f41 h0_f42 h0_f43 h0_f44 h0_45 h0_46 h0_47 h0_48 h0_49 h0_50 h0_f51 h0_52 h0_f53 h0_5 h0_5k tN h0_5c) t.heap ∧ va_K (dC, dI) vwCl [] t ∧ va_D (va_A (wd_c_X12_number h0 h0_f0 h0_1 h0_2 h0_3 h0_4 h0_5 h0_f6 h0_f7 h0_f8 h0_f9 h0_f10 (-1) h0_f12 h0_f13 h0_f14 h0_15 h0_16 h0_f17 h0_18 h0_19 h0_20 h0_21 h0_22 h0_23 h0_24 h0_25 h0_f26 h0_f27 h0_f28 h0_f29 h0_f30 h0_f31 h0_32 h0_33 h0_f34 h0_35 h0_36 h0_37 h0_38 h0_39 h0_40 h0_f41 h0_f42 h0_f43 h0_f44 h0_45 h0_46 h0_47 h0_48 h0_49 h0_50 h0_f51 h0_52 h0_f53 h0_5 h0_5k tN h0_5c) sz) (wd_c_X12_number h0 h0_f0 h0_1 h0_2 h0_3 h0_4 h0_5 h0_f6 h0_f7 h0_f8 h0_f9 (u.1) (u.2) h0_f12 h0_f13 h0_f14 h0_15 h0_16 h0_f17 h0_18 h0_19 h0_20 h0_21 h0_22 h0_23 h0_24 h0_25 h0_f26 h0_f27 h0_f28 h0_f29 h0_f30 h0_f31 h0_32 h0_33 h0_f34 h0_35 h0_36 h0_37 h0_38 h0_39 h0_40 h0_f41 h0_f42 h0_f43 h0_f44 h0_45 h0_46 h0_47 h0_48 h0_49 h0_50 h0_f51 h0_52 h0_f53 h0_5 h0_5k tN h0_5c)) (va_A (wd_c_X12_number h0 h0_f0 h0_1 h0_2 h0_3 h0_4 h0_5 h0_f6 h0_f7 h0_f8 h0_f9 h0_f10 (-1) h0_f12 h0_f13 h0_f14 h0_15 h0_16 h0_f17 h0_18 h0_19 h0_20 h0_21 h0_22 h0_23 h0_24 h0_25 h0_f26 h0_f27 h0_f28 h0_f29 h0_f30 h0_f31 h0_32 h0_33 h0_f34 h0_35 h0_36 h0_37 h0_38 h0_39 h0_40 h0_f41 h0_f42 h0_f43 h0_f44 h0_45 h0_46 h0_47 h0_48 h0_49 h0_50 h0_f51 h0_52 h0_f53 h0_5 h0_5k tN h0_5c) sz)) 0 0 (va_A (wd_c_X12_number h0 h0_f0 h0_1 h0_2 h0_3 h0_4 h0_5 h0_f6 h0_f7 h0_f8 h0_f9 h0_f10 (-1) h0_f12 h0_f13 h0_f14 h0_15 h0_16 h0_f17 h0_18 h0_19 h0_20 h0_21 h0_22 h0_23 h0_24 h0_25 h0_f26 h0_f27 h0_f28 h0_f29 h0_f30 h0_f31 h0_32 h0_33 h0_f34 h0_35 h0_36 h0_37 h0_38 h0_39 h0_40 h0_f41 h0_f42 h0_f43 h0_f44 h0_45 h0_46 h0_47 h0_48 h0_49 h0_50 h0_f51 h0_52 h0_f53 h0_5 h0_5k tN h0_5c) sz) := by
  refine Met.ofW (cc := cX12_number) (maxL := 5) (ret := (some .int)) (by decide +kernel) rfl ?_
  intro p e s m args below meth c s₁ B hml hv
  obtain ⟨rfl, hsz, hP, hK, hD0⟩ := hv
  have hx := B.exec
  have hb := B.bytes
  have hr := B.returns
  have hts := atoms_spec (ws := wf_c_X12_number) B.pre
  have hown : s.vm.findClass RX12 = some m.cls := findClass_of_methodNamed B.named
  have hlocks := B.notSynchronized
  subst hsz
  have hD := hD0.self (sz := s.heap.size)
  generalize hAe : va_A (wd_c_X12_number h0 h0_f0 h0_1 h0_2 h0_3 h0_4 h0_5 h0_f6 h0_f7 h0_f8 h0_f9 h0_f10 (-1) h0_f12 h0_f13 h0_f14 h0_15 h0_16 h0_f17 h0_18 h0_19 h0_20 h0_21 h0_22 h0_23 h0_24 h0_25 h0_f26 h0_f27 h0_f28 h0_f29 h0_f30 h0_f31 h0_32 h0_33 h0_f34 h0_35 h0_36 h0_37 h0_38 h0_39 h0_40 h0_f41 h0_f42 h0_f43 h0_f44 h0_45 h0_46 h0_47 h0_48 h0_49 h0_50 h0_f51 h0_52 h0_f53 h0_5 h0_5k tN h0_5c) s.heap.size = A at hD ⊢
  have hA : ∀ q : Nat, s.heap.size ≤ q → A q := fun q h => by rw [← hAe]; exact Or.inr h
  have hP : va_P (dC, dI) vwCl (wd_c_X12_number h0 h0_f0 h0_1 h0_2 h0_3 h0_4 h0_5 h0_f6 h0_f7 h0_f8 h0_f9 h0_f10 (-1) h0_f12 h0_f13 h0_f14 h0_15 h0_16 h0_f17 h0_18 h0_19 h0_20 h0_21 h0_22 h0_23 h0_24 h0_25 h0_f26 h0_f27 h0_f28 h0_f29 h0_f30 h0_f31 h0_32 h0_33 h0_f34 h0_35 h0_36 h0_37 h0_38 h0_39 h0_40 h0_f41 h0_f42 h0_f43 h0_f44 h0_45 h0_46 h0_47 h0_48 h0_49 h0_50 h0_f51 h0_52 h0_f53 h0_5 h0_5k tN h0_5c) s.heap := hP
  have hl := lv_entry ([.ref h0, .int 0, .int 9]) (n := 5) (Nat.le_of_ble_eq_true rfl)
  rw [lg_entry_eq]
  generalize (lg_sl ([.ref h0, .int 0, .int 9]) ++ List.replicate (5 - (lg_sl ([.ref h0, .int 0, .int 9])).length) Slot.unset).toArray = ls at hl ⊢
  have hl : lv_has ls 5 [(0, .ref h0), (1, .int 0), (2, .int 9)] := hl
  obtain ⟨H, hHe⟩ : ∃ H : Heap, s.heap = H := ⟨_, rfl⟩
  have hS : va_S A s.heap H [] := by rw [hHe]; exact va_S.rf
  have hP : va_P (dC, dI) vwCl (wd_c_X12_number h0 h0_f0 h0_1 h0_2 h0_3 h0_4 h0_5 h0_f6 h0_f7 h0_f8 h0_f9 h0_f10 (-1) h0_f12 h0_f13 h0_f14 h0_15 h0_16 h0_f17 h0_18 h0_19 h0_20 h0_21 h0_22 h0_23 h0_24 h0_25 h0_f26 h0_f27 h0_f28 h0_f29 h0_f30 h0_f31 h0_32 h0_33 h0_f34 h0_35 h0_36 h0_37 h0_38 h0_39 h0_40 h0_f41 h0_f42 h0_f43 h0_f44 h0_45 h0_46 h0_47 h0_48 h0_49 h0_50 h0_f51 h0_52 h0_f53 h0_5 h0_5k tN h0_5c) H := by rw [← hHe]; exact hP
  rw [hHe]
  refine wj (fun G hG hU => ?_)
  as_aux_lemma =>
  have J67 : ∀ (j67_l4 : Int32) (j67_h0_f10 : Int32) (g_h0_f10 : RG h0_f10 0 240) (g_h0_f17 : RG h0_f17 0 1) (g_h0_f26 : RG h0_f26 0 8) (g_h0_f27 : RG h0_f27 0 3) (g_h0_f28 : RG h0_f28 0 8) (g_h0_f29 : RG h0_f29 0 3) (g_h0_f30 : RG h0_f30 0 4) (g_h0_f31 : RG h0_f31 0 1) (g_h0_f34 : RG h0_f34 (-1) 3) (g_h0_f41 : RG h0_f41 0 40) (g_h0_f51 : RG h0_f51 0 10) (g_h0_f53 : RG h0_f53 0 1) (g_h0_f6 : RG h0_f6 0 240) (g_h0_f7 : RG h0_f7 0 4) (g_h0_f8 : RG h0_f8 0 720) (g_h0_f9 : RG h0_f9 1 240) (g_j67_h0_f10 : RG j67_h0_f10 1 240) (g_j67_l4 : RG j67_l4 0 99) (r_h0_f10_j67_h0_f10 : h0_f10.toInt + 1 ≤ j67_h0_f10.toInt) (H : Heap) (locs : List Loc) (ls : Array Slot) (hP : va_P (dC, dI) vwCl (wd_c_X12_number h0 h0_f0 h0_1 h0_2 h0_3 h0_4 h0_5 h0_f6 h0_f7 h0_f8 h0_f9 j67_h0_f10 (-1) h0_f12 h0_f13 h0_f14 h0_15 h0_16 h0_f17 h0_18 h0_19 h0_20 h0_21 h0_22 h0_23 h0_24 h0_25 h0_f26 h0_f27 h0_f28 h0_f29 h0_f30 h0_f31 h0_32 h0_33 h0_f34 h0_35 h0_36 h0_37 h0_38 h0_39 h0_40 h0_f41 h0_f42 h0_f43 h0_f44 h0_45 h0_46 h0_47 h0_48 h0_49 h0_50 h0_f51 h0_52 h0_f53 h0_5 h0_5k tN h0_5c) H) (hD : va_D A (wd_c_X12_number h0 h0_f0 h0_1 h0_2 h0_3 h0_4 h0_5 h0_f6 h0_f7 h0_f8 h0_f9 j67_h0_f10 (-1) h0_f12 h0_f13 h0_f14 h0_15 h0_16 h0_f17 h0_18 h0_19 h0_20 h0_21 h0_22 h0_23 h0_24 h0_25 h0_f26 h0_f27 h0_f28 h0_f29 h0_f30 h0_f31 h0_32 h0_33 h0_f34 h0_35 h0_36 h0_37 h0_38 h0_39 h0_40 h0_f41 h0_f42 h0_f43 h0_f44 h0_45 h0_46 h0_47 h0_48 h0_49 h0_50 h0_f51 h0_52 h0_f53 h0_5 h0_5k tN h0_5c)) (hS : va_S A s.heap H locs) (hl : lv_has ls 5 [(4, .int j67_l4), (0, .ref h0), (1, .int 0), (2, .int 9)]), G H locs (F0 m 67 ls []) := by
    as_aux_lemma =>
    intro j67_l4 j67_h0_f10 g_h0_f10 g_h0_f17 g_h0_f26 g_h0_f27 g_h0_f28 g_h0_f29 g_h0_f30 g_h0_f31 g_h0_f34 g_h0_f41 g_h0_f51 g_h0_f53 g_h0_f6 g_h0_f7 g_h0_f8 g_h0_f9 g_j67_h0_f10 g_j67_l4 r_h0_f10_j67_h0_f10 H locs ls hP hD hS hl
    refine hG _ _ _ ?_
    refine lv_aload_n hx hb dX12_number_67 rfl (lv_at hl 1 rfl) ?_
    obtain ⟨hPc, hDc, hFc, hqc⟩ := cl_cut (wc := (wd_c_X12_isDigit h0 h0_f0 h0_1 h0_2 h0_3 h0_4 h0_5 h0_f6 h0_f7 h0_f8 h0_f9 j67_h0_f10 (-1) h0_f12 h0_f13 h0_f14 h0_15 h0_16 h0_f17 h0_18 h0_19 h0_20 h0_21 h0_22 h0_23 h0_24 h0_25 h0_f26 h0_f27 h0_f28 h0_f29 h0_f30 h0_f31 h0_32 h0_33 h0_f34 h0_35 h0_36 h0_37 h0_38 h0_39 h0_40 h0_f41 h0_f42 h0_f43 h0_f44 h0_45 h0_46 h0_47 h0_48 h0_49 h0_50 h0_f51 h0_52 h0_f53 h0_5 h0_5k tN h0_5c)) hP hD hS hA [0, 1] (by decide +kernel) rfl
    have hKc := hK.sub (tys' := [(h0_5k, .byte)]) [0] rfl
    have hrv := va_recv hKc hPc (ci := 12) (q0 := 0) rfl rfl
    refine va_calli (va_runV (As := []) (rest := []) ⟨hx, hb, hml, hown, hts⟩ (c_X12_isDigit l dC dI H.size h0 h0_f0 h0_1 h0_2 h0_3 h0_4 h0_5 h0_f6 h0_f7 h0_f8 h0_f9 j67_h0_f10 h0_f12 h0_f13 h0_f14 h0_15 h0_16 h0_f17 h0_18 h0_19 h0_20 h0_21 h0_22 h0_23 h0_24 h0_25 h0_f26 h0_f27 h0_f28 h0_f29 h0_f30 h0_f31 h0_32 h0_33 h0_f34 h0_35 h0_36 h0_37 h0_38 h0_39 h0_40 h0_f41 h0_f42 h0_f43 h0_f44 h0_45 h0_46 h0_47 h0_48 h0_49 h0_50 h0_f51 h0_52 h0_f53 h0_5k h0_5c tN g_h0_f6 g_h0_f7 g_h0_f8 (RG_w g_h0_f9 (by decide +kernel)) (RG_w g_j67_h0_f10 (by decide +kernel)) g_h0_f17 g_h0_f26 g_h0_f27 g_h0_f28 g_h0_f29 g_h0_f30 g_h0_f31 g_h0_f34 g_h0_f41 g_h0_f51 g_h0_f53 htN) (cwV 0 hts gf_c_X12_number_c_X12_isDigit rfl rfl rfl mdV_X12_isDigit ⟨Nat.le_of_ble_eq_true rfl, Nat.le_of_ble_eq_true rfl⟩) ⟨fun a U g mk q => by obtain ⟨q0, q1, qP, qK, qD⟩ := q; exact ⟨q0, q1, qP, va_K.moved (u := U) (U := U.calling g mk a) (Vm.Alike.refl U.vm) qK, qD⟩, hrv, fun U hU hW => ⟨rfl, by rw [hU], by rw [hU]; exact hPc, va_K.moved hW.alike hKc, hDc.weaken (fun _ _ _ _ => trivial)⟩⟩ rfl rfl hl.1 rfl (lv_room (Nat.le_of_ble_eq_true rfl)) dX12_number_68 ⟨Nat.le_of_ble_eq_true rfl, Nat.le_of_ble_eq_true rfl⟩) hS (fun q _ h => hFc q h) hFc (fun r_1 u t H1 locs ht hvm hw hB hz1 hk1 hS => ?_)
    obtain ⟨hP1, hK1, hD1⟩ := hB
    rw [ht] at hP1
    obtain ⟨hP, hD⟩ := cl_put (w1 := (wd_c_X12_isDigit h0 h0_f0 h0_1 h0_2 h0_3 h0_4 h0_5 h0_f6 h0_f7 h0_f8 h0_f9 j67_h0_f10 (-1) h0_f12 h0_f13 h0_f14 h0_15 h0_16 h0_f17 h0_18 h0_19 h0_20 h0_21 h0_22 h0_23 h0_24 h0_25 h0_f26 h0_f27 h0_f28 h0_f29 h0_f30 h0_f31 h0_32 h0_33 h0_f34 h0_35 h0_36 h0_37 h0_38 h0_39 h0_40 h0_f41 h0_f42 h0_f43 h0_f44 h0_45 h0_46 h0_47 h0_48 h0_49 h0_50 h0_f51 h0_52 h0_f53 h0_5 h0_5k tN h0_5c)) (nw := (wd_c_X12_number h0 h0_f0 h0_1 h0_2 h0_3 h0_4 h0_5 h0_f6 h0_f7 h0_f8 h0_f9 j67_h0_f10 (-1) h0_f12 h0_f13 h0_f14 h0_15 h0_16 h0_f17 h0_18 h0_19 h0_20 h0_21 h0_22 h0_23 h0_24 h0_25 h0_f26 h0_f27 h0_f28 h0_f29 h0_f30 h0_f31 h0_32 h0_33 h0_f34 h0_35 h0_36 h0_37 h0_38 h0_39 h0_40 h0_f41 h0_f42 h0_f43 h0_f44 h0_45 h0_46 h0_47 h0_48 h0_49 h0_50 h0_f51 h0_52 h0_f53 h0_5 h0_5k tN h0_5c)) hP hD [0, 1] [2, 3] 2 rfl hqc (by decide +kernel) rfl hk1 hFc hP1 hD1
    generalize H1 = H at hP hS ⊢
    as_aux_lemma =>
    rcases hw with ⟨h_2, h_3⟩ | ⟨h_4, h_5, h_6, h_7, h_8⟩
    · rw [h_2]
      refine lv_if_eq (tgt := 81) hx hb dX12_number_71 rfl (fun c_9 => ?_) (fun c_9 => absurd c_9 (by decide +kernel))
      refine lv_iload hx hb dX12_number_81 (lv_at hl 0 rfl) ?_
      refine lv_i2l (v := j67_l4.toInt64) hx hb dX12_number_83 rfl ?_
      refine lv_topl (fun x_10 ex_10 => ?_)
      have g_11 : LG x_10 0 99 := LG_i2l ex_10 g_j67_l4
      refine lv_iload_n hx hb dX12_number_84 rfl (lv_at hl 2 rfl) ?_
      refine lv_i2l (v := 0) hx hb dX12_number_85 (by decide +kernel) ?_
      refine lv_iload_n hx hb dX12_number_86 rfl (lv_at hl 3 rfl) ?_
      refine lv_i2l (v := 9) hx hb dX12_number_87 (by decide +kernel) ?_
      obtain ⟨hPc, hDc, hFc, hqc⟩ := cl_cut (wc := []) hP hD hS hA [] (by decide +kernel) rfl
      have hKc := hK.sub (tys' := []) [] rfl
      refine va_calli (va_runS (As := [.long x_10, .long 0, .long 9]) (rest := []) ⟨hx, hb, hml, hown, hts⟩ (c_X12_isIn_1 l dC dI H.size x_10 g_11) (va_cwS 3 hts gf_c_X12_number_c_X12_isIn_1 rfl rfl rfl md_X12_isIn ⟨Nat.le_of_ble_eq_true rfl, Nat.le_of_ble_eq_true rfl⟩) ⟨fun a U g mk q => by obtain ⟨q0, q1, qP, qK, qD⟩ := q; exact ⟨q0, q1, qP, va_K.moved (u := U) (U := U.calling g mk a) (Vm.Alike.refl U.vm) qK, qD⟩, fun U hU hW => ⟨rfl, by rw [hU], by rw [hU]; exact hPc, va_K.moved hW.alike hKc, hDc.weaken (fun _ _ _ _ => trivial)⟩⟩ rfl rfl hl.1 rfl (lv_room (Nat.le_of_ble_eq_true rfl)) dX12_number_88 ⟨Nat.le_of_ble_eq_true rfl, Nat.le_of_ble_eq_true rfl⟩) hS (fun q _ h => hFc q h) hFc (fun r_12 u t H1 locs ht hvm hw hB hz1 hk1 hS => ?_)
      as_aux_lemma =>
      obtain ⟨hP1, hK1, hD1⟩ := hB
      rw [ht] at hP1
      have hP := bv_still hP hk1
      generalize H1 = H at hP hS ⊢
      as_aux_lemma =>
      rcases hw with ⟨h_13, h_14⟩ | ⟨h_15, h_16⟩
      · rw [h_13]
        have g_17 : RG j67_l4 10 99 := RG_of_LG g_j67_l4 h_14 ex_10 (by decide +kernel)
        refine lv_if_ne (tgt := 109) hx hb dX12_number_91 rfl (fun c_18 => absurd c_18 (by decide +kernel)) (fun c_18 => ?_)
        refine lv_aload_n hx hb dX12_number_94 rfl (lv_at hl 1 rfl) ?_
        refine lv_dup hx hb dX12_number_95 rfl ?_
        refine va_get (D := (dC, dI)) (ci := 12) (v := .int j67_h0_f10) (C := RX12) (T := TX12) (N := 54) hx hb hts iw_c_X12_number_X12 hown hK hP 0 rfl rfl 10 (by decide +kernel) (hts (.fieldLink RX12 134 "BuoyVoteModel" "at" "I") (List.mem_of_getElem? (i := 6) rfl)) (fun _ h9 => h9) rfl dX12_number_96 ?_
        refine lv_iconst (v := 1) hx hb dX12_number_99 kc_iconst_1 ?_
        refine lv_isub hx hb dX12_number_100 ?_
        refine lv_topi (fun x_19 ex_19 => ?_)
        have g_20 : RG x_19 0 239 := RG_sub ex_19 g_j67_h0_f10 (RG_k 1 1 rfl) (by decide +kernel)
        refine va_put (D := (dC, dI)) (ci := 12) (v := .int x_19) (ty := .int) (C := RX12) (T := TX12) (N := 54) hx hb hts iw_c_X12_number_X12 tyX12 tyX12_ok nmX12 hown hK hP hD hS 0 rfl rfl 10 (by decide +kernel) (hts (.fieldLink RX12 134 "BuoyVoteModel" "at" "I") (List.mem_of_getElem? (i := 6) rfl)) (fun _ h9 => h9) rfl (by decide +kernel) rfl rfl (Nat.le_of_ble_eq_true rfl) dX12_number_101 (fun H locs hP hD hS => ?_)
        have hP : va_P (dC, dI) vwCl (wd_c_X12_number h0 h0_f0 h0_1 h0_2 h0_3 h0_4 h0_5 h0_f6 h0_f7 h0_f8 h0_f9 x_19 (-1) h0_f12 h0_f13 h0_f14 h0_15 h0_16 h0_f17 h0_18 h0_19 h0_20 h0_21 h0_22 h0_23 h0_24 h0_25 h0_f26 h0_f27 h0_f28 h0_f29 h0_f30 h0_f31 h0_32 h0_33 h0_f34 h0_35 h0_36 h0_37 h0_38 h0_39 h0_40 h0_f41 h0_f42 h0_f43 h0_f44 h0_45 h0_46 h0_47 h0_48 h0_49 h0_50 h0_f51 h0_52 h0_f53 h0_5 h0_5k tN h0_5c) H := hP
        have hD : va_D A (wd_c_X12_number h0 h0_f0 h0_1 h0_2 h0_3 h0_4 h0_5 h0_f6 h0_f7 h0_f8 h0_f9 x_19 (-1) h0_f12 h0_f13 h0_f14 h0_15 h0_16 h0_f17 h0_18 h0_19 h0_20 h0_21 h0_22 h0_23 h0_24 h0_25 h0_f26 h0_f27 h0_f28 h0_f29 h0_f30 h0_f31 h0_32 h0_33 h0_f34 h0_35 h0_36 h0_37 h0_38 h0_39 h0_40 h0_f41 h0_f42 h0_f43 h0_f44 h0_45 h0_46 h0_47 h0_48 h0_49 h0_50 h0_f51 h0_52 h0_f53 h0_5 h0_5k tN h0_5c) := hD
        refine lv_aload_n hx hb dX12_number_104 rfl (lv_at hl 1 rfl) ?_
        as_aux_lemma =>
        obtain ⟨hPc, hDc, hFc, hqc⟩ := cl_cut (wc := (wd_c_X12_fails h0 h0_f0 h0_1 h0_2 h0_3 h0_4 h0_5 h0_f6 h0_f7 h0_f8 h0_f9 x_19 (-1) h0_f12 h0_f13 h0_f14 h0_15 h0_16 h0_f17 h0_18 h0_19 h0_20 h0_21 h0_22 h0_23 h0_24 h0_25 h0_f26 h0_f27 h0_f28 h0_f29 h0_f30 h0_f31 h0_32 h0_33 h0_f34 h0_35 h0_36 h0_37 h0_38 h0_39 h0_40 h0_f41 h0_f42 h0_f43 h0_f44 h0_45 h0_46 h0_47 h0_48 h0_49 h0_50 h0_f51 h0_52 h0_f53)) hP hD hS hA [0] (by decide +kernel) rfl
        have hKc := hK.sub (tys' := []) [] rfl
        have hrv := va_recv hKc hPc (ci := 12) (q0 := 0) rfl rfl
        refine va_calli (va_runV (As := []) (rest := []) ⟨hx, hb, hml, hown, hts⟩ (c_X12_fails l dC dI H.size h0 h0_f0 h0_1 h0_2 h0_3 h0_4 h0_5 h0_f6 h0_f7 h0_f8 h0_f9 x_19 h0_f12 h0_f13 h0_f14 h0_15 h0_16 h0_f17 h0_18 h0_19 h0_20 h0_21 h0_22 h0_23 h0_24 h0_25 h0_f26 h0_f27 h0_f28 h0_f29 h0_f30 h0_f31 h0_32 h0_33 h0_f34 h0_35 h0_36 h0_37 h0_38 h0_39 h0_40 h0_f41 h0_f42 h0_f43 h0_f44 h0_45 h0_46 h0_47 h0_48 h0_49 h0_50 h0_f51 h0_52 h0_f53 g_h0_f6 g_h0_f7 g_h0_f8 (RG_w g_h0_f9 (by decide +kernel)) (RG_w g_20 (by decide +kernel)) g_h0_f17 g_h0_f26 g_h0_f27 g_h0_f28 g_h0_f29 g_h0_f30 g_h0_f31 g_h0_f34 g_h0_f41 g_h0_f51 g_h0_f53) (cwV 0 hts gf_c_X12_number_c_X12_fails rfl rfl rfl mdV_X12_fails ⟨Nat.le_of_ble_eq_true rfl, Nat.le_of_ble_eq_true rfl⟩) ⟨fun a U g mk q => by obtain ⟨q0, q1, qP, qK, qD⟩ := q; exact ⟨q0, q1, qP, va_K.moved (u := U) (U := U.calling g mk a) (Vm.Alike.refl U.vm) qK, qD⟩, hrv, fun U hU hW => ⟨rfl, by rw [hU], by rw [hU]; exact hPc, va_K.moved hW.alike hKc, hDc.weaken (fun _ _ _ _ => trivial)⟩⟩ rfl rfl hl.1 rfl (lv_room (Nat.le_of_ble_eq_true rfl)) dX12_number_105 ⟨Nat.le_of_ble_eq_true rfl, Nat.le_of_ble_eq_true rfl⟩) hS (fun q _ h => hFc q h) hFc (fun r_21 u t H1 locs ht hvm hw hB hz1 hk1 hS => ?_)
        obtain ⟨hP1, hK1, hD1⟩ := hB
        rw [ht] at hP1
        obtain ⟨hP, hD⟩ := cl_put (w1 := (wd_c_X12_fails h0 h0_f0 h0_1 h0_2 h0_3 h0_4 h0_5 h0_f6 h0_f7 h0_f8 h0_f9 x_19 x_19 h0_f12 h0_f13 h0_f14 h0_15 h0_16 h0_f17 h0_18 h0_19 h0_20 h0_21 h0_22 h0_23 h0_24 h0_25 h0_f26 h0_f27 h0_f28 h0_f29 h0_f30 h0_f31 h0_32 h0_33 h0_f34 h0_35 h0_36 h0_37 h0_38 h0_39 h0_40 h0_f41 h0_f42 h0_f43 h0_f44 h0_45 h0_46 h0_47 h0_48 h0_49 h0_50 h0_f51 h0_52 h0_f53)) (nw := (wd_c_X12_number h0 h0_f0 h0_1 h0_2 h0_3 h0_4 h0_5 h0_f6 h0_f7 h0_f8 h0_f9 x_19 x_19 h0_f12 h0_f13 h0_f14 h0_15 h0_16 h0_f17 h0_18 h0_19 h0_20 h0_21 h0_22 h0_23 h0_24 h0_25 h0_f26 h0_f27 h0_f28 h0_f29 h0_f30 h0_f31 h0_32 h0_33 h0_f34 h0_35 h0_36 h0_37 h0_38 h0_39 h0_40 h0_f41 h0_f42 h0_f43 h0_f44 h0_45 h0_46 h0_47 h0_48 h0_49 h0_50 h0_f51 h0_52 h0_f53 h0_5 h0_5k tN h0_5c)) hP hD [0] [2, 1] 2 rfl hqc (by decide +kernel) rfl hk1 hFc hP1 hD1
        generalize H1 = H at hP hS ⊢
        as_aux_lemma =>
        have h_22 := hw
        rw [h_22]
        refine lv_pop hx hb dX12_number_108 rfl ?_
        refine lv_iload hx hb dX12_number_109 (lv_at hl 0 rfl) ?_
        have hK9 := hK.sub (tys' := []) [] rfl
        exact W.iret (v := j67_l4) hx hb hr (fun t ht hW => ⟨⟨j67_l4, (x_19, x_19), rfl, (Or.inr (Or.inl ⟨g_17, g_20, g_20, g_h0_f9⟩)), by rw [ht]; exact hP, va_K.moved hW.alike hK9, hD⟩, hS.F ht⟩) hS.2.2 dX12_number_111
      · rw [h_15]
        have g_23 : RG j67_l4 0 9 := RG_of_LG g_j67_l4 h_16 ex_10 (by decide +kernel)
        refine lv_if_ne (tgt := 109) hx hb dX12_number_91 rfl (fun c_24 => ?_) (fun c_24 => absurd c_24 (by decide +kernel))
        refine lv_iload hx hb dX12_number_109 (lv_at hl 0 rfl) ?_
        have hK9 := hK.sub (tys' := []) [] rfl
        exact W.iret (v := j67_l4) hx hb hr (fun t ht hW => ⟨⟨j67_l4, (j67_h0_f10, (-1)), rfl, (Or.inr (Or.inr ⟨g_23, g_j67_h0_f10, rfl, g_h0_f9, (by have := r_h0_f10_j67_h0_f10; show h0_f10.toInt + 1 ≤ j67_h0_f10.toInt; omega)⟩)), by rw [ht]; exact hP, va_K.moved hW.alike hK9, hD⟩, hS.F ht⟩) hS.2.2 dX12_number_111
    · rw [h_4]
      have g_25 : RG j67_h0_f10 1 239 := RG_eq1 g_j67_h0_f10 h_5 rfl (by decide +kernel)
      have g_26 := h_8 h_4
      refine lv_if_eq (tgt := 81) hx hb dX12_number_71 rfl (fun c_27 => absurd c_27 (by decide +kernel)) (fun c_27 => ?_)
      as_aux_lemma =>
      refine lv_aload_n hx hb dX12_number_74 rfl (lv_at hl 1 rfl) ?_
      obtain ⟨hPc, hDc, hFc, hqc⟩ := cl_cut (wc := (wd_c_X12_fails h0 h0_f0 h0_1 h0_2 h0_3 h0_4 h0_5 h0_f6 h0_f7 h0_f8 h0_f9 j67_h0_f10 (-1) h0_f12 h0_f13 h0_f14 h0_15 h0_16 h0_f17 h0_18 h0_19 h0_20 h0_21 h0_22 h0_23 h0_24 h0_25 h0_f26 h0_f27 h0_f28 h0_f29 h0_f30 h0_f31 h0_32 h0_33 h0_f34 h0_35 h0_36 h0_37 h0_38 h0_39 h0_40 h0_f41 h0_f42 h0_f43 h0_f44 h0_45 h0_46 h0_47 h0_48 h0_49 h0_50 h0_f51 h0_52 h0_f53)) hP hD hS hA [0] (by decide +kernel) rfl
      have hKc := hK.sub (tys' := []) [] rfl
      have hrv := va_recv hKc hPc (ci := 12) (q0 := 0) rfl rfl
      refine va_calli (va_runV (As := []) (rest := []) ⟨hx, hb, hml, hown, hts⟩ (c_X12_fails l dC dI H.size h0 h0_f0 h0_1 h0_2 h0_3 h0_4 h0_5 h0_f6 h0_f7 h0_f8 h0_f9 j67_h0_f10 h0_f12 h0_f13 h0_f14 h0_15 h0_16 h0_f17 h0_18 h0_19 h0_20 h0_21 h0_22 h0_23 h0_24 h0_25 h0_f26 h0_f27 h0_f28 h0_f29 h0_f30 h0_f31 h0_32 h0_33 h0_f34 h0_35 h0_36 h0_37 h0_38 h0_39 h0_40 h0_f41 h0_f42 h0_f43 h0_f44 h0_45 h0_46 h0_47 h0_48 h0_49 h0_50 h0_f51 h0_52 h0_f53 g_h0_f6 g_h0_f7 g_h0_f8 (RG_w g_h0_f9 (by decide +kernel)) (RG_w g_25 (by decide +kernel)) g_h0_f17 g_h0_f26 g_h0_f27 g_h0_f28 g_h0_f29 g_h0_f30 g_h0_f31 g_h0_f34 g_h0_f41 g_h0_f51 g_h0_f53) (cwV 0 hts gf_c_X12_number_c_X12_fails rfl rfl rfl mdV_X12_fails ⟨Nat.le_of_ble_eq_true rfl, Nat.le_of_ble_eq_true rfl⟩) ⟨fun a U g mk q => by obtain ⟨q0, q1, qP, qK, qD⟩ := q; exact ⟨q0, q1, qP, va_K.moved (u := U) (U := U.calling g mk a) (Vm.Alike.refl U.vm) qK, qD⟩, hrv, fun U hU hW => ⟨rfl, by rw [hU], by rw [hU]; exact hPc, va_K.moved hW.alike hKc, hDc.weaken (fun _ _ _ _ => trivial)⟩⟩ rfl rfl hl.1 rfl (lv_room (Nat.le_of_ble_eq_true rfl)) dX12_number_75 ⟨Nat.le_of_ble_eq_true rfl, Nat.le_of_ble_eq_true rfl⟩) hS (fun q _ h => hFc q h) hFc (fun r_28 u t H1 locs ht hvm hw hB hz1 hk1 hS => ?_)
      obtain ⟨hP1, hK1, hD1⟩ := hB
      rw [ht] at hP1
      obtain ⟨hP, hD⟩ := cl_put (w1 := (wd_c_X12_fails h0 h0_f0 h0_1 h0_2 h0_3 h0_4 h0_5 h0_f6 h0_f7 h0_f8 h0_f9 j67_h0_f10 j67_h0_f10 h0_f12 h0_f13 h0_f14 h0_15 h0_16 h0_f17 h0_18 h0_19 h0_20 h0_21 h0_22 h0_23 h0_24 h0_25 h0_f26 h0_f27 h0_f28 h0_f29 h0_f30 h0_f31 h0_32 h0_33 h0_f34 h0_35 h0_36 h0_37 h0_38 h0_39 h0_40 h0_f41 h0_f42 h0_f43 h0_f44 h0_45 h0_46 h0_47 h0_48 h0_49 h0_50 h0_f51 h0_52 h0_f53)) (nw := (wd_c_X12_number h0 h0_f0 h0_1 h0_2 h0_3 h0_4 h0_5 h0_f6 h0_f7 h0_f8 h0_f9 j67_h0_f10 j67_h0_f10 h0_f12 h0_f13 h0_f14 h0_15 h0_16 h0_f17 h0_18 h0_19 h0_20 h0_21 h0_22 h0_23 h0_24 h0_25 h0_f26 h0_f27 h0_f28 h0_f29 h0_f30 h0_f31 h0_32 h0_33 h0_f34 h0_35 h0_36 h0_37 h0_38 h0_39 h0_40 h0_f41 h0_f42 h0_f43 h0_f44 h0_45 h0_46 h0_47 h0_48 h0_49 h0_50 h0_f51 h0_52 h0_f53 h0_5 h0_5k tN h0_5c)) hP hD [0] [2, 1] 2 rfl hqc (by decide +kernel) rfl hk1 hFc hP1 hD1
      generalize H1 = H at hP hS ⊢
      as_aux_lemma =>
      have h_29 := hw
      rw [h_29]
      refine lv_pop hx hb dX12_number_78 rfl ?_
      refine lv_iconst (v := 0) hx hb dX12_number_79 kc_iconst_0 ?_
      have hK9 := hK.sub (tys' := []) [] rfl
      exact W.iret (v := 0) hx hb hr (fun t ht hW => ⟨⟨0, (j67_h0_f10, j67_h0_f10), rfl, (Or.inl ⟨rfl, (RG_w g_25 (by decide +kernel)), (RG_w g_25 (by decide +kernel)), (by have := r_h0_f10_j67_h0_f10; show h0_f10.toInt + 0 ≤ j67_h0_f10.toInt; omega)⟩), by rw [ht]; exact hP, va_K.moved hW.alike hK9, hD⟩, hS.F ht⟩) hS.2.2 dX12_number_80
  refine hG _ _ _ ?_
  refine lv_aload_n hx hb dX12_number_0 rfl (lv_at hl 0 rfl) ?_
  obtain ⟨hPc, hDc, hFc, hqc⟩ := cl_cut (wc := (wd_c_X12_look h0 h0_f0 h0_1 h0_2 h0_3 h0_4 h0_5 h0_f6 h0_f7 h0_f8 h0_f9 h0_f10 (-1) h0_f12 h0_f13 h0_f14 h0_15 h0_16 h0_f17 h0_18 h0_19 h0_20 h0_21 h0_22 h0_23 h0_24 h0_25 h0_f26 h0_f27 h0_f28 h0_f29 h0_f30 h0_f31 h0_32 h0_33 h0_f34 h0_35 h0_36 h0_37 h0_38 h0_39 h0_40 h0_f41 h0_f42 h0_f43 h0_f44 h0_45 h0_46 h0_47 h0_48 h0_49 h0_50 h0_f51 h0_52 h0_f53 h0_5 h0_5k tN h0_5c)) hP hD hS hA [0, 1] (by decide +kernel) rfl
  have hKc := hK.sub (tys' := [(h0_5k, .byte)]) [0] rfl
  have hrv := va_recv hKc hPc (ci := 12) (q0 := 0) rfl rfl
  refine va_calli (va_runV (As := []) (rest := []) ⟨hx, hb, hml, hown, hts⟩ (c_X12_look l dC dI H.size h0 h0_f0 h0_1 h0_2 h0_3 h0_4 h0_5 h0_f6 h0_f7 h0_f8 h0_f9 h0_f10 h0_f12 h0_f13 h0_f14 h0_15 h0_16 h0_f17 h0_18 h0_19 h0_20 h0_21 h0_22 h0_23 h0_24 h0_25 h0_f26 h0_f27 h0_f28 h0_f29 h0_f30 h0_f31 h0_32 h0_33 h0_f34 h0_35 h0_36 h0_37 h0_38 h0_39 h0_40 h0_f41 h0_f42 h0_f43 h0_f44 h0_45 h0_46 h0_47 h0_48 h0_49 h0_50 h0_f51 h0_52 h0_f53 h0_5k h0_5c tN g_h0_f6 g_h0_f7 g_h0_f8 g_h0_f9 g_h0_f10 g_h0_f17 g_h0_f26 g_h0_f27 g_h0_f28 g_h0_f29 g_h0_f30 g_h0_f31 g_h0_f34 g_h0_f41 g_h0_f51 g_h0_f53 htN) (cwV 0 hts gf_c_X12_number_c_X12_look rfl rfl rfl mdV_X12_look ⟨Nat.le_of_ble_eq_true rfl, Nat.le_of_ble_eq_true rfl⟩) ⟨fun a U g mk q => by obtain ⟨q0, q1, qP, qK, qD⟩ := q; exact ⟨q0, q1, qP, va_K.moved (u := U) (U := U.calling g mk a) (Vm.Alike.refl U.vm) qK, qD⟩, hrv, fun U hU hW => ⟨rfl, by rw [hU], by rw [hU]; exact hPc, va_K.moved hW.alike hKc, hDc.weaken (fun _ _ _ _ => trivial)⟩⟩ rfl rfl hl.1 rfl (lv_room (Nat.le_of_ble_eq_true rfl)) dX12_number_1 ⟨Nat.le_of_ble_eq_true rfl, Nat.le_of_ble_eq_true rfl⟩) hS (fun q _ h => hFc q h) hFc (fun r_30 x_31 t H1 locs ht hvm hw hB hz1 hk1 hS => ?_)
  obtain ⟨hP1, hK1, hD1⟩ := hB
  rw [ht] at hP1
  obtain ⟨hP, hD⟩ := cl_put (w1 := (wd_c_X12_look h0 h0_f0 h0_1 h0_2 h0_3 h0_4 h0_5 h0_f6 h0_f7 h0_f8 h0_f9 x_31 (-1) h0_f12 h0_f13 h0_f14 h0_15 h0_16 h0_f17 h0_18 h0_19 h0_20 h0_21 h0_22 h0_23 h0_24 h0_25 h0_f26 h0_f27 h0_f28 h0_f29 h0_f30 h0_f31 h0_32 h0_33 h0_f34 h0_35 h0_36 h0_37 h0_38 h0_39 h0_40 h0_f41 h0_f42 h0_f43 h0_f44 h0_45 h0_46 h0_47 h0_48 h0_49 h0_50 h0_f51 h0_52 h0_f53 h0_5 h0_5k tN h0_5c)) (nw := (wd_c_X12_number h0 h0_f0 h0_1 h0_2 h0_3 h0_4 h0_5 h0_f6 h0_f7 h0_f8 h0_f9 x_31 (-1) h0_f12 h0_f13 h0_f14 h0_15 h0_16 h0_f17 h0_18 h0_19 h0_20 h0_21 h0_22 h0_23 h0_24 h0_25 h0_f26 h0_f27 h0_f28 h0_f29 h0_f30 h0_f31 h0_32 h0_33 h0_f34 h0_35 h0_36 h0_37 h0_38 h0_39 h0_40 h0_f41 h0_f42 h0_f43 h0_f44 h0_45 h0_46 h0_47 h0_48 h0_49 h0_50 h0_f51 h0_52 h0_f53 h0_5 h0_5k tN h0_5c)) hP hD [0, 1] [2, 3] 2 rfl hqc (by decide +kernel) rfl hk1 hFc hP1 hD1
  generalize H1 = H at hP hS ⊢
  as_aux_lemma =>
  rcases hw with ⟨h_32, h_33, h_34, h_35, h_36⟩ | ⟨h_37, h_38, h_39, h_40, h_41, h_42⟩
  · rw [h_32]
    refine lv_istore_n (lv' := [(3, .int (-1)), (0, .ref h0), (1, .int 0), (2, .int 9)]) hx hb dX12_number_4 rfl hl (Nat.le_of_ble_eq_true rfl) rfl (fun ls hl => ?_)
    refine lv_aload_n hx hb dX12_number_5 rfl (lv_at hl 1 rfl) ?_
    obtain ⟨hPc, hDc, hFc, hqc⟩ := cl_cut (wc := (wd_c_X12_isDigit h0 h0_f0 h0_1 h0_2 h0_3 h0_4 h0_5 h0_f6 h0_f7 h0_f8 h0_f9 x_31 (-1) h0_f12 h0_f13 h0_f14 h0_15 h0_16 h0_f17 h0_18 h0_19 h0_20 h0_21 h0_22 h0_23 h0_24 h0_25 h0_f26 h0_f27 h0_f28 h0_f29 h0_f30 h0_f31 h0_32 h0_33 h0_f34 h0_35 h0_36 h0_37 h0_38 h0_39 h0_40 h0_f41 h0_f42 h0_f43 h0_f44 h0_45 h0_46 h0_47 h0_48 h0_49 h0_50 h0_f51 h0_52 h0_f53 h0_5 h0_5k tN h0_5c)) hP hD hS hA [0, 1] (by decide +kernel) rfl
    have hKc := hK.sub (tys' := [(h0_5k, .byte)]) [0] rfl
    have hrv := va_recv hKc hPc (ci := 12) (q0 := 0) rfl rfl
    refine va_calli (va_runV (As := []) (rest := []) ⟨hx, hb, hml, hown, hts⟩ (c_X12_isDigit l dC dI H.size h0 h0_f0 h0_1 h0_2 h0_3 h0_4 h0_5 h0_f6 h0_f7 h0_f8 h0_f9 x_31 h0_f12 h0_f13 h0_f14 h0_15 h0_16 h0_f17 h0_18 h0_19 h0_20 h0_21 h0_22 h0_23 h0_24 h0_25 h0_f26 h0_f27 h0_f28 h0_f29 h0_f30 h0_f31 h0_32 h0_33 h0_f34 h0_35 h0_36 h0_37 h0_38 h0_39 h0_40 h0_f41 h0_f42 h0_f43 h0_f44 h0_45 h0_46 h0_47 h0_48 h0_49 h0_50 h0_f51 h0_52 h0_f53 h0_5k h0_5c tN g_h0_f6 g_h0_f7 g_h0_f8 g_h0_f9 h_33 g_h0_f17 g_h0_f26 g_h0_f27 g_h0_f28 g_h0_f29 g_h0_f30 g_h0_f31 g_h0_f34 g_h0_f41 g_h0_f51 g_h0_f53 htN) (cwV 0 hts gf_c_X12_number_c_X12_isDigit rfl rfl rfl mdV_X12_isDigit ⟨Nat.le_of_ble_eq_true rfl, Nat.le_of_ble_eq_true rfl⟩) ⟨fun a U g mk q => by obtain ⟨q0, q1, qP, qK, qD⟩ := q; exact ⟨q0, q1, qP, va_K.moved (u := U) (U := U.calling g mk a) (Vm.Alike.refl U.vm) qK, qD⟩, hrv, fun U hU hW => ⟨rfl, by rw [hU], by rw [hU]; exact hPc, va_K.moved hW.alike hKc, hDc.weaken (fun _ _ _ _ => trivial)⟩⟩ rfl rfl hl.1 rfl (lv_room (Nat.le_of_ble_eq_true rfl)) dX12_number_6 ⟨Nat.le_of_ble_eq_true rfl, Nat.le_of_ble_eq_true rfl⟩) hS (fun q _ h => hFc q h) hFc (fun r_43 u t H1 locs ht hvm hw hB hz1 hk1 hS => ?_)
    obtain ⟨hP1, hK1, hD1⟩ := hB
    rw [ht] at hP1
    obtain ⟨hP, hD⟩ := cl_put (w1 := (wd_c_X12_isDigit h0 h0_f0 h0_1 h0_2 h0_3 h0_4 h0_5 h0_f6 h0_f7 h0_f8 h0_f9 x_31 (-1) h0_f12 h0_f13 h0_f14 h0_15 h0_16 h0_f17 h0_18 h0_19 h0_20 h0_21 h0_22 h0_23 h0_24 h0_25 h0_f26 h0_f27 h0_f28 h0_f29 h0_f30 h0_f31 h0_32 h0_33 h0_f34 h0_35 h0_36 h0_37 h0_38 h0_39 h0_40 h0_f41 h0_f42 h0_f43 h0_f44 h0_45 h0_46 h0_47 h0_48 h0_49 h0_50 h0_f51 h0_52 h0_f53 h0_5 h0_5k tN h0_5c)) (nw := (wd_c_X12_number h0 h0_f0 h0_1 h0_2 h0_3 h0_4 h0_5 h0_f6 h0_f7 h0_f8 h0_f9 x_31 (-1) h0_f12 h0_f13 h0_f14 h0_15 h0_16 h0_f17 h0_18 h0_19 h0_20 h0_21 h0_22 h0_23 h0_24 h0_25 h0_f26 h0_f27 h0_f28 h0_f29 h0_f30 h0_f31 h0_32 h0_33 h0_f34 h0_35 h0_36 h0_37 h0_38 h0_39 h0_40 h0_f41 h0_f42 h0_f43 h0_f44 h0_45 h0_46 h0_47 h0_48 h0_49 h0_50 h0_f51 h0_52 h0_f53 h0_5 h0_5k tN h0_5c)) hP hD [0, 1] [2, 3] 2 rfl hqc (by decide +kernel) rfl hk1 hFc hP1 hD1
    generalize H1 = H at hP hS ⊢
    as_aux_lemma =>
    rcases hw with ⟨h_44, h_45⟩ | ⟨h_46, h_47, h_48, h_49, h_50⟩
    · rw [h_44]
      refine lv_if_ne (tgt := 19) hx hb dX12_number_9 rfl (fun c_51 => absurd c_51 (by decide +kernel)) (fun c_51 => ?_)
      refine lv_aload_n hx hb dX12_number_12 rfl (lv_at hl 1 rfl) ?_
      obtain ⟨hPc, hDc, hFc, hqc⟩ := cl_cut (wc := (wd_c_X12_fails h0 h0_f0 h0_1 h0_2 h0_3 h0_4 h0_5 h0_f6 h0_f7 h0_f8 h0_f9 x_31 (-1) h0_f12 h0_f13 h0_f14 h0_15 h0_16 h0_f17 h0_18 h0_19 h0_20 h0_21 h0_22 h0_23 h0_24 h0_25 h0_f26 h0_f27 h0_f28 h0_f29 h0_f30 h0_f31 h0_32 h0_33 h0_f34 h0_35 h0_36 h0_37 h0_38 h0_39 h0_40 h0_f41 h0_f42 h0_f43 h0_f44 h0_45 h0_46 h0_47 h0_48 h0_49 h0_50 h0_f51 h0_52 h0_f53)) hP hD hS hA [0] (by decide +kernel) rfl
      have hKc := hK.sub (tys' := []) [] rfl
      have hrv := va_recv hKc hPc (ci := 12) (q0 := 0) rfl rfl
      refine va_calli (va_runV (As := []) (rest := []) ⟨hx, hb, hml, hown, hts⟩ (c_X12_fails l dC dI H.size h0 h0_f0 h0_1 h0_2 h0_3 h0_4 h0_5 h0_f6 h0_f7 h0_f8 h0_f9 x_31 h0_f12 h0_f13 h0_f14 h0_15 h0_16 h0_f17 h0_18 h0_19 h0_20 h0_21 h0_22 h0_23 h0_24 h0_25 h0_f26 h0_f27 h0_f28 h0_f29 h0_f30 h0_f31 h0_32 h0_33 h0_f34 h0_35 h0_36 h0_37 h0_38 h0_39 h0_40 h0_f41 h0_f42 h0_f43 h0_f44 h0_45 h0_46 h0_47 h0_48 h0_49 h0_50 h0_f51 h0_52 h0_f53 g_h0_f6 g_h0_f7 g_h0_f8 g_h0_f9 h_33 g_h0_f17 g_h0_f26 g_h0_f27 g_h0_f28 g_h0_f29 g_h0_f30 g_h0_f31 g_h0_f34 g_h0_f41 g_h0_f51 g_h0_f53) (cwV 0 hts gf_c_X12_number_c_X12_fails rfl rfl rfl mdV_X12_fails ⟨Nat.le_of_ble_eq_true rfl, Nat.le_of_ble_eq_true rfl⟩) ⟨fun a U g mk q => by obtain ⟨q0, q1, qP, qK, qD⟩ := q; exact ⟨q0, q1, qP, va_K.moved (u := U) (U := U.calling g mk a) (Vm.Alike.refl U.vm) qK, qD⟩, hrv, fun U hU hW => ⟨rfl, by rw [hU], by rw [hU]; exact hPc, va_K.moved hW.alike hKc, hDc.weaken (fun _ _ _ _ => trivial)⟩⟩ rfl rfl hl.1 rfl (lv_room (Nat.le_of_ble_eq_true rfl)) dX12_number_13 ⟨Nat.le_of_ble_eq_true rfl, Nat.le_of_ble_eq_true rfl⟩) hS (fun q _ h => hFc q h) hFc (fun r_52 u t H1 locs ht hvm hw hB hz1 hk1 hS => ?_)
      obtain ⟨hP1, hK1, hD1⟩ := hB
      rw [ht] at hP1
      obtain ⟨hP, hD⟩ := cl_put (w1 := (wd_c_X12_fails h0 h0_f0 h0_1 h0_2 h0_3 h0_4 h0_5 h0_f6 h0_f7 h0_f8 h0_f9 x_31 x_31 h0_f12 h0_f13 h0_f14 h0_15 h0_16 h0_f17 h0_18 h0_19 h0_20 h0_21 h0_22 h0_23 h0_24 h0_25 h0_f26 h0_f27 h0_f28 h0_f29 h0_f30 h0_f31 h0_32 h0_33 h0_f34 h0_35 h0_36 h0_37 h0_38 h0_39 h0_40 h0_f41 h0_f42 h0_f43 h0_f44 h0_45 h0_46 h0_47 h0_48 h0_49 h0_50 h0_f51 h0_52 h0_f53)) (nw := (wd_c_X12_number h0 h0_f0 h0_1 h0_2 h0_3 h0_4 h0_5 h0_f6 h0_f7 h0_f8 h0_f9 x_31 x_31 h0_f12 h0_f13 h0_f14 h0_15 h0_16 h0_f17 h0_18 h0_19 h0_20 h0_21 h0_22 h0_23 h0_24 h0_25 h0_f26 h0_f27 h0_f28 h0_f29 h0_f30 h0_f31 h0_32 h0_33 h0_f34 h0_35 h0_36 h0_37 h0_38 h0_39 h0_40 h0_f41 h0_f42 h0_f43 h0_f44 h0_45 h0_46 h0_47 h0_48 h0_49 h0_50 h0_f51 h0_52 h0_f53 h0_5 h0_5k tN h0_5c)) hP hD [0] [2, 1] 2 rfl hqc (by decide +kernel) rfl hk1 hFc hP1 hD1
      generalize H1 = H at hP hS ⊢
      as_aux_lemma =>
      have h_53 := hw
      rw [h_53]
      refine lv_pop hx hb dX12_number_16 rfl ?_
      refine lv_iconst (v := 0) hx hb dX12_number_17 kc_iconst_0 ?_
      have hK9 := hK.sub (tys' := []) [] rfl
      exact W.iret (v := 0) hx hb hr (fun t ht hW => ⟨⟨0, (x_31, x_31), rfl, (Or.inl ⟨rfl, h_33, h_33, (by have := h_34; show h0_f10.toInt + 0 ≤ x_31.toInt; omega)⟩), by rw [ht]; exact hP, va_K.moved hW.alike hK9, hD⟩, hS.F ht⟩) hS.2.2 dX12_number_18
    · rw [h_46]
      exfalso
      have := h_49
      have := h_35
      omega
  · have nb_54 := h_42.2.resolve_left (fun q => by have g9 := h_37; rw [q] at g9; exact absurd g9.1 (by decide +kernel))
    refine lv_istore_n (lv' := [(3, .int r_30), (0, .ref h0), (1, .int 0), (2, .int 9)]) hx hb dX12_number_4 rfl hl (Nat.le_of_ble_eq_true rfl) rfl (fun ls hl => ?_)
    refine lv_aload_n hx hb dX12_number_5 rfl (lv_at hl 1 rfl) ?_
    as_aux_lemma =>
    obtain ⟨hPc, hDc, hFc, hqc⟩ := cl_cut (wc := (wd_c_X12_isDigit h0 h0_f0 h0_1 h0_2 h0_3 h0_4 h0_5 h0_f6 h0_f7 h0_f8 h0_f9 x_31 (-1) h0_f12 h0_f13 h0_f14 h0_15 h0_16 h0_f17 h0_18 h0_19 h0_20 h0_21 h0_22 h0_23 h0_24 h0_25 h0_f26 h0_f27 h0_f28 h0_f29 h0_f30 h0_f31 h0_32 h0_33 h0_f34 h0_35 h0_36 h0_37 h0_38 h0_39 h0_40 h0_f41 h0_f42 h0_f43 h0_f44 h0_45 h0_46 h0_47 h0_48 h0_49 h0_50 h0_f51 h0_52 h0_f53 h0_5 h0_5k tN h0_5c)) hP hD hS hA [0, 1] (by decide +kernel) rfl
    have hKc := hK.sub (tys' := [(h0_5k, .byte)]) [0] rfl
    have hrv := va_recv hKc hPc (ci := 12) (q0 := 0) rfl rfl
    refine va_calli (va_runV (As := []) (rest := []) ⟨hx, hb, hml, hown, hts⟩ (c_X12_isDigit l dC dI H.size h0 h0_f0 h0_1 h0_2 h0_3 h0_4 h0_5 h0_f6 h0_f7 h0_f8 h0_f9 x_31 h0_f12 h0_f13 h0_f14 h0_15 h0_16 h0_f17 h0_18 h0_19 h0_20 h0_21 h0_22 h0_23 h0_24 h0_25 h0_f26 h0_f27 h0_f28 h0_f29 h0_f30 h0_f31 h0_32 h0_33 h0_f34 h0_35 h0_36 h0_37 h0_38 h0_39 h0_40 h0_f41 h0_f42 h0_f43 h0_f44 h0_45 h0_46 h0_47 h0_48 h0_49 h0_50 h0_f51 h0_52 h0_f53 h0_5k h0_5c tN g_h0_f6 g_h0_f7 g_h0_f8 (RG_w h_39 (by decide +kernel)) (RG_w h_38 (by decide +kernel)) g_h0_f17 g_h0_f26 g_h0_f27 g_h0_f28 g_h0_f29 g_h0_f30 g_h0_f31 g_h0_f34 g_h0_f41 g_h0_f51 g_h0_f53 htN) (cwV 0 hts gf_c_X12_number_c_X12_isDigit rfl rfl rfl mdV_X12_isDigit ⟨Nat.le_of_ble_eq_true rfl, Nat.le_of_ble_eq_true rfl⟩) ⟨fun a U g mk q => by obtain ⟨q0, q1, qP, qK, qD⟩ := q; exact ⟨q0, q1, qP, va_K.moved (u := U) (U := U.calling g mk a) (Vm.Alike.refl U.vm) qK, qD⟩, hrv, fun U hU hW => ⟨rfl, by rw [hU], by rw [hU]; exact hPc, va_K.moved hW.alike hKc, hDc.weaken (fun _ _ _ _ => trivial)⟩⟩ rfl rfl hl.1 rfl (lv_room (Nat.le_of_ble_eq_true rfl)) dX12_number_6 ⟨Nat.le_of_ble_eq_true rfl, Nat.le_of_ble_eq_true rfl⟩) hS (fun q _ h => hFc q h) hFc (fun r_55 u t H1 locs ht hvm hw hB hz1 hk1 hS => ?_)
    obtain ⟨hP1, hK1, hD1⟩ := hB
    rw [ht] at hP1
    obtain ⟨hP, hD⟩ := cl_put (w1 := (wd_c_X12_isDigit h0 h0_f0 h0_1 h0_2 h0_3 h0_4 h0_5 h0_f6 h0_f7 h0_f8 h0_f9 x_31 (-1) h0_f12 h0_f13 h0_f14 h0_15 h0_16 h0_f17 h0_18 h0_19 h0_20 h0_21 h0_22 h0_23 h0_24 h0_25 h0_f26 h0_f27 h0_f28 h0_f29 h0_f30 h0_f31 h0_32 h0_33 h0_f34 h0_35 h0_36 h0_37 h0_38 h0_39 h0_40 h0_f41 h0_f42 h0_f43 h0_f44 h0_45 h0_46 h0_47 h0_48 h0_49 h0_50 h0_f51 h0_52 h0_f53 h0_5 h0_5k tN h0_5c)) (nw := (wd_c_X12_number h0 h0_f0 h0_1 h0_2 h0_3 h0_4 h0_5 h0_f6 h0_f7 h0_f8 h0_f9 x_31 (-1) h0_f12 h0_f13 h0_f14 h0_15 h0_16 h0_f17 h0_18 h0_19 h0_20 h0_21 h0_22 h0_23 h0_24 h0_25 h0_f26 h0_f27 h0_f28 h0_f29 h0_f30 h0_f31 h0_32 h0_33 h0_f34 h0_35 h0_36 h0_37 h0_38 h0_39 h0_40 h0_f41 h0_f42 h0_f43 h0_f44 h0_45 h0_46 h0_47 h0_48 h0_49 h0_50 h0_f51 h0_52 h0_f53 h0_5 h0_5k tN h0_5c)) hP hD [0, 1] [2, 3] 2 rfl hqc (by decide +kernel) rfl hk1 hFc hP1 hD1
    generalize H1 = H at hP hS ⊢
    as_aux_lemma =>
    rcases hw with ⟨h_56, h_57⟩ | ⟨h_58, h_59, h_60, h_61, h_62⟩
    · rw [h_56]
      refine lv_if_ne (tgt := 19) hx hb dX12_number_9 rfl (fun c_63 => absurd c_63 (by decide +kernel)) (fun c_63 => ?_)
      refine lv_aload_n hx hb dX12_number_12 rfl (lv_at hl 1 rfl) ?_
      obtain ⟨hPc, hDc, hFc, hqc⟩ := cl_cut (wc := (wd_c_X12_fails h0 h0_f0 h0_1 h0_2 h0_3 h0_4 h0_5 h0_f6 h0_f7 h0_f8 h0_f9 x_31 (-1) h0_f12 h0_f13 h0_f14 h0_15 h0_16 h0_f17 h0_18 h0_19 h0_20 h0_21 h0_22 h0_23 h0_24 h0_25 h0_f26 h0_f27 h0_f28 h0_f29 h0_f30 h0_f31 h0_32 h0_33 h0_f34 h0_35 h0_36 h0_37 h0_38 h0_39 h0_40 h0_f41 h0_f42 h0_f43 h0_f44 h0_45 h0_46 h0_47 h0_48 h0_49 h0_50 h0_f51 h0_52 h0_f53)) hP hD hS hA [0] (by decide +kernel) rfl
      have hKc := hK.sub (tys' := []) [] rfl
      have hrv := va_recv hKc hPc (ci := 12) (q0 := 0) rfl rfl
      refine va_calli (va_runV (As := []) (rest := []) ⟨hx, hb, hml, hown, hts⟩ (c_X12_fails l dC dI H.size h0 h0_f0 h0_1 h0_2 h0_3 h0_4 h0_5 h0_f6 h0_f7 h0_f8 h0_f9 x_31 h0_f12 h0_f13 h0_f14 h0_15 h0_16 h0_f17 h0_18 h0_19 h0_20 h0_21 h0_22 h0_23 h0_24 h0_25 h0_f26 h0_f27 h0_f28 h0_f29 h0_f30 h0_f31 h0_32 h0_33 h0_f34 h0_35 h0_36 h0_37 h0_38 h0_39 h0_40 h0_f41 h0_f42 h0_f43 h0_f44 h0_45 h0_46 h0_47 h0_48 h0_49 h0_50 h0_f51 h0_52 h0_f53 g_h0_f6 g_h0_f7 g_h0_f8 (RG_w h_39 (by decide +kernel)) (RG_w h_38 (by decide +kernel)) g_h0_f17 g_h0_f26 g_h0_f27 g_h0_f28 g_h0_f29 g_h0_f30 g_h0_f31 g_h0_f34 g_h0_f41 g_h0_f51 g_h0_f53) (cwV 0 hts gf_c_X12_number_c_X12_fails rfl rfl rfl mdV_X12_fails ⟨Nat.le_of_ble_eq_true rfl, Nat.le_of_ble_eq_true rfl⟩) ⟨fun a U g mk q => by obtain ⟨q0, q1, qP, qK, qD⟩ := q; exact ⟨q0, q1, qP, va_K.moved (u := U) (U := U.calling g mk a) (Vm.Alike.refl U.vm) qK, qD⟩, hrv, fun U hU hW => ⟨rfl, by rw [hU], by rw [hU]; exact hPc, va_K.moved hW.alike hKc, hDc.weaken (fun _ _ _ _ => trivial)⟩⟩ rfl rfl hl.1 rfl (lv_room (Nat.le_of_ble_eq_true rfl)) dX12_number_13 ⟨Nat.le_of_ble_eq_true rfl, Nat.le_of_ble_eq_true rfl⟩) hS (fun q _ h => hFc q h) hFc (fun r_64 u t H1 locs ht hvm hw hB hz1 hk1 hS => ?_)
      obtain ⟨hP1, hK1, hD1⟩ := hB
      rw [ht] at hP1
      obtain ⟨hP, hD⟩ := cl_put (w1 := (wd_c_X12_fails h0 h0_f0 h0_1 h0_2 h0_3 h0_4 h0_5 h0_f6 h0_f7 h0_f8 h0_f9 x_31 x_31 h0_f12 h0_f13 h0_f14 h0_15 h0_16 h0_f17 h0_18 h0_19 h0_20 h0_21 h0_22 h0_23 h0_24 h0_25 h0_f26 h0_f27 h0_f28 h0_f29 h0_f30 h0_f31 h0_32 h0_33 h0_f34 h0_35 h0_36 h0_37 h0_38 h0_39 h0_40 h0_f41 h0_f42 h0_f43 h0_f44 h0_45 h0_46 h0_47 h0_48 h0_49 h0_50 h0_f51 h0_52 h0_f53)) (nw := (wd_c_X12_number h0 h0_f0 h0_1 h0_2 h0_3 h0_4 h0_5 h0_f6 h0_f7 h0_f8 h0_f9 x_31 x_31 h0_f12 h0_f13 h0_f14 h0_15 h0_16 h0_f17 h0_18 h0_19 h0_20 h0_21 h0_22 h0_23 h0_24 h0_25 h0_f26 h0_f27 h0_f28 h0_f29 h0_f30 h0_f31 h0_32 h0_33 h0_f34 h0_35 h0_36 h0_37 h0_38 h0_39 h0_40 h0_f41 h0_f42 h0_f43 h0_f44 h0_45 h0_46 h0_47 h0_48 h0_49 h0_50 h0_f51 h0_52 h0_f53 h0_5 h0_5k tN h0_5c)) hP hD [0] [2, 1] 2 rfl hqc (by decide +kernel) rfl hk1 hFc hP1 hD1
      generalize H1 = H at hP hS ⊢
      as_aux_lemma =>
      have h_65 := hw
      rw [h_65]
      refine lv_pop hx hb dX12_number_16 rfl ?_
      refine lv_iconst (v := 0) hx hb dX12_number_17 kc_iconst_0 ?_
      have hK9 := hK.sub (tys' := []) [] rfl
      exact W.iret (v := 0) hx hb hr (fun t ht hW => ⟨⟨0, (x_31, x_31), rfl, (Or.inl ⟨rfl, (RG_w h_38 (by decide +kernel)), (RG_w h_38 (by decide +kernel)), (by have := h_40; show h0_f10.toInt + 0 ≤ x_31.toInt; omega)⟩), by rw [ht]; exact hP, va_K.moved hW.alike hK9, hD⟩, hS.F ht⟩) hS.2.2 dX12_number_18
    · rw [h_58]
      have g_66 := h_62 h_58
      have g_67 : RG r_30 48 57 := RG_dig h_42.1 g_66 trivial h_37 (by decide +kernel)
      refine lv_if_ne (tgt := 19) hx hb dX12_number_9 rfl (fun c_68 => ?_) (fun c_68 => absurd c_68 (by decide +kernel))
      refine lv_iload_n hx hb dX12_number_19 rfl (lv_at hl 0 rfl) ?_
      refine lv_bipush (v := 48) hx hb dX12_number_20 kc_bipush_48 ?_
      refine lv_isub hx hb dX12_number_22 ?_
      refine lv_topi (fun x_69 ex_69 => ?_)
      as_aux_lemma =>
      have g_70 : RG x_69 0 9 := RG_sub ex_69 g_67 (RG_k 48 48 rfl) (by decide +kernel)
      refine lv_istore (lv' := [(4, .int x_69), (3, .int r_30), (0, .ref h0), (1, .int 0), (2, .int 9)]) hx hb dX12_number_23 hl (Nat.le_of_ble_eq_true rfl) rfl (fun ls hl => ?_)
      refine lv_aload_n hx hb dX12_number_25 rfl (lv_at hl 2 rfl) ?_
      refine lv_dup hx hb dX12_number_26 rfl ?_
      refine va_get (D := (dC, dI)) (ci := 12) (v := .int x_31) (C := RX12) (T := TX12) (N := 54) hx hb hts iw_c_X12_number_X12 hown hK hP 0 rfl rfl 10 (by decide +kernel) (hts (.fieldLink RX12 134 "BuoyVoteModel" "at" "I") (List.mem_of_getElem? (i := 6) rfl)) (fun _ h9 => h9) rfl dX12_number_27 ?_
      refine lv_iconst (v := 1) hx hb dX12_number_30 kc_iconst_1 ?_
      refine lv_iadd hx hb dX12_number_31 ?_
      refine lv_topi (fun x_71 ex_71 => ?_)
      have g_72 : RG x_71 1 240 := RG_add ex_71 h_38 (RG_k 1 1 rfl) (by decide +kernel)
      have q_73 : x_71.toInt = x_31.toInt + 1 := eq_add ex_71 h_38 (q := 1) rfl (by decide +kernel)
      refine va_put (D := (dC, dI)) (ci := 12) (v := .int x_71) (ty := .int) (C := RX12) (T := TX12) (N := 54) hx hb hts iw_c_X12_number_X12 tyX12 tyX12_ok nmX12 hown hK hP hD hS 0 rfl rfl 10 (by decide +kernel) (hts (.fieldLink RX12 134 "BuoyVoteModel" "at" "I") (List.mem_of_getElem? (i := 6) rfl)) (fun _ h9 => h9) rfl (by decide +kernel) rfl rfl (Nat.le_of_ble_eq_true rfl) dX12_number_32 (fun H locs hP hD hS => ?_)
      have hP : va_P (dC, dI) vwCl (wd_c_X12_number h0 h0_f0 h0_1 h0_2 h0_3 h0_4 h0_5 h0_f6 h0_f7 h0_f8 h0_f9 x_71 (-1) h0_f12 h0_f13 h0_f14 h0_15 h0_16 h0_f17 h0_18 h0_19 h0_20 h0_21 h0_22 h0_23 h0_24 h0_25 h0_f26 h0_f27 h0_f28 h0_f29 h0_f30 h0_f31 h0_32 h0_33 h0_f34 h0_35 h0_36 h0_37 h0_38 h0_39 h0_40 h0_f41 h0_f42 h0_f43 h0_f44 h0_45 h0_46 h0_47 h0_48 h0_49 h0_50 h0_f51 h0_52 h0_f53 h0_5 h0_5k tN h0_5c) H := hP
      have hD : va_D A (wd_c_X12_number h0 h0_f0 h0_1 h0_2 h0_3 h0_4 h0_5 h0_f6 h0_f7 h0_f8 h0_f9 x_71 (-1) h0_f12 h0_f13 h0_f14 h0_15 h0_16 h0_f17 h0_18 h0_19 h0_20 h0_21 h0_22 h0_23 h0_24 h0_25 h0_f26 h0_f27 h0_f28 h0_f29 h0_f30 h0_f31 h0_32 h0_33 h0_f34 h0_35 h0_36 h0_37 h0_38 h0_39 h0_40 h0_f41 h0_f42 h0_f43 h0_f44 h0_45 h0_46 h0_47 h0_48 h0_49 h0_50 h0_f51 h0_52 h0_f53 h0_5 h0_5k tN h0_5c) := hD
      refine lv_aload_n hx hb dX12_number_35 rfl (lv_at hl 2 rfl) ?_
      as_aux_lemma =>
      obtain ⟨hPc, hDc, hFc, hqc⟩ := cl_cut (wc := (wd_c_X12_isDigit h0 h0_f0 h0_1 h0_2 h0_3 h0_4 h0_5 h0_f6 h0_f7 h0_f8 h0_f9 x_71 (-1) h0_f12 h0_f13 h0_f14 h0_15 h0_16 h0_f17 h0_18 h0_19 h0_20 h0_21 h0_22 h0_23 h0_24 h0_25 h0_f26 h0_f27 h0_f28 h0_f29 h0_f30 h0_f31 h0_32 h0_33 h0_f34 h0_35 h0_36 h0_37 h0_38 h0_39 h0_40 h0_f41 h0_f42 h0_f43 h0_f44 h0_45 h0_46 h0_47 h0_48 h0_49 h0_50 h0_f51 h0_52 h0_f53 h0_5 h0_5k tN h0_5c)) hP hD hS hA [0, 1] (by decide +kernel) rfl
      have hKc := hK.sub (tys' := [(h0_5k, .byte)]) [0] rfl
      have hrv := va_recv hKc hPc (ci := 12) (q0 := 0) rfl rfl
      refine va_calli (va_runV (As := []) (rest := []) ⟨hx, hb, hml, hown, hts⟩ (c_X12_isDigit l dC dI H.size h0 h0_f0 h0_1 h0_2 h0_3 h0_4 h0_5 h0_f6 h0_f7 h0_f8 h0_f9 x_71 h0_f12 h0_f13 h0_f14 h0_15 h0_16 h0_f17 h0_18 h0_19 h0_20 h0_21 h0_22 h0_23 h0_24 h0_25 h0_f26 h0_f27 h0_f28 h0_f29 h0_f30 h0_f31 h0_32 h0_33 h0_f34 h0_35 h0_36 h0_37 h0_38 h0_39 h0_40 h0_f41 h0_f42 h0_f43 h0_f44 h0_45 h0_46 h0_47 h0_48 h0_49 h0_50 h0_f51 h0_52 h0_f53 h0_5k h0_5c tN g_h0_f6 g_h0_f7 g_h0_f8 (RG_w h_39 (by decide +kernel)) (RG_w g_72 (by decide +kernel)) g_h0_f17 g_h0_f26 g_h0_f27 g_h0_f28 g_h0_f29 g_h0_f30 g_h0_f31 g_h0_f34 g_h0_f41 g_h0_f51 g_h0_f53 htN) (cwV 0 hts gf_c_X12_number_c_X12_isDigit rfl rfl rfl mdV_X12_isDigit ⟨Nat.le_of_ble_eq_true rfl, Nat.le_of_ble_eq_true rfl⟩) ⟨fun a U g mk q => by obtain ⟨q0, q1, qP, qK, qD⟩ := q; exact ⟨q0, q1, qP, va_K.moved (u := U) (U := U.calling g mk a) (Vm.Alike.refl U.vm) qK, qD⟩, hrv, fun U hU hW => ⟨rfl, by rw [hU], by rw [hU]; exact hPc, va_K.moved hW.alike hKc, hDc.weaken (fun _ _ _ _ => trivial)⟩⟩ rfl rfl hl.1 rfl (lv_room (Nat.le_of_ble_eq_true rfl)) dX12_number_36 ⟨Nat.le_of_ble_eq_true rfl, Nat.le_of_ble_eq_true rfl⟩) hS (fun q _ h => hFc q h) hFc (fun r_74 u t H1 locs ht hvm hw hB hz1 hk1 hS => ?_)
      obtain ⟨hP1, hK1, hD1⟩ := hB
      rw [ht] at hP1
      obtain ⟨hP, hD⟩ := cl_put (w1 := (wd_c_X12_isDigit h0 h0_f0 h0_1 h0_2 h0_3 h0_4 h0_5 h0_f6 h0_f7 h0_f8 h0_f9 x_71 (-1) h0_f12 h0_f13 h0_f14 h0_15 h0_16 h0_f17 h0_18 h0_19 h0_20 h0_21 h0_22 h0_23 h0_24 h0_25 h0_f26 h0_f27 h0_f28 h0_f29 h0_f30 h0_f31 h0_32 h0_33 h0_f34 h0_35 h0_36 h0_37 h0_38 h0_39 h0_40 h0_f41 h0_f42 h0_f43 h0_f44 h0_45 h0_46 h0_47 h0_48 h0_49 h0_50 h0_f51 h0_52 h0_f53 h0_5 h0_5k tN h0_5c)) (nw := (wd_c_X12_number h0 h0_f0 h0_1 h0_2 h0_3 h0_4 h0_5 h0_f6 h0_f7 h0_f8 h0_f9 x_71 (-1) h0_f12 h0_f13 h0_f14 h0_15 h0_16 h0_f17 h0_18 h0_19 h0_20 h0_21 h0_22 h0_23 h0_24 h0_25 h0_f26 h0_f27 h0_f28 h0_f29 h0_f30 h0_f31 h0_32 h0_33 h0_f34 h0_35 h0_36 h0_37 h0_38 h0_39 h0_40 h0_f41 h0_f42 h0_f43 h0_f44 h0_45 h0_46 h0_47 h0_48 h0_49 h0_50 h0_f51 h0_52 h0_f53 h0_5 h0_5k tN h0_5c)) hP hD [0, 1] [2, 3] 2 rfl hqc (by decide +kernel) rfl hk1 hFc hP1 hD1
      generalize H1 = H at hP hS ⊢
      as_aux_lemma =>
      rcases hw with ⟨h_75, h_76⟩ | ⟨h_77, h_78, h_79, h_80, h_81⟩
      · rw [h_75]
        refine lv_if_eq (tgt := 67) hx hb dX12_number_39 rfl (fun c_82 => ?_) (fun c_82 => absurd c_82 (by decide +kernel))
        exact hU _ _ _ (J67 x_69 x_71 g_h0_f10 g_h0_f17 g_h0_f26 g_h0_f27 g_h0_f28 g_h0_f29 g_h0_f30 g_h0_f31 g_h0_f34 g_h0_f41 g_h0_f51 g_h0_f53 g_h0_f6 g_h0_f7 g_h0_f8 h_39 g_72 (RG_w g_70 (by decide +kernel)) (by have := h_40; have := q_73; omega) _ _ _ hP hD hS (lv_sub hl [0, 2, 3, 4] rfl))
      · rw [h_77]
        have g_83 : RG x_71 1 239 := RG_eq1 g_72 h_78 rfl (by decide +kernel)
        have g_84 : RG x_31 0 238 := RG_addb ex_71 (q := 1) rfl h_38 g_83 (by decide +kernel)
        have g_85 := h_81 h_77
        refine lv_if_eq (tgt := 67) hx hb dX12_number_39 rfl (fun c_86 => absurd c_86 (by decide +kernel)) (fun c_86 => ?_)
        refine lv_bipush (v := 10) hx hb dX12_number_42 kc_bipush_10 ?_
        refine lv_iload hx hb dX12_number_44 (lv_at hl 0 rfl) ?_
        refine lv_imul hx hb dX12_number_46 ?_
        refine lv_topi (fun x_87 ex_87 => ?_)
        have g_88 : RG x_87 0 90 := RG_mulc (RG_com ex_87) (q := 10) rfl g_70 (by decide +kernel)
        refine lv_aload_n hx hb dX12_number_47 rfl (lv_at hl 2 rfl) ?_
        as_aux_lemma =>
        obtain ⟨hPc, hDc, hFc, hqc⟩ := cl_cut (wc := (wd_c_X12_here h0 h0_f0 h0_1 h0_2 h0_3 h0_4 h0_5 h0_f6 h0_f7 h0_f8 h0_f9 x_71 (-1) h0_f12 h0_f13 h0_f14 h0_15 h0_16 h0_f17 h0_18 h0_19 h0_20 h0_21 h0_22 h0_23 h0_24 h0_25 h0_f26 h0_f27 h0_f28 h0_f29 h0_f30 h0_f31 h0_32 h0_33 h0_f34 h0_35 h0_36 h0_37 h0_38 h0_39 h0_40 h0_f41 h0_f42 h0_f43 h0_f44 h0_45 h0_46 h0_47 h0_48 h0_49 h0_50 h0_f51 h0_52 h0_f53 h0_5 h0_5k tN h0_5c)) hP hD hS hA [0, 1] (by decide +kernel) rfl
        have hKc := hK.sub (tys' := [(h0_5k, .byte)]) [0] rfl
        have hrv := va_recv hKc hPc (ci := 12) (q0 := 0) rfl rfl
        refine va_calli (va_runV (As := []) (rest := [.int x_87]) ⟨hx, hb, hml, hown, hts⟩ (c_X12_here l dC dI H.size h0 h0_f0 h0_1 h0_2 h0_3 h0_4 h0_5 h0_f6 h0_f7 h0_f8 h0_f9 x_71 h0_f12 h0_f13 h0_f14 h0_15 h0_16 h0_f17 h0_18 h0_19 h0_20 h0_21 h0_22 h0_23 h0_24 h0_25 h0_f26 h0_f27 h0_f28 h0_f29 h0_f30 h0_f31 h0_32 h0_33 h0_f34 h0_35 h0_36 h0_37 h0_38 h0_39 h0_40 h0_f41 h0_f42 h0_f43 h0_f44 h0_45 h0_46 h0_47 h0_48 h0_49 h0_50 h0_f51 h0_52 h0_f53 h0_5k h0_5c tN g_h0_f6 g_h0_f7 g_h0_f8 (RG_w h_39 (by decide +kernel)) (RG_w g_83 (by decide +kernel)) g_h0_f17 g_h0_f26 g_h0_f27 g_h0_f28 g_h0_f29 g_h0_f30 g_h0_f31 g_h0_f34 g_h0_f41 g_h0_f51 g_h0_f53 htN) (cwV 0 hts gf_c_X12_number_c_X12_here rfl rfl rfl mdV_X12_here ⟨Nat.le_of_ble_eq_true rfl, Nat.le_of_ble_eq_true rfl⟩) ⟨fun a U g mk q => by obtain ⟨q0, q1, qP, qK, qD⟩ := q; exact ⟨q0, q1, qP, va_K.moved (u := U) (U := U.calling g mk a) (Vm.Alike.refl U.vm) qK, qD⟩, hrv, fun U hU hW => ⟨rfl, by rw [hU], by rw [hU]; exact hPc, va_K.moved hW.alike hKc, hDc.weaken (fun _ _ _ _ => trivial)⟩⟩ rfl rfl hl.1 rfl (lv_room (Nat.le_of_ble_eq_true rfl)) dX12_number_48 ⟨Nat.le_of_ble_eq_true rfl, Nat.le_of_ble_eq_true rfl⟩) hS (fun q _ h => hFc q h) hFc (fun r_89 u t H1 locs ht hvm hw hB hz1 hk1 hS => ?_)
        obtain ⟨hP1, hK1, hD1⟩ := hB
        rw [ht] at hP1
        obtain ⟨hP, hD⟩ := cl_put (w1 := (wd_c_X12_here h0 h0_f0 h0_1 h0_2 h0_3 h0_4 h0_5 h0_f6 h0_f7 h0_f8 h0_f9 x_71 (-1) h0_f12 h0_f13 h0_f14 h0_15 h0_16 h0_f17 h0_18 h0_19 h0_20 h0_21 h0_22 h0_23 h0_24 h0_25 h0_f26 h0_f27 h0_f28 h0_f29 h0_f30 h0_f31 h0_32 h0_33 h0_f34 h0_35 h0_36 h0_37 h0_38 h0_39 h0_40 h0_f41 h0_f42 h0_f43 h0_f44 h0_45 h0_46 h0_47 h0_48 h0_49 h0_50 h0_f51 h0_52 h0_f53 h0_5 h0_5k tN h0_5c)) (nw := (wd_c_X12_number h0 h0_f0 h0_1 h0_2 h0_3 h0_4 h0_5 h0_f6 h0_f7 h0_f8 h0_f9 x_71 (-1) h0_f12 h0_f13 h0_f14 h0_15 h0_16 h0_f17 h0_18 h0_19 h0_20 h0_21 h0_22 h0_23 h0_24 h0_25 h0_f26 h0_f27 h0_f28 h0_f29 h0_f30 h0_f31 h0_32 h0_33 h0_f34 h0_35 h0_36 h0_37 h0_38 h0_39 h0_40 h0_f41 h0_f42 h0_f43 h0_f44 h0_45 h0_46 h0_47 h0_48 h0_49 h0_50 h0_f51 h0_52 h0_f53 h0_5 h0_5k tN h0_5c)) hP hD [0, 1] [2, 3] 2 rfl hqc (by decide +kernel) rfl hk1 hFc hP1 hD1
        generalize H1 = H at hP hS ⊢
        as_aux_lemma =>
        rcases hw with ⟨h_90, h_91, h_92⟩ | ⟨h_93, h_94, h_95, h_96⟩
        · rw [h_90]
          exfalso
          have := h_91
          have := h_80
          omega
        · have g_97 : RG r_89 48 57 := RG_dig h_96 g_85 trivial h_93 (by decide +kernel)
          refine lv_iadd hx hb dX12_number_51 ?_
          refine lv_topi (fun x_98 ex_98 => ?_)
          have g_99 : RG x_98 48 147 := RG_add ex_98 g_88 g_97 (by decide +kernel)
          refine lv_bipush (v := 48) hx hb dX12_number_52 kc_bipush_48 ?_
          refine lv_isub hx hb dX12_number_54 ?_
          refine lv_topi (fun x_100 ex_100 => ?_)
          have g_101 : RG x_100 0 99 := RG_sub ex_100 g_99 (RG_k 48 48 rfl) (by decide +kernel)
          refine lv_istore (lv' := [(4, .int x_100), (3, .int r_30), (0, .ref h0), (1, .int 0), (2, .int 9)]) hx hb dX12_number_55 hl (Nat.le_of_ble_eq_true rfl) rfl (fun ls hl => ?_)
          as_aux_lemma =>
          refine lv_aload_n hx hb dX12_number_57 rfl (lv_at hl 2 rfl) ?_
          refine lv_dup hx hb dX12_number_58 rfl ?_
          refine va_get (D := (dC, dI)) (ci := 12) (v := .int x_71) (C := RX12) (T := TX12) (N := 54) hx hb hts iw_c_X12_number_X12 hown hK hP 0 rfl rfl 10 (by decide +kernel) (hts (.fieldLink RX12 134 "BuoyVoteModel" "at" "I") (List.mem_of_getElem? (i := 6) rfl)) (fun _ h9 => h9) rfl dX12_number_59 ?_
          refine lv_iconst (v := 1) hx hb dX12_number_62 kc_iconst_1 ?_
          refine lv_iadd hx hb dX12_number_63 ?_
          refine lv_topi (fun x_102 ex_102 => ?_)
          have g_103 : RG x_102 2 240 := RG_add ex_102 g_83 (RG_k 1 1 rfl) (by decide +kernel)
          have q_104 : x_102.toInt = x_71.toInt + 1 := eq_add ex_102 g_83 (q := 1) rfl (by decide +kernel)
          refine va_put (D := (dC, dI)) (ci := 12) (v := .int x_102) (ty := .int) (C := RX12) (T := TX12) (N := 54) hx hb hts iw_c_X12_number_X12 tyX12 tyX12_ok nmX12 hown hK hP hD hS 0 rfl rfl 10 (by decide +kernel) (hts (.fieldLink RX12 134 "BuoyVoteModel" "at" "I") (List.mem_of_getElem? (i := 6) rfl)) (fun _ h9 => h9) rfl (by decide +kernel) rfl rfl (Nat.le_of_ble_eq_true rfl) dX12_number_64 (fun H locs hP hD hS => ?_)
          have hP : va_P (dC, dI) vwCl (wd_c_X12_number h0 h0_f0 h0_1 h0_2 h0_3 h0_4 h0_5 h0_f6 h0_f7 h0_f8 h0_f9 x_102 (-1) h0_f12 h0_f13 h0_f14 h0_15 h0_16 h0_f17 h0_18 h0_19 h0_20 h0_21 h0_22 h0_23 h0_24 h0_25 h0_f26 h0_f27 h0_f28 h0_f29 h0_f30 h0_f31 h0_32 h0_33 h0_f34 h0_35 h0_36 h0_37 h0_38 h0_39 h0_40 h0_f41 h0_f42 h0_f43 h0_f44 h0_45 h0_46 h0_47 h0_48 h0_49 h0_50 h0_f51 h0_52 h0_f53 h0_5 h0_5k tN h0_5c) H := hP
          have hD : va_D A (wd_c_X12_number h0 h0_f0 h0_1 h0_2 h0_3 h0_4 h0_5 h0_f6 h0_f7 h0_f8 h0_f9 x_102 (-1) h0_f12 h0_f13 h0_f14 h0_15 h0_16 h0_f17 h0_18 h0_19 h0_20 h0_21 h0_22 h0_23 h0_24 h0_25 h0_f26 h0_f27 h0_f28 h0_f29 h0_f30 h0_f31 h0_32 h0_33 h0_f34 h0_35 h0_36 h0_37 h0_38 h0_39 h0_40 h0_f41 h0_f42 h0_f43 h0_f44 h0_45 h0_46 h0_47 h0_48 h0_49 h0_50 h0_f51 h0_52 h0_f53 h0_5 h0_5k tN h0_5c) := hD
          exact hU _ _ _ (J67 x_100 x_102 g_h0_f10 g_h0_f17 g_h0_f26 g_h0_f27 g_h0_f28 g_h0_f29 g_h0_f30 g_h0_f31 g_h0_f34 g_h0_f41 g_h0_f51 g_h0_f53 g_h0_f6 g_h0_f7 g_h0_f8 h_39 (RG_w g_103 (by decide +kernel)) g_101 (by have := h_40; have := q_73; have := q_104; omega) _ _ _ hP hD hS (lv_sub hl [0, 2, 3, 4] rfl))
noncomputable def wf_c_X12_leastOf_1 : List Cond := .code yX12_leastOf cX12_leastOf 2 (some .int) :: ([])
set_option maxHeartbeats 4000000 in
set_option maxRecDepth 100000 in
theorem c_X12_leastOf_1 (l : Launch) (dC : Nat → ClassId) (dI : Nat → Nat → Nat) (sz : Nat) (p0 : Int32) (p1 : Int32) (g_p0 : RG p0 99 99) (g_p1 : RG p1 0 1) : Met l yX12_leastOf wf_c_X12_leastOf_1 ({ frames := 0, cells := 0, slots := 0, locals := 0 }) (va_Pc [.int p0, .int p1] (fun U => U.heap.size = sz ∧ va_P (dC, dI) vwCl [] U.heap ∧ va_K (dC, dI) vwCl [] U ∧ va_D (fun _ => True) [])) (va_Qi (fun (r : Int32) (u : Unit) => (r = 0)) (fun (u : Unit) t => va_P (dC, dI) vwCl [] t.heap ∧ va_K (dC, dI) vwCl [] t ∧ va_D (va_A [] sz) []) (va_A [] sz)) 0 0 (va_A [] sz) := by
  refine Met.ofW (cc := cX12_leastOf) (maxL := 2) (ret := (some .int)) (by decide +kernel) rfl ?_
  intro p e s m args below meth c s₁ B hml hv
  obtain ⟨rfl, hsz, hP, hK, hD0⟩ := hv
  have hx := B.exec
  have hb := B.bytes
  have hr := B.returns
  have hts := atoms_spec (ws := wf_c_X12_leastOf_1) B.pre
  have hown : s.vm.findClass RX12 = some m.cls := findClass_of_methodNamed B.named
  have hlocks := B.notSynchronized
  subst hsz
  have hD := hD0.self (sz := s.heap.size)
  generalize hAe : va_A [] s.heap.size = A at hD ⊢
  have hA : ∀ q : Nat, s.heap.size ≤ q → A q := fun q h => by rw [← hAe]; exact Or.inr h
  have hP : va_P (dC, dI) vwCl [] s.heap := hP
  have hl := lv_entry ([.int p0, .int p1]) (n := 2) (Nat.le_of_ble_eq_true rfl)
  rw [lg_entry_eq]
  generalize (lg_sl ([.int p0, .int p1]) ++ List.replicate (2 - (lg_sl ([.int p0, .int p1])).length) Slot.unset).toArray = ls at hl ⊢
  have hl : lv_has ls 2 [(0, .int p0), (1, .int p1)] := hl
  obtain ⟨H, hHe⟩ : ∃ H : Heap, s.heap = H := ⟨_, rfl⟩
  have hS : va_S A s.heap H [] := by rw [hHe]; exact va_S.rf
  have hP : va_P (dC, dI) vwCl [] H := by rw [← hHe]; exact hP
  rw [hHe]
  refine wj (fun G hG hU => ?_)
  as_aux_lemma =>
  have J11 : ∀ (g_p0 : RG p0 99 99) (g_p1 : RG p1 0 1) (H : Heap) (locs : List Loc) (ls : Array Slot) (hP : va_P (dC, dI) vwCl [] H) (hD : va_D A []) (hS : va_S A s.heap H locs) (hl : lv_has ls 2 [(0, .int p0), (1, .int p1)]), G H locs (F0 m 11 ls []) := by
    as_aux_lemma =>
    intro g_p0 g_p1 H locs ls hP hD hS hl
    refine hG _ _ _ ?_
    refine lv_iload_n hx hb dX12_leastOf_11 rfl (lv_at hl 0 rfl) ?_
    refine lv_bipush (v := 99) hx hb dX12_leastOf_12 kc_bipush_99 ?_
    refine lv_icmp_ne (tgt := 26) hx hb dX12_leastOf_14 rfl (fun c_1 => ?_) (fun c_1 => ?_)
    · exact RG_dead (RG_ne1 g_p0 (q := 99) rfl c_1 (a' := 100) (b' := 99) (by decide +kernel)) (by decide +kernel)
    · refine lv_iload_n hx hb dX12_leastOf_17 rfl (lv_at hl 1 rfl) ?_
      refine lv_iconst (v := 2) hx hb dX12_leastOf_18 kc_iconst_2 ?_
      refine lv_icmp_ne (tgt := 26) hx hb dX12_leastOf_19 rfl (fun c_2 => ?_) (fun c_2 => ?_)
      · refine lv_iconst (v := 0) hx hb dX12_leastOf_26 kc_iconst_0 ?_
        have hK9 := hK.sub (tys' := []) [] rfl
        exact W.iret (v := 0) hx hb hr (fun t ht hW => ⟨⟨0, (), rfl, rfl, by rw [ht]; exact hP, va_K.moved hW.alike hK9, hD⟩, hS.F ht⟩) hS.2.2 dX12_leastOf_27
      · exact RG_dead (RG_eq1 g_p1 (RG_k 2 2 rfl) c_2 (a' := 2) (b' := 1) (by decide +kernel)) (by decide +kernel)
  refine hG _ _ _ ?_
  as_aux_lemma =>
  refine lv_iload_n hx hb dX12_leastOf_0 rfl (lv_at hl 0 rfl) ?_
  refine lv_bipush (v := 115) hx hb dX12_leastOf_1 kc_bipush_115 ?_
  refine lv_icmp_ne (tgt := 11) hx hb dX12_leastOf_3 rfl (fun c_3 => ?_) (fun c_3 => ?_)
  · exact hU _ _ _ (J11 g_p0 g_p1 _ _ _ hP hD hS (lv_sub hl [0, 1] rfl))
  · exact RG_dead (RG_eq1 g_p0 (RG_k 115 115 rfl) c_3 (a' := 115) (b' := 99) (by decide +kernel)) (by decide +kernel)
noncomputable def wf_c_X12_mostOf_1 : List Cond := .code yX12_mostOf cX12_mostOf 2 (some .int) :: ([])
set_option maxHeartbeats 4000000 in
set_option maxRecDepth 100000 in
theorem c_X12_mostOf_1 (l : Launch) (dC : Nat → ClassId) (dI : Nat → Nat → Nat) (sz : Nat) (p0 : Int32) (p1 : Int32) (g_p0 : RG p0 99 99) (g_p1 : RG p1 0 1) : Met l yX12_mostOf wf_c_X12_mostOf_1 ({ frames := 0, cells := 0, slots := 0, locals := 0 }) (va_Pc [.int p0, .int p1] (fun U => U.heap.size = sz ∧ va_P (dC, dI) vwCl [] U.heap ∧ va_K (dC, dI) vwCl [] U ∧ va_D (fun _ => True) [])) (va_Qi (fun (r : Int32) (u : Unit) => (r = 9)) (fun (u : Unit) t => va_P (dC, dI) vwCl [] t.heap ∧ va_K (dC, dI) vwCl [] t ∧ va_D (va_A [] sz) []) (va_A [] sz)) 0 0 (va_A [] sz) := by
  refine Met.ofW (cc := cX12_mostOf) (maxL := 2) (ret := (some .int)) (by decide +kernel) rfl ?_
  intro p e s m args below meth c s₁ B hml hv
  obtain ⟨rfl, hsz, hP, hK, hD0⟩ := hv
  have hx := B.exec
  have hb := B.bytes
  have hr := B.returns
  have hts := atoms_spec (ws := wf_c_X12_mostOf_1) B.pre
  have hown : s.vm.findClass RX12 = some m.cls := findClass_of_methodNamed B.named
  have hlocks := B.notSynchronized
  subst hsz
  have hD := hD0.self (sz := s.heap.size)
  generalize hAe : va_A [] s.heap.size = A at hD ⊢
  have hA : ∀ q : Nat, s.heap.size ≤ q → A q := fun q h => by rw [← hAe]; exact Or.inr h
  have hP : va_P (dC, dI) vwCl [] s.heap := hP
  have hl := lv_entry ([.int p0, .int p1]) (n := 2) (Nat.le_of_ble_eq_true rfl)
  rw [lg_entry_eq]
  generalize (lg_sl ([.int p0, .int p1]) ++ List.replicate (2 - (lg_sl ([.int p0, .int p1])).length) Slot.unset).toArray = ls at hl ⊢
  have hl : lv_has ls 2 [(0, .int p0), (1, .int p1)] := hl
  obtain ⟨H, hHe⟩ : ∃ H : Heap, s.heap = H := ⟨_, rfl⟩
  have hS : va_S A s.heap H [] := by rw [hHe]; exact va_S.rf
  have hP : va_P (dC, dI) vwCl [] H := by rw [← hHe]; exact hP
  rw [hHe]
  refine lv_iload_n hx hb dX12_mostOf_0 rfl (lv_at hl 0 rfl) ?_
  as_aux_lemma =>
  refine lv_bipush (v := 115) hx hb dX12_mostOf_1 kc_bipush_115 ?_
  refine lv_icmp_ne (tgt := 37) hx hb dX12_mostOf_3 rfl (fun c_1 => ?_) (fun c_1 => ?_)
  · refine lv_iload_n hx hb dX12_mostOf_37 rfl (lv_at hl 0 rfl) ?_
    refine lv_bipush (v := 99) hx hb dX12_mostOf_38 kc_bipush_99 ?_
    refine lv_icmp_ne (tgt := 55) hx hb dX12_mostOf_40 rfl (fun c_2 => ?_) (fun c_2 => ?_)
    · exact RG_dead (RG_ne1 g_p0 (q := 99) rfl c_2 (a' := 100) (b' := 99) (by decide +kernel)) (by decide +kernel)
    · refine lv_iload_n hx hb dX12_mostOf_43 rfl (lv_at hl 1 rfl) ?_
      refine lv_iconst (v := 2) hx hb dX12_mostOf_44 kc_iconst_2 ?_
      refine lv_icmp_ne (tgt := 52) hx hb dX12_mostOf_45 rfl (fun c_3 => ?_) (fun c_3 => ?_)
      · refine lv_bipush (v := 9) hx hb dX12_mostOf_52 kc_bipush_9 ?_
        have hK9 := hK.sub (tys' := []) [] rfl
        exact W.iret (v := 9) hx hb hr (fun t ht hW => ⟨⟨9, (), rfl, rfl, by rw [ht]; exact hP, va_K.moved hW.alike hK9, hD⟩, hS.F ht⟩) hS.2.2 dX12_mostOf_54
      · exact RG_dead (RG_eq1 g_p1 (RG_k 2 2 rfl) c_3 (a' := 2) (b' := 1) (by decide +kernel)) (by decide +kernel)
  · exact RG_dead (RG_eq1 g_p0 (RG_k 115 115 rfl) c_1 (a' := 115) (b' := 99) (by decide +kernel)) (by decide +kernel)
noncomputable def wf_c_X12_leastOf_2 : List Cond := .code yX12_leastOf cX12_leastOf 2 (some .int) :: ([])
set_option maxHeartbeats 4000000 in
set_option maxRecDepth 100000 in
theorem c_X12_leastOf_2 (l : Launch) (dC : Nat → ClassId) (dI : Nat → Nat → Nat) (sz : Nat) (p0 : Int32) (p1 : Int32) (g_p0 : RG p0 99 99) (g_p1 : RG p1 0 2) : Met l yX12_leastOf wf_c_X12_leastOf_2 ({ frames := 0, cells := 0, slots := 0, locals := 0 }) (va_Pc [.int p0, .int p1] (fun U => U.heap.size = sz ∧ va_P (dC, dI) vwCl [] U.heap ∧ va_K (dC, dI) vwCl [] U ∧ va_D (fun _ => True) [])) (va_Qi (fun (r : Int32) (u : Unit) => (r = 0 ∧ RG p1 0 1) ∨ (r = 1 ∧ RG p1 2 2)) (fun (u : Unit) t => va_P (dC, dI) vwCl [] t.heap ∧ va_K (dC, dI) vwCl [] t ∧ va_D (va_A [] sz) []) (va_A [] sz)) 0 0 (va_A [] sz) := by
  refine Met.ofW (cc := cX12_leastOf) (maxL := 2) (ret := (some .int)) (by decide +kernel) rfl ?_
  intro p e s m args below meth c s₁ B hml hv
  obtain ⟨rfl, hsz, hP, hK, hD0⟩ := hv
  have hx := B.exec
  have hb := B.bytes
  have hr := B.returns
  have hts := atoms_spec (ws := wf_c_X12_leastOf_2) B.pre
  have hown : s.vm.findClass RX12 = some m.cls := findClass_of_methodNamed B.named
  have hlocks := B.notSynchronized
  subst hsz
  have hD := hD0.self (sz := s.heap.size)
  generalize hAe : va_A [] s.heap.size = A at hD ⊢
  have hA : ∀ q : Nat, s.heap.size ≤ q → A q := fun q h => by rw [← hAe]; exact Or.inr h
  have hP : va_P (dC, dI) vwCl [] s.heap := hP
  have hl := lv_entry ([.int p0, .int p1]) (n := 2) (Nat.le_of_ble_eq_true rfl)
  rw [lg_entry_eq]
  generalize (lg_sl ([.int p0, .int p1]) ++ List.replicate (2 - (lg_sl ([.int p0, .int p1])).length) Slot.unset).toArray = ls at hl ⊢
  have hl : lv_has ls 2 [(0, .int p0), (1, .int p1)] := hl
  obtain ⟨H, hHe⟩ : ∃ H : Heap, s.heap = H := ⟨_, rfl⟩
  have hS : va_S A s.heap H [] := by rw [hHe]; exact va_S.rf
  have hP : va_P (dC, dI) vwCl [] H := by rw [← hHe]; exact hP
  rw [hHe]
  refine wj (fun G hG hU => ?_)
  as_aux_lemma =>
  have J22 : ∀ (g_p0 : RG p0 99 99) (g_p1 : RG p1 2 2) (H : Heap) (locs : List Loc) (ls : Array Slot) (hP : va_P (dC, dI) vwCl [] H) (hD : va_D A []) (hS : va_S A s.heap H locs) (hl : lv_has ls 2 []), G H locs (F0 m 22 ls []) := by
    as_aux_lemma =>
    intro g_p0 g_p1 H locs ls hP hD hS hl
    refine hG _ _ _ ?_
    refine lv_iconst (v := 1) hx hb dX12_leastOf_22 kc_iconst_1 ?_
    refine lv_goto (tgt := 27) hx hb dX12_leastOf_23 rfl ?_
    have hK9 := hK.sub (tys' := []) [] rfl
    exact W.iret (v := 1) hx hb hr (fun t ht hW => ⟨⟨1, (), rfl, (Or.inr ⟨rfl, g_p1⟩), by rw [ht]; exact hP, va_K.moved hW.alike hK9, hD⟩, hS.F ht⟩) hS.2.2 dX12_leastOf_27
  have J11 : ∀ (g_p0 : RG p0 99 99) (g_p1 : RG p1 0 2) (H : Heap) (locs : List Loc) (ls : Array Slot) (hP : va_P (dC, dI) vwCl [] H) (hD : va_D A []) (hS : va_S A s.heap H locs) (hl : lv_has ls 2 [(0, .int p0), (1, .int p1)]), G H locs (F0 m 11 ls []) := by
    as_aux_lemma =>
    intro g_p0 g_p1 H locs ls hP hD hS hl
    refine hG _ _ _ ?_
    refine lv_iload_n hx hb dX12_leastOf_11 rfl (lv_at hl 0 rfl) ?_
    refine lv_bipush (v := 99) hx hb dX12_leastOf_12 kc_bipush_99 ?_
    refine lv_icmp_ne (tgt := 26) hx hb dX12_leastOf_14 rfl (fun c_1 => ?_) (fun c_1 => ?_)
    · exact RG_dead (RG_ne1 g_p0 (q := 99) rfl c_1 (a' := 100) (b' := 99) (by decide +kernel)) (by decide +kernel)
    · refine lv_iload_n hx hb dX12_leastOf_17 rfl (lv_at hl 1 rfl) ?_
      refine lv_iconst (v := 2) hx hb dX12_leastOf_18 kc_iconst_2 ?_
      refine lv_icmp_ne (tgt := 26) hx hb dX12_leastOf_19 rfl (fun c_2 => ?_) (fun c_2 => ?_)
      · have g_3 : RG p1 0 1 := RG_ne1 g_p1 (q := 2) rfl c_2 (by decide +kernel)
        refine lv_iconst (v := 0) hx hb dX12_leastOf_26 kc_iconst_0 ?_
        have hK9 := hK.sub (tys' := []) [] rfl
        exact W.iret (v := 0) hx hb hr (fun t ht hW => ⟨⟨0, (), rfl, (Or.inl ⟨rfl, g_3⟩), by rw [ht]; exact hP, va_K.moved hW.alike hK9, hD⟩, hS.F ht⟩) hS.2.2 dX12_leastOf_27
      · have g_4 : RG p1 2 2 := RG_eq1 g_p1 (RG_k 2 2 rfl) c_2 (by decide +kernel)
        exact hU _ _ _ (J22 g_p0 g_4 _ _ _ hP hD hS (lv_sub hl [] rfl))
  refine hG _ _ _ ?_
  as_aux_lemma =>
  refine lv_iload_n hx hb dX12_leastOf_0 rfl (lv_at hl 0 rfl) ?_
  refine lv_bipush (v := 115) hx hb dX12_leastOf_1 kc_bipush_115 ?_
  refine lv_icmp_ne (tgt := 11) hx hb dX12_leastOf_3 rfl (fun c_5 => ?_) (fun c_5 => ?_)
  · exact hU _ _ _ (J11 g_p0 g_p1 _ _ _ hP hD hS (lv_sub hl [0, 1] rfl))
  · exact RG_dead (RG_eq1 g_p0 (RG_k 115 115 rfl) c_5 (a' := 115) (b' := 99) (by decide +kernel)) (by decide +kernel)
noncomputable def wf_c_X12_mostOf_2 : List Cond := .code yX12_mostOf cX12_mostOf 2 (some .int) :: ([])
set_option maxHeartbeats 4000000 in
set_option maxRecDepth 100000 in
theorem c_X12_mostOf_2 (l : Launch) (dC : Nat → ClassId) (dI : Nat → Nat → Nat) (sz : Nat) (p0 : Int32) (p1 : Int32) (g_p0 : RG p0 99 99) (g_p1 : RG p1 0 2) : Met l yX12_mostOf wf_c_X12_mostOf_2 ({ frames := 0, cells := 0, slots := 0, locals := 0 }) (va_Pc [.int p0, .int p1] (fun U => U.heap.size = sz ∧ va_P (dC, dI) vwCl [] U.heap ∧ va_K (dC, dI) vwCl [] U ∧ va_D (fun _ => True) [])) (va_Qi (fun (r : Int32) (u : Unit) => (r = 9 ∧ RG p1 0 1) ∨ (r = 4 ∧ RG p1 2 2)) (fun (u : Unit) t => va_P (dC, dI) vwCl [] t.heap ∧ va_K (dC, dI) vwCl [] t ∧ va_D (va_A [] sz) []) (va_A [] sz)) 0 0 (va_A [] sz) := by
  refine Met.ofW (cc := cX12_mostOf) (maxL := 2) (ret := (some .int)) (by decide +kernel) rfl ?_
  intro p e s m args below meth c s₁ B hml hv
  obtain ⟨rfl, hsz, hP, hK, hD0⟩ := hv
  have hx := B.exec
  have hb := B.bytes
  have hr := B.returns
  have hts := atoms_spec (ws := wf_c_X12_mostOf_2) B.pre
  have hown : s.vm.findClass RX12 = some m.cls := findClass_of_methodNamed B.named
  have hlocks := B.notSynchronized
  subst hsz
  have hD := hD0.self (sz := s.heap.size)
  generalize hAe : va_A [] s.heap.size = A at hD ⊢
  have hA : ∀ q : Nat, s.heap.size ≤ q → A q := fun q h => by rw [← hAe]; exact Or.inr h
  have hP : va_P (dC, dI) vwCl [] s.heap := hP
  have hl := lv_entry ([.int p0, .int p1]) (n := 2) (Nat.le_of_ble_eq_true rfl)
  rw [lg_entry_eq]
  generalize (lg_sl ([.int p0, .int p1]) ++ List.replicate (2 - (lg_sl ([.int p0, .int p1])).length) Slot.unset).toArray = ls at hl ⊢
  have hl : lv_has ls 2 [(0, .int p0), (1, .int p1)] := hl
  obtain ⟨H, hHe⟩ : ∃ H : Heap, s.heap = H := ⟨_, rfl⟩
  have hS : va_S A s.heap H [] := by rw [hHe]; exact va_S.rf
  have hP : va_P (dC, dI) vwCl [] H := by rw [← hHe]; exact hP
  rw [hHe]
  refine lv_iload_n hx hb dX12_mostOf_0 rfl (lv_at hl 0 rfl) ?_
  as_aux_lemma =>
  refine lv_bipush (v := 115) hx hb dX12_mostOf_1 kc_bipush_115 ?_
  refine lv_icmp_ne (tgt := 37) hx hb dX12_mostOf_3 rfl (fun c_1 => ?_) (fun c_1 => ?_)
  · refine lv_iload_n hx hb dX12_mostOf_37 rfl (lv_at hl 0 rfl) ?_
    refine lv_bipush (v := 99) hx hb dX12_mostOf_38 kc_bipush_99 ?_
    refine lv_icmp_ne (tgt := 55) hx hb dX12_mostOf_40 rfl (fun c_2 => ?_) (fun c_2 => ?_)
    · exact RG_dead (RG_ne1 g_p0 (q := 99) rfl c_2 (a' := 100) (b' := 99) (by decide +kernel)) (by decide +kernel)
    · refine lv_iload_n hx hb dX12_mostOf_43 rfl (lv_at hl 1 rfl) ?_
      refine lv_iconst (v := 2) hx hb dX12_mostOf_44 kc_iconst_2 ?_
      refine lv_icmp_ne (tgt := 52) hx hb dX12_mostOf_45 rfl (fun c_3 => ?_) (fun c_3 => ?_)
      · have g_4 : RG p1 0 1 := RG_ne1 g_p1 (q := 2) rfl c_3 (by decide +kernel)
        refine lv_bipush (v := 9) hx hb dX12_mostOf_52 kc_bipush_9 ?_
        have hK9 := hK.sub (tys' := []) [] rfl
        exact W.iret (v := 9) hx hb hr (fun t ht hW => ⟨⟨9, (), rfl, (Or.inl ⟨rfl, g_4⟩), by rw [ht]; exact hP, va_K.moved hW.alike hK9, hD⟩, hS.F ht⟩) hS.2.2 dX12_mostOf_54
      · have g_5 : RG p1 2 2 := RG_eq1 g_p1 (RG_k 2 2 rfl) c_3 (by decide +kernel)
        refine lv_iconst (v := 4) hx hb dX12_mostOf_48 kc_iconst_4 ?_
        as_aux_lemma =>
        refine lv_goto (tgt := 54) hx hb dX12_mostOf_49 rfl ?_
        have hK9 := hK.sub (tys' := []) [] rfl
        exact W.iret (v := 4) hx hb hr (fun t ht hW => ⟨⟨4, (), rfl, (Or.inr ⟨rfl, g_5⟩), by rw [ht]; exact hP, va_K.moved hW.alike hK9, hD⟩, hS.F ht⟩) hS.2.2 dX12_mostOf_54
  · exact RG_dead (RG_eq1 g_p0 (RG_k 115 115 rfl) c_1 (a' := 115) (b' := 99) (by decide +kernel)) (by decide +kernel)
noncomputable def wf_c_X12_isIn_2 : List Cond := .code yX12_isIn cX12_isIn 6 (some .boolean) :: ([])
set_option maxHeartbeats 4000000 in
set_option maxRecDepth 100000 in
theorem c_X12_isIn_2 (l : Launch) (dC : Nat → ClassId) (dI : Nat → Nat → Nat) (sz : Nat) (p0 : Int64) (g_p0 : LG p0 0 99) : Met l yX12_isIn wf_c_X12_isIn_2 ({ frames := 0, cells := 0, slots := 0, locals := 0 }) (va_Pc [.long p0, .long 1, .long 4] (fun U => U.heap.size = sz ∧ va_P (dC, dI) vwCl [] U.heap ∧ va_K (dC, dI) vwCl [] U ∧ va_D (fun _ => True) [])) (va_Qi (fun (r : Int32) (u : Unit) => (r = 0) ∨ (r = 1 ∧ LG p0 1 4)) (fun (u : Unit) t => va_P (dC, dI) vwCl [] t.heap ∧ va_K (dC, dI) vwCl [] t ∧ va_D (va_A [] sz) []) (va_A [] sz)) 0 0 (va_A [] sz) := by
  refine Met.ofW (cc := cX12_isIn) (maxL := 6) (ret := (some .boolean)) (by decide +kernel) rfl ?_
  intro p e s m args below meth c s₁ B hml hv
  obtain ⟨rfl, hsz, hP, hK, hD0⟩ := hv
  have hx := B.exec
  have hb := B.bytes
  have hr := B.returns
  have hts := atoms_spec (ws := wf_c_X12_isIn_2) B.pre
  have hown : s.vm.findClass RX12 = some m.cls := findClass_of_methodNamed B.named
  have hlocks := B.notSynchronized
  subst hsz
  have hD := hD0.self (sz := s.heap.size)
  generalize hAe : va_A [] s.heap.size = A at hD ⊢
  have hA : ∀ q : Nat, s.heap.size ≤ q → A q := fun q h => by rw [← hAe]; exact Or.inr h
  have hP : va_P (dC, dI) vwCl [] s.heap := hP
  have hl := lv_entry ([.long p0, .long 1, .long 4]) (n := 6) (Nat.le_of_ble_eq_true rfl)
  rw [lg_entry_eq]
  generalize (lg_sl ([.long p0, .long 1, .long 4]) ++ List.replicate (6 - (lg_sl ([.long p0, .long 1, .long 4])).length) Slot.unset).toArray = ls at hl ⊢
  have hl : lv_has ls 6 [(0, .long p0), (2, .long 1), (4, .long 4)] := hl
  obtain ⟨H, hHe⟩ : ∃ H : Heap, s.heap = H := ⟨_, rfl⟩
  have hS : va_S A s.heap H [] := by rw [hHe]; exact va_S.rf
  have hP : va_P (dC, dI) vwCl [] H := by rw [← hHe]; exact hP
  rw [hHe]
  refine lv_lload_n hx hb dX12_isIn_0 rfl (lv_at hl 0 rfl) ?_
  as_aux_lemma =>
  refine lv_lload_n hx hb dX12_isIn_1 rfl (lv_at hl 1 rfl) ?_
  refine W.lcmp hx hb dX12_isIn_2 ?_
  refine lv_if_lt (tgt := 17) hx hb dX12_isIn_3 rfl (fun c_1 => ?_) (fun c_1 => ?_)
  · replace c_1 := lc_lt_t c_1
    have g_2 : LG p0 0 0 := LG_lt1 g_p0 (LG_k 1 1 rfl) c_1 (by decide +kernel)
    refine lv_iconst (v := 0) hx hb dX12_isIn_17 kc_iconst_0 ?_
    have hK9 := hK.sub (tys' := []) [] rfl
    exact W.zret (v := 0) hx hb hr rfl (fun t ht hW => ⟨⟨0, (), rfl, (Or.inl rfl), by rw [ht]; exact hP, va_K.moved hW.alike hK9, hD⟩, hS.F ht⟩) hS.2.2 dX12_isIn_18
  · replace c_1 := lc_lt_f c_1
    have d_3 := Int64.not_lt.mp c_1
    have g_4 : LG p0 1 99 := LG_le2 (LG_k 1 1 rfl) g_p0 d_3 (by decide +kernel)
    refine lv_lload_n hx hb dX12_isIn_6 rfl (lv_at hl 0 rfl) ?_
    refine lv_lload hx hb dX12_isIn_7 (lv_at hl 2 rfl) ?_
    refine W.lcmp hx hb dX12_isIn_9 ?_
    as_aux_lemma =>
    refine lv_if_gt (tgt := 17) hx hb dX12_isIn_10 rfl (fun c_5 => ?_) (fun c_5 => ?_)
    · replace c_5 := lc_gt_t c_5
      have g_6 : LG p0 5 99 := LG_lt2 (LG_k 4 4 rfl) g_4 c_5 (by decide +kernel)
      refine lv_iconst (v := 0) hx hb dX12_isIn_17 kc_iconst_0 ?_
      have hK9 := hK.sub (tys' := []) [] rfl
      exact W.zret (v := 0) hx hb hr rfl (fun t ht hW => ⟨⟨0, (), rfl, (Or.inl rfl), by rw [ht]; exact hP, va_K.moved hW.alike hK9, hD⟩, hS.F ht⟩) hS.2.2 dX12_isIn_18
    · replace c_5 := lc_gt_f c_5
      have d_7 := Int64.not_lt.mp c_5
      have g_8 : LG p0 1 4 := LG_le1 g_4 (LG_k 4 4 rfl) d_7 (by decide +kernel)
      refine lv_iconst (v := 1) hx hb dX12_isIn_13 kc_iconst_1 ?_
      refine lv_goto (tgt := 18) hx hb dX12_isIn_14 rfl ?_
      have hK9 := hK.sub (tys' := []) [] rfl
      exact W.zret (v := 1) hx hb hr rfl (fun t ht hW => ⟨⟨1, (), rfl, (Or.inr ⟨rfl, g_8⟩), by rw [ht]; exact hP, va_K.moved hW.alike hK9, hD⟩, hS.F ht⟩) hS.2.2 dX12_isIn_18
noncomputable def wd_c_X12_number_1 (a0 : Nat) (a1 : Int32) (a2 : Nat) (a3 : Nat) (a4 : Nat) (a5 : Nat) (a6 : Nat) (a7 : Int32) (a8 : Int32) (a9 : Int32) (a10 : Int32) (a11 : Int32) (a12 : Int32) (a13 : Int32) (a14 : Int32) (a15 : Int32) (a16 : Nat) (a17 : Nat) (a18 : Int32) (a19 : Nat) (a20 : Nat) (a21 : Nat) (a22 : Nat) (a23 : Nat) (a24 : Nat) (a25 : Nat) (a26 : Nat) (a27 : Int32) (a28 : Int32) (a29 : Int32) (a30 : Int32) (a31 : Int32) (a32 : Int32) (a33 : Nat) (a34 : Nat) (a35 : Int32) (a36 : Nat) (a37 : Nat) (a38 : Nat) (a39 : Nat) (a40 : Nat) (a41 : Nat) (a42 : Int32) (a43 : Int64) (a44 : Int32) (a45 : Int32) (a46 : Nat) (a47 : Nat) (a48 : Nat) (a49 : Nat) (a50 : Nat) (a51 : Nat) (a52 : Int32) (a53 : Nat) (a54 : Int32) (a55 : Nat) (a56 : ClassId) (a57 : Nat) (a58 : Nat → Int32) : va_W := [(a0, .inr (12, [.int a1, .ref a2, .ref a3, .ref a4, .ref a5, .ref a6, .int a7, .int a8, .int a9, .int a10, .int a11, .int a12, .int a13, .int a14, .int a15, .ref a16, .ref a17, .int a18, .ref a19, .ref a20, .ref a21, .ref a22, .ref a23, .ref a24, .ref a25, .ref a26, .int a27, .int a28, .int a29, .int a30, .int a31, .int a32, .ref a33, .ref a34, .int a35, .ref a36, .ref a37, .ref a38, .ref a39, .ref a40, .ref a41, .int a42, .long a43, .int a44, .int a45, .ref a46, .ref a47, .ref a48, .ref a49, .ref a50, .ref a51, .int a52, .ref a53, .int a54])), (a55, .inl (a56, a57, .inl a58))]
noncomputable def wf_c_X12_number_1 : List Cond := List.cons (.code yX12_number cX12_number 5 (some .int)) (@HAppend.hAppend (List Cond) (List Cond) (List Cond) _ [.methodLink RX12 153 yX12_look, .instanceMethod yX12_look, .selects RX12 yX12_look yX12_look, .initialized RX12, .code yX12_look cX12_look 1 (some .int), .fieldLink RX12 134 "BuoyVoteModel" "at" "I", .fieldLink RX12 137 "BuoyVoteModel" "ends" "I", .fieldLink RX12 23 "BuoyVoteModel" "text" "[B", .fieldLink RX12 140 "BuoyVoteModel" "begins" "I", .methodLink RX12 183 yX12_isDigit, .instanceMethod yX12_isDigit, .selects RX12 yX12_isDigit yX12_isDigit, .code yX12_isDigit cX12_isDigit 1 (some .boolean), .methodLink RX12 149 yX12_fails, .instanceMethod yX12_fails, .selects RX12 yX12_fails yX12_fails, .code yX12_fails cX12_fails 1 (some .boolean), .fieldLink RX12 143 "BuoyVoteModel" "fault" "I", .methodLink RX12 229 yX12_here, .instanceMethod yX12_here, .selects RX12 yX12_here yX12_here, .code yX12_here cX12_here 1 (some .int), .methodLink RX12 232 yX12_isIn, .static yX12_isIn, .code yX12_isIn cX12_isIn 6 (some .boolean)] wsX120)
theorem iw_c_X12_number_1_X12 : ∀ w ∈ wsX120, w ∈ wf_c_X12_number_1 := fun w h => List.mem_cons_of_mem _ (List.mem_append_right _ h)
set_option maxRecDepth 20000 in
theorem gf_c_X12_number_1_c_X12_isDigit : GoodIn wf_c_X12_number_1 (wsV RX12 183 RX12 yX12_isDigit wf_c_X12_isDigit) := goodIn_app (gi_l [10, 11, 12, 4] rfl rfl) (gi_cons (j := 13) rfl rfl (goodIn_app (gi_l [6, 7, 8, 9] rfl rfl) (goodIn_sub iw_c_X12_number_1_X12 gw_X12)))
set_option maxRecDepth 20000 in
theorem gf_c_X12_number_1_c_X12_isIn_2 : GoodIn wf_c_X12_number_1 (va_wsS RX12 232 yX12_isIn wf_c_X12_isIn_2) := goodIn_app (gi_l [23, 24, 4] rfl rfl) (gi_cons (j := 25) rfl rfl gi_nil)
set_option maxRecDepth 20000 in
theorem gf_c_X12_number_1_c_X12_fails : GoodIn wf_c_X12_number_1 (wsV RX12 149 RX12 yX12_fails wf_c_X12_fails) := goodIn_app (gi_l [14, 15, 16, 4] rfl rfl) (gi_cons (j := 17) rfl rfl (goodIn_app (gi_l [18, 6] rfl rfl) (goodIn_sub iw_c_X12_number_1_X12 gw_X12)))
set_option maxRecDepth 20000 in
theorem gf_c_X12_number_1_c_X12_look : GoodIn wf_c_X12_number_1 (wsV RX12 153 RX12 yX12_look wf_c_X12_look) := goodIn_app (gi_l [1, 2, 3, 4] rfl rfl) (gi_cons (j := 5) rfl rfl (goodIn_app (gi_l [6, 7, 8, 9] rfl rfl) (goodIn_sub iw_c_X12_number_1_X12 gw_X12)))
set_option maxRecDepth 20000 in
theorem gf_c_X12_number_1_c_X12_here : GoodIn wf_c_X12_number_1 (wsV RX12 229 RX12 yX12_here wf_c_X12_here) := goodIn_app (gi_l [19, 20, 21, 4] rfl rfl) (gi_cons (j := 22) rfl rfl (goodIn_app (gi_l [6, 7, 8, 9] rfl rfl) (goodIn_sub iw_c_X12_number_1_X12 gw_X12)))
set_option maxHeartbeats 4000000 in
set_option maxRecDepth 100000 in
theorem c_X12_number_1 (l : Launch) (dC : Nat → ClassId) (dI : Nat → Nat → Nat) (sz : Nat) (h0 : Nat) (h0_f0 : Int32) (h0_1 : Nat) (h0_2 : Nat) (h0_3 : Nat) (h0_4 : Nat) (h0_5 : Nat) (h0_f6 : Int32) (h0_f7 : Int32) (h0_f8 : Int32) (h0_f9 : Int32) (h0_f10 : Int32) (h0_f12 : Int32) (h0_f13 : Int32) (h0_f14 : Int32) (h0_15 : Nat) (h0_16 : Nat) (h0_f17 : Int32) (h0_18 : Nat) (h0_19 : Nat) (h0_20 : Nat) (h0_21 : Nat) (h0_22 : Nat) (h0_23 : Nat) (h0_24 : Nat) (h0_25 : Nat) (h0_f26 : Int32) (h0_f27 : Int32) (h0_f28 : Int32) (h0_f29 : Int32) (h0_f30 : Int32) (h0_f31 : Int32) (h0_32 : Nat) (h0_33 : Nat) (h0_f34 : Int32) (h0_35 : Nat) (h0_36 : Nat) (h0_37 : Nat) (h0_38 : Nat) (h0_39 : Nat) (h0_40 : Nat) (h0_f41 : Int32) (h0_f42 : Int64) (h0_f43 : Int32) (h0_f44 : Int32) (h0_45 : Nat) (h0_46 : Nat) (h0_47 : Nat) (h0_48 : Nat) (h0_49 : Nat) (h0_50 : Nat) (h0_f51 : Int32) (h0_52 : Nat) (h0_f53 : Int32) (h0_5k : ClassId) (h0_5c : Nat → Int32) (tN : Nat) (g_h0_f6 : RG h0_f6 0 240) (g_h0_f7 : RG h0_f7 0 4) (g_h0_f8 : RG h0_f8 0 720) (g_h0_f9 : RG h0_f9 0 240) (g_h0_f10 : RG h0_f10 0 240) (g_h0_f17 : RG h0_f17 0 1) (g_h0_f26 : RG h0_f26 0 8) (g_h0_f27 : RG h0_f27 0 3) (g_h0_f28 : RG h0_f28 0 8) (g_h0_f29 : RG h0_f29 0 3) (g_h0_f30 : RG h0_f30 0 4) (g_h0_f31 : RG h0_f31 0 1) (g_h0_f34 : RG h0_f34 (-1) 3) (g_h0_f41 : RG h0_f41 0 40) (g_h0_f51 : RG h0_f51 0 10) (g_h0_f53 : RG h0_f53 0 1) (htN : h0_f8.toInt + 240 ≤ (tN : Int)) : Met l yX12_number wf_c_X12_number_1 ({ frames := 1, cells := 0, slots := 0, locals := 25 }) (va_Pc [.ref h0, .int 1, .int 4] (fun U => U.heap.size = sz ∧ va_P (dC, dI) vwCl (wd_c_X12_number_1 h0 h0_f0 h0_1 h0_2 h0_3 h0_4 h0_5 h0_f6 h0_f7 h0_f8 h0_f9 h0_f10 (-1) h0_f12 h0_f13 h0_f14 h0_15 h0_16 h0_f17 h0_18 h0_19 h0_20 h0_21 h0_22 h0_23 h0_24 h0_25 h0_f26 h0_f27 h0_f28 h0_f29 h0_f30 h0_f31 h0_32 h0_33 h0_f34 h0_35 h0_36 h0_37 h0_38 h0_39 h0_40 h0_f41 h0_f42 h0_f43 h0_f44 h0_45 h0_46 h0_47 h0_48 h0_49 h0_50 h0_f51 h0_52 h0_f53 h0_5 h0_5k tN h0_5c) U.heap ∧ va_K (dC, dI) vwCl [(h0_5k, .byte)] U ∧ va_D (fun _ => True) (wd_c_X12_number_1 h0 h0_f0 h0_1 h0_2 h0_3 h0_4 h0_5 h0_f6 h0_f7 h0_f8 h0_f9 h0_f10 (-1) h0_f12 h0_f13 h0_f14 h0_15 h0_16 h0_f17 h0_18 h0_19 h0_20 h0_21 h0_22 h0_23 h0_24 h0_25 h0_f26 h0_f27 h0_f28 h0_f29 h0_f30 h0_f31 h0_32 h0_33 h0_f34 h0_35 h0_36 h0_37 h0_38 h0_39 h0_40 h0_f41 h0_f42 h0_f43 h0_f44 h0_45 h0_46 h0_47 h0_48 h0_49 h0_50 h0_f51 h0_52 h0_f53 h0_5 h0_5k tN h0_5c))) (va_Qi (fun (r : Int32) (u : (Int32) × (Int32)) => (r = 0 ∧ RG u.1 0 240 ∧ RG u.2 0 240 ∧ h0_f10.toInt + 0 ≤ (u.1).toInt) ∨ (RG r 0 99 ∧ RG u.1 0 239 ∧ RG u.2 0 239 ∧ RG h0_f9 1 240) ∨ (RG r 1 4 ∧ RG u.1 1 240 ∧ u.2 = (-1) ∧ RG h0_f9 1 240 ∧ h0_f10.toInt + 1 ≤ (u.1).toInt)) (fun (u : (Int32) × (Int32)) t => va_P (dC, dI) vwCl (wd_c_X12_number_1 h0 h0_f0 h0_1 h0_2 h0_3 h0_4 h0_5 h0_f6 h0_f7 h0_f8 h0_f9 (u.1) (u.2) h0_f12 h0_f13 h0_f14 h0_15 h0_16 h0_f17 h0_18 h0_19 h0_20 h0_21 h0_22 h0_23 h0_24 h0_25 h0_f26 h0_f27 h0_f28 h0_f29 h0_f30 h0_f31 h0_32 h0_33 h0_f34 h0_35 h0_36 h0_37 h0_38 h0_39 h0_40 h0_f41 h0_f42 h0_f43 h0_f44 h0_45 h0_46 h0_47 h0_48 h0_49 h0_50 h0_f51 h0_52 h0_f53 h0_5 h0_5k tN h0_5c) t.heap ∧ va_K (dC, dI) vwCl [] t ∧ va_D (va_A (wd_c_X12_number_1 h0 h0_f0 h0_1 h0_2 h0_3 h0_4 h0_5 h0_f6 h0_f7 h0_f8 h0_f9 h0_f10 (-1) h0_f12 h0_f13 h0_f14 h0_15 h0_16 h0_f17 h0_18 h0_19 h0_20 h0_21 h0_22 h0_23 h0_24 h0_25 h0_f26 h0_f27 h0_f28 h0_f29 h0_f30 h0_f31 h0_32 h0_33 h0_f34 h0_35 h0_36 h0_37 h0_38 h0_39 h0_40 h0_f41 h0_f42 h0_f43 h0_f44 h0_45 h0_46 h0_47 h0_48 h0_49 h0_50 h0_f51 h0_52 h0_f53 h0_5 h0_5k tN h0_5c) sz) (wd_c_X12_number_1 h0 h0_f0 h0_1 h0_2 h0_3 h0_4 h0_5 h0_f6 h0_f7 h0_f8 h0_f9 (u.1) (u.2) h0_f12 h0_f13 h0_f14 h0_15 h0_16 h0_f17 h0_18 h0_19 h0_20 h0_21 h0_22 h0_23 h0_24 h0_25 h0_f26 h0_f27 h0_f28 h0_f29 h0_f30 h0_f31 h0_32 h0_33 h0_f34 h0_35 h0_36 h0_37 h0_38 h0_39 h0_40 h0_f41 h0_f42 h0_f43 h0_f44 h0_45 h0_46 h0_47 h0_48 h0_49 h0_50 h0_f51 h0_52 h0_f53 h0_5 h0_5k tN h0_5c)) (va_A (wd_c_X12_number_1 h0 h0_f0 h0_1 h0_2 h0_3 h0_4 h0_5 h0_f6 h0_f7 h0_f8 h0_f9 h0_f10 (-1) h0_f12 h0_f13 h0_f14 h0_15 h0_16 h0_f17 h0_18 h0_19 h0_20 h0_21 h0_22 h0_23 h0_24 h0_25 h0_f26 h0_f27 h0_f28 h0_f29 h0_f30 h0_f31 h0_32 h0_33 h0_f34 h0_35 h0_36 h0_37 h0_38 h0_39 h0_40 h0_f41 h0_f42 h0_f43 h0_f44 h0_45 h0_46 h0_47 h0_48 h0_49 h0_50 h0_f51 h0_52 h0_f53 h0_5 h0_5k tN h0_5c) sz)) 0 0 (va_A (wd_c_X12_number_1 h0 h0_f0 h0_1 h0_2 h0_3 h0_4 h0_5 h0_f6 h0_f7 h0_f8 h0_f9 h0_f10 (-1) h0_f12 h0_f13 h0_f14 h0_15 h0_16 h0_f17 h0_18 h0_19 h0_20 h0_21 h0_22 h0_23 h0_24 h0_25 h0_f26 h0_f27 h0_f28 h0_f29 h0_f30 h0_f31 h0_32 h0_33 h0_f34 h0_35 h0_36 h0_37 h0_38 h0_39 h0_40 h0_f41 h0_f42 h0_f43 h0_f44 h0_45 h0_46 h0_47 h0_48 h0_49 h0_50 h0_f51 h0_52 h0_f53 h0_5 h0_5k tN h0_5c) sz) := by
  refine Met.ofW (cc := cX12_number) (maxL := 5) (ret := (some .int)) (by decide +kernel) rfl ?_
  intro p e s m args below meth c s₁ B hml hv
  obtain ⟨rfl, hsz, hP, hK, hD0⟩ := hv
  have hx := B.exec
  have hb := B.bytes
  have hr := B.returns
  have hts := atoms_spec (ws := wf_c_X12_number_1) B.pre
  have hown : s.vm.findClass RX12 = some m.cls := findClass_of_methodNamed B.named
  have hlocks := B.notSynchronized
  subst hsz
  have hD := hD0.self (sz := s.heap.size)
  generalize hAe : va_A (wd_c_X12_number_1 h0 h0_f0 h0_1 h0_2 h0_3 h0_4 h0_5 h0_f6 h0_f7 h0_f8 h0_f9 h0_f10 (-1) h0_f12 h0_f13 h0_f14 h0_15 h0_16 h0_f17 h0_18 h0_19 h0_20 h0_21 h0_22 h0_23 h0_24 h0_25 h0_f26 h0_f27 h0_f28 h0_f29 h0_f30 h0_f31 h0_32 h0_33 h0_f34 h0_35 h0_36 h0_37 h0_38 h0_39 h0_40 h0_f41 h0_f42 h0_f43 h0_f44 h0_45 h0_46 h0_47 h0_48 h0_49 h0_50 h0_f51 h0_52 h0_f53 h0_5 h0_5k tN h0_5c) s.heap.size = A at hD ⊢
  have hA : ∀ q : Nat, s.heap.size ≤ q → A q := fun q h => by rw [← hAe]; exact Or.inr h
  have hP : va_P (dC, dI) vwCl (wd_c_X12_number_1 h0 h0_f0 h0_1 h0_2 h0_3 h0_4 h0_5 h0_f6 h0_f7 h0_f8 h0_f9 h0_f10 (-1) h0_f12 h0_f13 h0_f14 h0_15 h0_16 h0_f17 h0_18 h0_19 h0_20 h0_21 h0_22 h0_23 h0_24 h0_25 h0_f26 h0_f27 h0_f28 h0_f29 h0_f30 h0_f31 h0_32 h0_33 h0_f34 h0_35 h0_36 h0_37 h0_38 h0_39 h0_40 h0_f41 h0_f42 h0_f43 h0_f44 h0_45 h0_46 h0_47 h0_48 h0_49 h0_50 h0_f51 h0_52 h0_f53 h0_5 h0_5k tN h0_5c) s.heap := hP
  have hl := lv_entry ([.ref h0, .int 1, .int 4]) (n := 5) (Nat.le_of_ble_eq_true rfl)
  rw [lg_entry_eq]
  generalize (lg_sl ([.ref h0, .int 1, .int 4]) ++ List.replicate (5 - (lg_sl ([.ref h0, .int 1, .int 4])).length) Slot.unset).toArray = ls at hl ⊢
  have hl : lv_has ls 5 [(0, .ref h0), (1, .int 1), (2, .int 4)] := hl
  obtain ⟨H, hHe⟩ : ∃ H : Heap, s.heap = H := ⟨_, rfl⟩
  have hS : va_S A s.heap H [] := by rw [hHe]; exact va_S.rf
  have hP : va_P (dC, dI) vwCl (wd_c_X12_number_1 h0 h0_f0 h0_1 h0_2 h0_3 h0_4 h0_5 h0_f6 h0_f7 h0_f8 h0_f9 h0_f10 (-1) h0_f12 h0_f13 h0_f14 h0_15 h0_16 h0_f17 h0_18 h0_19 h0_20 h0_21 h0_22 h0_23 h0_24 h0_25 h0_f26 h0_f27 h0_f28 h0_f29 h0_f30 h0_f31 h0_32 h0_33 h0_f34 h0_35 h0_36 h0_37 h0_38 h0_39 h0_40 h0_f41 h0_f42 h0_f43 h0_f44 h0_45 h0_46 h0_47 h0_48 h0_49 h0_50 h0_f51 h0_52 h0_f53 h0_5 h0_5k tN h0_5c) H := by rw [← hHe]; exact hP
  rw [hHe]
  refine wj (fun G hG hU => ?_)
  as_aux_lemma =>
  have J67 : ∀ (j67_l4 : Int32) (j67_h0_f10 : Int32) (g_h0_f10 : RG h0_f10 0 240) (g_h0_f17 : RG h0_f17 0 1) (g_h0_f26 : RG h0_f26 0 8) (g_h0_f27 : RG h0_f27 0 3) (g_h0_f28 : RG h0_f28 0 8) (g_h0_f29 : RG h0_f29 0 3) (g_h0_f30 : RG h0_f30 0 4) (g_h0_f31 : RG h0_f31 0 1) (g_h0_f34 : RG h0_f34 (-1) 3) (g_h0_f41 : RG h0_f41 0 40) (g_h0_f51 : RG h0_f51 0 10) (g_h0_f53 : RG h0_f53 0 1) (g_h0_f6 : RG h0_f6 0 240) (g_h0_f7 : RG h0_f7 0 4) (g_h0_f8 : RG h0_f8 0 720) (g_h0_f9 : RG h0_f9 1 240) (g_j67_h0_f10 : RG j67_h0_f10 1 240) (g_j67_l4 : RG j67_l4 0 99) (r_h0_f10_j67_h0_f10 : h0_f10.toInt + 1 ≤ j67_h0_f10.toInt) (H : Heap) (locs : List Loc) (ls : Array Slot) (hP : va_P (dC, dI) vwCl (wd_c_X12_number_1 h0 h0_f0 h0_1 h0_2 h0_3 h0_4 h0_5 h0_f6 h0_f7 h0_f8 h0_f9 j67_h0_f10 (-1) h0_f12 h0_f13 h0_f14 h0_15 h0_16 h0_f17 h0_18 h0_19 h0_20 h0_21 h0_22 h0_23 h0_24 h0_25 h0_f26 h0_f27 h0_f28 h0_f29 h0_f30 h0_f31 h0_32 h0_33 h0_f34 h0_35 h0_36 h0_37 h0_38 h0_39 h0_40 h0_f41 h0_f42 h0_f43 h0_f44 h0_45 h0_46 h0_47 h0_48 h0_49 h0_50 h0_f51 h0_52 h0_f53 h0_5 h0_5k tN h0_5c) H) (hD : va_D A (wd_c_X12_number_1 h0 h0_f0 h0_1 h0_2 h0_3 h0_4 h0_5 h0_f6 h0_f7 h0_f8 h0_f9 j67_h0_f10 (-1) h0_f12 h0_f13 h0_f14 h0_15 h0_16 h0_f17 h0_18 h0_19 h0_20 h0_21 h0_22 h0_23 h0_24 h0_25 h0_f26 h0_f27 h0_f28 h0_f29 h0_f30 h0_f31 h0_32 h0_33 h0_f34 h0_35 h0_36 h0_37 h0_38 h0_39 h0_40 h0_f41 h0_f42 h0_f43 h0_f44 h0_45 h0_46 h0_47 h0_48 h0_49 h0_50 h0_f51 h0_52 h0_f53 h0_5 h0_5k tN h0_5c)) (hS : va_S A s.heap H locs) (hl : lv_has ls 5 [(4, .int j67_l4), (0, .ref h0), (1, .int 1), (2, .int 4)]), G H locs (F0 m 67 ls []) := by
    as_aux_lemma =>
    intro j67_l4 j67_h0_f10 g_h0_f10 g_h0_f17 g_h0_f26 g_h0_f27 g_h0_f28 g_h0_f29 g_h0_f30 g_h0_f31 g_h0_f34 g_h0_f41 g_h0_f51 g_h0_f53 g_h0_f6 g_h0_f7 g_h0_f8 g_h0_f9 g_j67_h0_f10 g_j67_l4 r_h0_f10_j67_h0_f10 H locs ls hP hD hS hl
    refine hG _ _ _ ?_
    refine lv_aload_n hx hb dX12_number_67 rfl (lv_at hl 1 rfl) ?_
    obtain ⟨hPc, hDc, hFc, hqc⟩ := cl_cut (wc := (wd_c_X12_isDigit h0 h0_f0 h0_1 h0_2 h0_3 h0_4 h0_5 h0_f6 h0_f7 h0_f8 h0_f9 j67_h0_f10 (-1) h0_f12 h0_f13 h0_f14 h0_15 h0_16 h0_f17 h0_18 h0_19 h0_20 h0_21 h0_22 h0_23 h0_24 h0_25 h0_f26 h0_f27 h0_f28 h0_f29 h0_f30 h0_f31 h0_32 h0_33 h0_f34 h0_35 h0_36 h0_37 h0_38 h0_39 h0_40 h0_f41 h0_f42 h0_f43 h0_f44 h0_45 h0_46 h0_47 h0_48 h0_49 h0_50 h0_f51 h0_52 h0_f53 h0_5 h0_5k tN h0_5c)) hP hD hS hA [0, 1] (by decide +kernel) rfl
    have hKc := hK.sub (tys' := [(h0_5k, .byte)]) [0] rfl
    have hrv := va_recv hKc hPc (ci := 12) (q0 := 0) rfl rfl
    refine va_calli (va_runV (As := []) (rest := []) ⟨hx, hb, hml, hown, hts⟩ (c_X12_isDigit l dC dI H.size h0 h0_f0 h0_1 h0_2 h0_3 h0_4 h0_5 h0_f6 h0_f7 h0_f8 h0_f9 j67_h0_f10 h0_f12 h0_f13 h0_f14 h0_15 h0_16 h0_f17 h0_18 h0_19 h0_20 h0_21 h0_22 h0_23 h0_24 h0_25 h0_f26 h0_f27 h0_f28 h0_f29 h0_f30 h0_f31 h0_32 h0_33 h0_f34 h0_35 h0_36 h0_37 h0_38 h0_39 h0_40 h0_f41 h0_f42 h0_f43 h0_f44 h0_45 h0_46 h0_47 h0_48 h0_49 h0_50 h0_f51 h0_52 h0_f53 h0_5k h0_5c tN g_h0_f6 g_h0_f7 g_h0_f8 (RG_w g_h0_f9 (by decide +kernel)) (RG_w g_j67_h0_f10 (by decide +kernel)) g_h0_f17 g_h0_f26 g_h0_f27 g_h0_f28 g_h0_f29 g_h0_f30 g_h0_f31 g_h0_f34 g_h0_f41 g_h0_f51 g_h0_f53 htN) (cwV 0 hts gf_c_X12_number_1_c_X12_isDigit rfl rfl rfl mdV_X12_isDigit ⟨Nat.le_of_ble_eq_true rfl, Nat.le_of_ble_eq_true rfl⟩) ⟨fun a U g mk q => by obtain ⟨q0, q1, qP, qK, qD⟩ := q; exact ⟨q0, q1, qP, va_K.moved (u := U) (U := U.calling g mk a) (Vm.Alike.refl U.vm) qK, qD⟩, hrv, fun U hU hW => ⟨rfl, by rw [hU], by rw [hU]; exact hPc, va_K.moved hW.alike hKc, hDc.weaken (fun _ _ _ _ => trivial)⟩⟩ rfl rfl hl.1 rfl (lv_room (Nat.le_of_ble_eq_true rfl)) dX12_number_68 ⟨Nat.le_of_ble_eq_true rfl, Nat.le_of_ble_eq_true rfl⟩) hS (fun q _ h => hFc q h) hFc (fun r_1 u t H1 locs ht hvm hw hB hz1 hk1 hS => ?_)
    obtain ⟨hP1, hK1, hD1⟩ := hB
    rw [ht] at hP1
    obtain ⟨hP, hD⟩ := cl_put (w1 := (wd_c_X12_isDigit h0 h0_f0 h0_1 h0_2 h0_3 h0_4 h0_5 h0_f6 h0_f7 h0_f8 h0_f9 j67_h0_f10 (-1) h0_f12 h0_f13 h0_f14 h0_15 h0_16 h0_f17 h0_18 h0_19 h0_20 h0_21 h0_22 h0_23 h0_24 h0_25 h0_f26 h0_f27 h0_f28 h0_f29 h0_f30 h0_f31 h0_32 h0_33 h0_f34 h0_35 h0_36 h0_37 h0_38 h0_39 h0_40 h0_f41 h0_f42 h0_f43 h0_f44 h0_45 h0_46 h0_47 h0_48 h0_49 h0_50 h0_f51 h0_52 h0_f53 h0_5 h0_5k tN h0_5c)) (nw := (wd_c_X12_number_1 h0 h0_f0 h0_1 h0_2 h0_3 h0_4 h0_5 h0_f6 h0_f7 h0_f8 h0_f9 j67_h0_f10 (-1) h0_f12 h0_f13 h0_f14 h0_15 h0_16 h0_f17 h0_18 h0_19 h0_20 h0_21 h0_22 h0_23 h0_24 h0_25 h0_f26 h0_f27 h0_f28 h0_f29 h0_f30 h0_f31 h0_32 h0_33 h0_f34 h0_35 h0_36 h0_37 h0_38 h0_39 h0_40 h0_f41 h0_f42 h0_f43 h0_f44 h0_45 h0_46 h0_47 h0_48 h0_49 h0_50 h0_f51 h0_52 h0_f53 h0_5 h0_5k tN h0_5c)) hP hD [0, 1] [2, 3] 2 rfl hqc (by decide +kernel) rfl hk1 hFc hP1 hD1
    generalize H1 = H at hP hS ⊢
    as_aux_lemma =>
    rcases hw with ⟨h_2, h_3⟩ | ⟨h_4, h_5, h_6, h_7, h_8⟩
    · rw [h_2]
      refine lv_if_eq (tgt := 81) hx hb dX12_number_71 rfl (fun c_9 => ?_) (fun c_9 => absurd c_9 (by decide +kernel))
      refine lv_iload hx hb dX12_number_81 (lv_at hl 0 rfl) ?_
      refine lv_i2l (v := j67_l4.toInt64) hx hb dX12_number_83 rfl ?_
      refine lv_topl (fun x_10 ex_10 => ?_)
      have g_11 : LG x_10 0 99 := LG_i2l ex_10 g_j67_l4
      refine lv_iload_n hx hb dX12_number_84 rfl (lv_at hl 2 rfl) ?_
      refine lv_i2l (v := 1) hx hb dX12_number_85 (by decide +kernel) ?_
      refine lv_iload_n hx hb dX12_number_86 rfl (lv_at hl 3 rfl) ?_
      refine lv_i2l (v := 4) hx hb dX12_number_87 (by decide +kernel) ?_
      obtain ⟨hPc, hDc, hFc, hqc⟩ := cl_cut (wc := []) hP hD hS hA [] (by decide +kernel) rfl
      have hKc := hK.sub (tys' := []) [] rfl
      refine va_calli (va_runS (As := [.long x_10, .long 1, .long 4]) (rest := []) ⟨hx, hb, hml, hown, hts⟩ (c_X12_isIn_2 l dC dI H.size x_10 g_11) (va_cwS 3 hts gf_c_X12_number_1_c_X12_isIn_2 rfl rfl rfl md_X12_isIn ⟨Nat.le_of_ble_eq_true rfl, Nat.le_of_ble_eq_true rfl⟩) ⟨fun a U g mk q => by obtain ⟨q0, q1, qP, qK, qD⟩ := q; exact ⟨q0, q1, qP, va_K.moved (u := U) (U := U.calling g mk a) (Vm.Alike.refl U.vm) qK, qD⟩, fun U hU hW => ⟨rfl, by rw [hU], by rw [hU]; exact hPc, va_K.moved hW.alike hKc, hDc.weaken (fun _ _ _ _ => trivial)⟩⟩ rfl rfl hl.1 rfl (lv_room (Nat.le_of_ble_eq_true rfl)) dX12_number_88 ⟨Nat.le_of_ble_eq_true rfl, Nat.le_of_ble_eq_true rfl⟩) hS (fun q _ h => hFc q h) hFc (fun r_12 u t H1 locs ht hvm hw hB hz1 hk1 hS => ?_)
      as_aux_lemma =>
      obtain ⟨hP1, hK1, hD1⟩ := hB
      rw [ht] at hP1
      have hP := bv_still hP hk1
      generalize H1 = H at hP hS ⊢
      as_aux_lemma =>
      rcases hw with h_13 | ⟨h_14, h_15⟩
      · rw [h_13]
        refine lv_if_ne (tgt := 109) hx hb dX12_number_91 rfl (fun c_16 => absurd c_16 (by decide +kernel)) (fun c_16 => ?_)
        refine lv_aload_n hx hb dX12_number_94 rfl (lv_at hl 1 rfl) ?_
        refine lv_dup hx hb dX12_number_95 rfl ?_
        refine va_get (D := (dC, dI)) (ci := 12) (v := .int j67_h0_f10) (C := RX12) (T := TX12) (N := 54) hx hb hts iw_c_X12_number_1_X12 hown hK hP 0 rfl rfl 10 (by decide +kernel) (hts (.fieldLink RX12 134 "BuoyVoteModel" "at" "I") (List.mem_of_getElem? (i := 6) rfl)) (fun _ h9 => h9) rfl dX12_number_96 ?_
        refine lv_iconst (v := 1) hx hb dX12_number_99 kc_iconst_1 ?_
        refine lv_isub hx hb dX12_number_100 ?_
        refine lv_topi (fun x_17 ex_17 => ?_)
        have g_18 : RG x_17 0 239 := RG_sub ex_17 g_j67_h0_f10 (RG_k 1 1 rfl) (by decide +kernel)
        refine va_put (D := (dC, dI)) (ci := 12) (v := .int x_17) (ty := .int) (C := RX12) (T := TX12) (N := 54) hx hb hts iw_c_X12_number_1_X12 tyX12 tyX12_ok nmX12 hown hK hP hD hS 0 rfl rfl 10 (by decide +kernel) (hts (.fieldLink RX12 134 "BuoyVoteModel" "at" "I") (List.mem_of_getElem? (i := 6) rfl)) (fun _ h9 => h9) rfl (by decide +kernel) rfl rfl (Nat.le_of_ble_eq_true rfl) dX12_number_101 (fun H locs hP hD hS => ?_)
        have hP : va_P (dC, dI) vwCl (wd_c_X12_number_1 h0 h0_f0 h0_1 h0_2 h0_3 h0_4 h0_5 h0_f6 h0_f7 h0_f8 h0_f9 x_17 (-1) h0_f12 h0_f13 h0_f14 h0_15 h0_16 h0_f17 h0_18 h0_19 h0_20 h0_21 h0_22 h0_23 h0_24 h0_25 h0_f26 h0_f27 h0_f28 h0_f29 h0_f30 h0_f31 h0_32 h0_33 h0_f34 h0_35 h0_36 h0_37 h0_38 h0_39 h0_40 h0_f41 h0_f42 h0_f43 h0_f44 h0_45 h0_46 h0_47 h0_48 h0_49 h0_50 h0_f51 h0_52 h0_f53 h0_5 h0_5k tN h0_5c) H := hP
        have hD : va_D A (wd_c_X12_number_1 h0 h0_f0 h0_1 h0_2 h0_3 h0_4 h0_5 h0_f6 h0_f7 h0_f8 h0_f9 x_17 (-1) h0_f12 h0_f13 h0_f14 h0_15 h0_16 h0_f17 h0_18 h0_19 h0_20 h0_21 h0_22 h0_23 h0_24 h0_25 h0_f26 h0_f27 h0_f28 h0_f29 h0_f30 h0_f31 h0_32 h0_33 h0_f34 h0_35 h0_36 h0_37 h0_38 h0_39 h0_40 h0_f41 h0_f42 h0_f43 h0_f44 h0_45 h0_46 h0_47 h0_48 h0_49 h0_50 h0_f51 h0_52 h0_f53 h0_5 h0_5k tN h0_5c) := hD
        refine lv_aload_n hx hb dX12_number_104 rfl (lv_at hl 1 rfl) ?_
        as_aux_lemma =>
        obtain ⟨hPc, hDc, hFc, hqc⟩ := cl_cut (wc := (wd_c_X12_fails h0 h0_f0 h0_1 h0_2 h0_3 h0_4 h0_5 h0_f6 h0_f7 h0_f8 h0_f9 x_17 (-1) h0_f12 h0_f13 h0_f14 h0_15 h0_16 h0_f17 h0_18 h0_19 h0_20 h0_21 h0_22 h0_23 h0_24 h0_25 h0_f26 h0_f27 h0_f28 h0_f29 h0_f30 h0_f31 h0_32 h0_33 h0_f34 h0_35 h0_36 h0_37 h0_38 h0_39 h0_40 h0_f41 h0_f42 h0_f43 h0_f44 h0_45 h0_46 h0_47 h0_48 h0_49 h0_50 h0_f51 h0_52 h0_f53)) hP hD hS hA [0] (by decide +kernel) rfl
        have hKc := hK.sub (tys' := []) [] rfl
        have hrv := va_recv hKc hPc (ci := 12) (q0 := 0) rfl rfl
        refine va_calli (va_runV (As := []) (rest := []) ⟨hx, hb, hml, hown, hts⟩ (c_X12_fails l dC dI H.size h0 h0_f0 h0_1 h0_2 h0_3 h0_4 h0_5 h0_f6 h0_f7 h0_f8 h0_f9 x_17 h0_f12 h0_f13 h0_f14 h0_15 h0_16 h0_f17 h0_18 h0_19 h0_20 h0_21 h0_22 h0_23 h0_24 h0_25 h0_f26 h0_f27 h0_f28 h0_f29 h0_f30 h0_f31 h0_32 h0_33 h0_f34 h0_35 h0_36 h0_37 h0_38 h0_39 h0_40 h0_f41 h0_f42 h0_f43 h0_f44 h0_45 h0_46 h0_47 h0_48 h0_49 h0_50 h0_f51 h0_52 h0_f53 g_h0_f6 g_h0_f7 g_h0_f8 (RG_w g_h0_f9 (by decide +kernel)) (RG_w g_18 (by decide +kernel)) g_h0_f17 g_h0_f26 g_h0_f27 g_h0_f28 g_h0_f29 g_h0_f30 g_h0_f31 g_h0_f34 g_h0_f41 g_h0_f51 g_h0_f53) (cwV 0 hts gf_c_X12_number_1_c_X12_fails rfl rfl rfl mdV_X12_fails ⟨Nat.le_of_ble_eq_true rfl, Nat.le_of_ble_eq_true rfl⟩) ⟨fun a U g mk q => by obtain ⟨q0, q1, qP, qK, qD⟩ := q; exact ⟨q0, q1, qP, va_K.moved (u := U) (U := U.calling g mk a) (Vm.Alike.refl U.vm) qK, qD⟩, hrv, fun U hU hW => ⟨rfl, by rw [hU], by rw [hU]; exact hPc, va_K.moved hW.alike hKc, hDc.weaken (fun _ _ _ _ => trivial)⟩⟩ rfl rfl hl.1 rfl (lv_room (Nat.le_of_ble_eq_true rfl)) dX12_number_105 ⟨Nat.le_of_ble_eq_true rfl, Nat.le_of_ble_eq_true rfl⟩) hS (fun q _ h => hFc q h) hFc (fun r_19 u t H1 locs ht hvm hw hB hz1 hk1 hS => ?_)
        obtain ⟨hP1, hK1, hD1⟩ := hB
        rw [ht] at hP1
        obtain ⟨hP, hD⟩ := cl_put (w1 := (wd_c_X12_fails h0 h0_f0 h0_1 h0_2 h0_3 h0_4 h0_5 h0_f6 h0_f7 h0_f8 h0_f9 x_17 x_17 h0_f12 h0_f13 h0_f14 h0_15 h0_16 h0_f17 h0_18 h0_19 h0_20 h0_21 h0_22 h0_23 h0_24 h0_25 h0_f26 h0_f27 h0_f28 h0_f29 h0_f30 h0_f31 h0_32 h0_33 h0_f34 h0_35 h0_36 h0_37 h0_38 h0_39 h0_40 h0_f41 h0_f42 h0_f43 h0_f44 h0_45 h0_46 h0_47 h0_48 h0_49 h0_50 h0_f51 h0_52 h0_f53)) (nw := (wd_c_X12_number_1 h0 h0_f0 h0_1 h0_2 h0_3 h0_4 h0_5 h0_f6 h0_f7 h0_f8 h0_f9 x_17 x_17 h0_f12 h0_f13 h0_f14 h0_15 h0_16 h0_f17 h0_18 h0_19 h0_20 h0_21 h0_22 h0_23 h0_24 h0_25 h0_f26 h0_f27 h0_f28 h0_f29 h0_f30 h0_f31 h0_32 h0_33 h0_f34 h0_35 h0_36 h0_37 h0_38 h0_39 h0_40 h0_f41 h0_f42 h0_f43 h0_f44 h0_45 h0_46 h0_47 h0_48 h0_49 h0_50 h0_f51 h0_52 h0_f53 h0_5 h0_5k tN h0_5c)) hP hD [0] [2, 1] 2 rfl hqc (by decide +kernel) rfl hk1 hFc hP1 hD1
        generalize H1 = H at hP hS ⊢
        as_aux_lemma =>
        have h_20 := hw
        rw [h_20]
        refine lv_pop hx hb dX12_number_108 rfl ?_
        refine lv_iload hx hb dX12_number_109 (lv_at hl 0 rfl) ?_
        have hK9 := hK.sub (tys' := []) [] rfl
        exact W.iret (v := j67_l4) hx hb hr (fun t ht hW => ⟨⟨j67_l4, (x_17, x_17), rfl, (Or.inr (Or.inl ⟨g_j67_l4, g_18, g_18, g_h0_f9⟩)), by rw [ht]; exact hP, va_K.moved hW.alike hK9, hD⟩, hS.F ht⟩) hS.2.2 dX12_number_111
      · rw [h_14]
        have g_21 : RG j67_l4 1 4 := RG_of_LG g_j67_l4 h_15 ex_10 (by decide +kernel)
        refine lv_if_ne (tgt := 109) hx hb dX12_number_91 rfl (fun c_22 => ?_) (fun c_22 => absurd c_22 (by decide +kernel))
        refine lv_iload hx hb dX12_number_109 (lv_at hl 0 rfl) ?_
        have hK9 := hK.sub (tys' := []) [] rfl
        exact W.iret (v := j67_l4) hx hb hr (fun t ht hW => ⟨⟨j67_l4, (j67_h0_f10, (-1)), rfl, (Or.inr (Or.inr ⟨g_21, g_j67_h0_f10, rfl, g_h0_f9, (by have := r_h0_f10_j67_h0_f10; show h0_f10.toInt + 1 ≤ j67_h0_f10.toInt; omega)⟩)), by rw [ht]; exact hP, va_K.moved hW.alike hK9, hD⟩, hS.F ht⟩) hS.2.2 dX12_number_111
    · rw [h_4]
      have g_23 : RG j67_h0_f10 1 239 := RG_eq1 g_j67_h0_f10 h_5 rfl (by decide +kernel)
      have g_24 := h_8 h_4
      refine lv_if_eq (tgt := 81) hx hb dX12_number_71 rfl (fun c_25 => absurd c_25 (by decide +kernel)) (fun c_25 => ?_)
      as_aux_lemma =>
      refine lv_aload_n hx hb dX12_number_74 rfl (lv_at hl 1 rfl) ?_
      obtain ⟨hPc, hDc, hFc, hqc⟩ := cl_cut (wc := (wd_c_X12_fails h0 h0_f0 h0_1 h0_2 h0_3 h0_4 h0_5 h0_f6 h0_f7 h0_f8 h0_f9 j67_h0_f10 (-1) h0_f12 h0_f13 h0_f14 h0_15 h0_16 h0_f17 h0_18 h0_19 h0_20 h0_21 h0_22 h0_23 h0_24 h0_25 h0_f26 h0_f27 h0_f28 h0_f29 h0_f30 h0_f31 h0_32 h0_33 h0_f34 h0_35 h0_36 h0_37 h0_38 h0_39 h0_40 h0_f41 h0_f42 h0_f43 h0_f44 h0_45 h0_46 h0_47 h0_48 h0_49 h0_50 h0_f51 h0_52 h0_f53)) hP hD hS hA [0] (by decide +kernel) rfl
      have hKc := hK.sub (tys' := []) [] rfl
      have hrv := va_recv hKc hPc (ci := 12) (q0 := 0) rfl rfl
      refine va_calli (va_runV (As := []) (rest := []) ⟨hx, hb, hml, hown, hts⟩ (c_X12_fails l dC dI H.size h0 h0_f0 h0_1 h0_2 h0_3 h0_4 h0_5 h0_f6 h0_f7 h0_f8 h0_f9 j67_h0_f10 h0_f12 h0_f13 h0_f14 h0_15 h0_16 h0_f17 h0_18 h0_19 h0_20 h0_21 h0_22 h0_23 h0_24 h0_25 h0_f26 h0_f27 h0_f28 h0_f29 h0_f30 h0_f31 h0_32 h0_33 h0_f34 h0_35 h0_36 h0_37 h0_38 h0_39 h0_40 h0_f41 h0_f42 h0_f43 h0_f44 h0_45 h0_46 h0_47 h0_48 h0_49 h0_50 h0_f51 h0_52 h0_f53 g_h0_f6 g_h0_f7 g_h0_f8 (RG_w g_h0_f9 (by decide +kernel)) (RG_w g_23 (by decide +kernel)) g_h0_f17 g_h0_f26 g_h0_f27 g_h0_f28 g_h0_f29 g_h0_f30 g_h0_f31 g_h0_f34 g_h0_f41 g_h0_f51 g_h0_f53) (cwV 0 hts gf_c_X12_number_1_c_X12_fails rfl rfl rfl mdV_X12_fails ⟨Nat.le_of_ble_eq_true rfl, Nat.le_of_ble_eq_true rfl⟩) ⟨fun a U g mk q => by obtain ⟨q0, q1, qP, qK, qD⟩ := q; exact ⟨q0, q1, qP, va_K.moved (u := U) (U := U.calling g mk a) (Vm.Alike.refl U.vm) qK, qD⟩, hrv, fun U hU hW => ⟨rfl, by rw [hU], by rw [hU]; exact hPc, va_K.moved hW.alike hKc, hDc.weaken (fun _ _ _ _ => trivial)⟩⟩ rfl rfl hl.1 rfl (lv_room (Nat.le_of_ble_eq_true rfl)) dX12_number_75 ⟨Nat.le_of_ble_eq_true rfl, Nat.le_of_ble_eq_true rfl⟩) hS (fun q _ h => hFc q h) hFc (fun r_26 u t H1 locs ht hvm hw hB hz1 hk1 hS => ?_)
      obtain ⟨hP1, hK1, hD1⟩ := hB
      rw [ht] at hP1
      obtain ⟨hP, hD⟩ := cl_put (w1 := (wd_c_X12_fails h0 h0_f0 h0_1 h0_2 h0_3 h0_4 h0_5 h0_f6 h0_f7 h0_f8 h0_f9 j67_h0_f10 j67_h0_f10 h0_f12 h0_f13 h0_f14 h0_15 h0_16 h0_f17 h0_18 h0_19 h0_20 h0_21 h0_22 h0_23 h0_24 h0_25 h0_f26 h0_f27 h0_f28 h0_f29 h0_f30 h0_f31 h0_32 h0_33 h0_f34 h0_35 h0_36 h0_37 h0_38 h0_39 h0_40 h0_f41 h0_f42 h0_f43 h0_f44 h0_45 h0_46 h0_47 h0_48 h0_49 h0_50 h0_f51 h0_52 h0_f53)) (nw := (wd_c_X12_number_1 h0 h0_f0 h0_1 h0_2 h0_3 h0_4 h0_5 h0_f6 h0_f7 h0_f8 h0_f9 j67_h0_f10 j67_h0_f10 h0_f12 h0_f13 h0_f14 h0_15 h0_16 h0_f17 h0_18 h0_19 h0_20 h0_21 h0_22 h0_23 h0_24 h0_25 h0_f26 h0_f27 h0_f28 h0_f29 h0_f30 h0_f31 h0_32 h0_33 h0_f34 h0_35 h0_36 h0_37 h0_38 h0_39 h0_40 h0_f41 h0_f42 h0_f43 h0_f44 h0_45 h0_46 h0_47 h0_48 h0_49 h0_50 h0_f51 h0_52 h0_f53 h0_5 h0_5k tN h0_5c)) hP hD [0] [2, 1] 2 rfl hqc (by decide +kernel) rfl hk1 hFc hP1 hD1
      generalize H1 = H at hP hS ⊢
      as_aux_lemma =>
      have h_27 := hw
      rw [h_27]
      refine lv_pop hx hb dX12_number_78 rfl ?_
      refine lv_iconst (v := 0) hx hb dX12_number_79 kc_iconst_0 ?_
      have hK9 := hK.sub (tys' := []) [] rfl
      exact W.iret (v := 0) hx hb hr (fun t ht hW => ⟨⟨0, (j67_h0_f10, j67_h0_f10), rfl, (Or.inl ⟨rfl, (RG_w g_23 (by decide +kernel)), (RG_w g_23 (by decide +kernel)), (by have := r_h0_f10_j67_h0_f10; show h0_f10.toInt + 0 ≤ j67_h0_f10.toInt; omega)⟩), by rw [ht]; exact hP, va_K.moved hW.alike hK9, hD⟩, hS.F ht⟩) hS.2.2 dX12_number_80
  refine hG _ _ _ ?_
  refine lv_aload_n hx hb dX12_number_0 rfl (lv_at hl 0 rfl) ?_
  obtain ⟨hPc, hDc, hFc, hqc⟩ := cl_cut (wc := (wd_c_X12_look h0 h0_f0 h0_1 h0_2 h0_3 h0_4 h0_5 h0_f6 h0_f7 h0_f8 h0_f9 h0_f10 (-1) h0_f12 h0_f13 h0_f14 h0_15 h0_16 h0_f17 h0_18 h0_19 h0_20 h0_21 h0_22 h0_23 h0_24 h0_25 h0_f26 h0_f27 h0_f28 h0_f29 h0_f30 h0_f31 h0_32 h0_33 h0_f34 h0_35 h0_36 h0_37 h0_38 h0_39 h0_40 h0_f41 h0_f42 h0_f43 h0_f44 h0_45 h0_46 h0_47 h0_48 h0_49 h0_50 h0_f51 h0_52 h0_f53 h0_5 h0_5k tN h0_5c)) hP hD hS hA [0, 1] (by decide +kernel) rfl
  have hKc := hK.sub (tys' := [(h0_5k, .byte)]) [0] rfl
  have hrv := va_recv hKc hPc (ci := 12) (q0 := 0) rfl rfl
  refine va_calli (va_runV (As := []) (rest := []) ⟨hx, hb, hml, hown, hts⟩ (c_X12_look l dC dI H.size h0 h0_f0 h0_1 h0_2 h0_3 h0_4 h0_5 h0_f6 h0_f7 h0_f8 h0_f9 h0_f10 h0_f12 h0_f13 h0_f14 h0_15 h0_16 h0_f17 h0_18 h0_19 h0_20 h0_21 h0_22 h0_23 h0_24 h0_25 h0_f26 h0_f27 h0_f28 h0_f29 h0_f30 h0_f31 h0_32 h0_33 h0_f34 h0_35 h0_36 h0_37 h0_38 h0_39 h0_40 h0_f41 h0_f42 h0_f43 h0_f44 h0_45 h0_46 h0_47 h0_48 h0_49 h0_50 h0_f51 h0_52 h0_f53 h0_5k h0_5c tN g_h0_f6 g_h0_f7 g_h0_f8 g_h0_f9 g_h0_f10 g_h0_f17 g_h0_f26 g_h0_f27 g_h0_f28 g_h0_f29 g_h0_f30 g_h0_f31 g_h0_f34 g_h0_f41 g_h0_f51 g_h0_f53 htN) (cwV 0 hts gf_c_X12_number_1_c_X12_look rfl rfl rfl mdV_X12_look ⟨Nat.le_of_ble_eq_true rfl, Nat.le_of_ble_eq_true rfl⟩) ⟨fun a U g mk q => by obtain ⟨q0, q1, qP, qK, qD⟩ := q; exact ⟨q0, q1, qP, va_K.moved (u := U) (U := U.calling g mk a) (Vm.Alike.refl U.vm) qK, qD⟩, hrv, fun U hU hW => ⟨rfl, by rw [hU], by rw [hU]; exact hPc, va_K.moved hW.alike hKc, hDc.weaken (fun _ _ _ _ => trivial)⟩⟩ rfl rfl hl.1 rfl (lv_room (Nat.le_of_ble_eq_true rfl)) dX12_number_1 ⟨Nat.le_of_ble_eq_true rfl, Nat.le_of_ble_eq_true rfl⟩) hS (fun q _ h => hFc q h) hFc (fun r_28 x_29 t H1 locs ht hvm hw hB hz1 hk1 hS => ?_)
  obtain ⟨hP1, hK1, hD1⟩ := hB
  rw [ht] at hP1
  obtain ⟨hP, hD⟩ := cl_put (w1 := (wd_c_X12_look h0 h0_f0 h0_1 h0_2 h0_3 h0_4 h0_5 h0_f6 h0_f7 h0_f8 h0_f9 x_29 (-1) h0_f12 h0_f13 h0_f14 h0_15 h0_16 h0_f17 h0_18 h0_19 h0_20 h0_21 h0_22 h0_23 h0_24 h0_25 h0_f26 h0_f27 h0_f28 h0_f29 h0_f30 h0_f31 h0_32 h0_33 h0_f34 h0_35 h0_36 h0_37 h0_38 h0_39 h0_40 h0_f41 h0_f42 h0_f43 h0_f44 h0_45 h0_46 h0_47 h0_48 h0_49 h0_50 h0_f51 h0_52 h0_f53 h0_5 h0_5k tN h0_5c)) (nw := (wd_c_X12_number_1 h0 h0_f0 h0_1 h0_2 h0_3 h0_4 h0_5 h0_f6 h0_f7 h0_f8 h0_f9 x_29 (-1) h0_f12 h0_f13 h0_f14 h0_15 h0_16 h0_f17 h0_18 h0_19 h0_20 h0_21 h0_22 h0_23 h0_24 h0_25 h0_f26 h0_f27 h0_f28 h0_f29 h0_f30 h0_f31 h0_32 h0_33 h0_f34 h0_35 h0_36 h0_37 h0_38 h0_39 h0_40 h0_f41 h0_f42 h0_f43 h0_f44 h0_45 h0_46 h0_47 h0_48 h0_49 h0_50 h0_f51 h0_52 h0_f53 h0_5 h0_5k tN h0_5c)) hP hD [0, 1] [2, 3] 2 rfl hqc (by decide +kernel) rfl hk1 hFc hP1 hD1
  generalize H1 = H at hP hS ⊢
  as_aux_lemma =>
  rcases hw with ⟨h_30, h_31, h_32, h_33, h_34⟩ | ⟨h_35, h_36, h_37, h_38, h_39, h_40⟩
  · rw [h_30]
    refine lv_istore_n (lv' := [(3, .int (-1)), (0, .ref h0), (1, .int 1), (2, .int 4)]) hx hb dX12_number_4 rfl hl (Nat.le_of_ble_eq_true rfl) rfl (fun ls hl => ?_)
    refine lv_aload_n hx hb dX12_number_5 rfl (lv_at hl 1 rfl) ?_
    obtain ⟨hPc, hDc, hFc, hqc⟩ := cl_cut (wc := (wd_c_X12_isDigit h0 h0_f0 h0_1 h0_2 h0_3 h0_4 h0_5 h0_f6 h0_f7 h0_f8 h0_f9 x_29 (-1) h0_f12 h0_f13 h0_f14 h0_15 h0_16 h0_f17 h0_18 h0_19 h0_20 h0_21 h0_22 h0_23 h0_24 h0_25 h0_f26 h0_f27 h0_f28 h0_f29 h0_f30 h0_f31 h0_32 h0_33 h0_f34 h0_35 h0_36 h0_37 h0_38 h0_39 h0_40 h0_f41 h0_f42 h0_f43 h0_f44 h0_45 h0_46 h0_47 h0_48 h0_49 h0_50 h0_f51 h0_52 h0_f53 h0_5 h0_5k tN h0_5c)) hP hD hS hA [0, 1] (by decide +kernel) rfl
    have hKc := hK.sub (tys' := [(h0_5k, .byte)]) [0] rfl
    have hrv := va_recv hKc hPc (ci := 12) (q0 := 0) rfl rfl
    refine va_calli (va_runV (As := []) (rest := []) ⟨hx, hb, hml, hown, hts⟩ (c_X12_isDigit l dC dI H.size h0 h0_f0 h0_1 h0_2 h0_3 h0_4 h0_5 h0_f6 h0_f7 h0_f8 h0_f9 x_29 h0_f12 h0_f13 h0_f14 h0_15 h0_16 h0_f17 h0_18 h0_19 h0_20 h0_21 h0_22 h0_23 h0_24 h0_25 h0_f26 h0_f27 h0_f28 h0_f29 h0_f30 h0_f31 h0_32 h0_33 h0_f34 h0_35 h0_36 h0_37 h0_38 h0_39 h0_40 h0_f41 h0_f42 h0_f43 h0_f44 h0_45 h0_46 h0_47 h0_48 h0_49 h0_50 h0_f51 h0_52 h0_f53 h0_5k h0_5c tN g_h0_f6 g_h0_f7 g_h0_f8 g_h0_f9 h_31 g_h0_f17 g_h0_f26 g_h0_f27 g_h0_f28 g_h0_f29 g_h0_f30 g_h0_f31 g_h0_f34 g_h0_f41 g_h0_f51 g_h0_f53 htN) (cwV 0 hts gf_c_X12_number_1_c_X12_isDigit rfl rfl rfl mdV_X12_isDigit ⟨Nat.le_of_ble_eq_true rfl, Nat.le_of_ble_eq_true rfl⟩) ⟨fun a U g mk q => by obtain ⟨q0, q1, qP, qK, qD⟩ := q; exact ⟨q0, q1, qP, va_K.moved (u := U) (U := U.calling g mk a) (Vm.Alike.refl U.vm) qK, qD⟩, hrv, fun U hU hW => ⟨rfl, by rw [hU], by rw [hU]; exact hPc, va_K.moved hW.alike hKc, hDc.weaken (fun _ _ _ _ => trivial)⟩⟩ rfl rfl hl.1 rfl (lv_room (Nat.le_of_ble_eq_true rfl)) dX12_number_6 ⟨Nat.le_of_ble_eq_true rfl, Nat.le_of_ble_eq_true rfl⟩) hS (fun q _ h => hFc q h) hFc (fun r_41 u t H1 locs ht hvm hw hB hz1 hk1 hS => ?_)
    obtain ⟨hP1, hK1, hD1⟩ := hB
    rw [ht] at hP1
    obtain ⟨hP, hD⟩ := cl_put (w1 := (wd_c_X12_isDigit h0 h0_f0 h0_1 h0_2 h0_3 h0_4 h0_5 h0_f6 h0_f7 h0_f8 h0_f9 x_29 (-1) h0_f12 h0_f13 h0_f14 h0_15 h0_16 h0_f17 h0_18 h0_19 h0_20 h0_21 h0_22 h0_23 h0_24 h0_25 h0_f26 h0_f27 h0_f28 h0_f29 h0_f30 h0_f31 h0_32 h0_33 h0_f34 h0_35 h0_36 h0_37 h0_38 h0_39 h0_40 h0_f41 h0_f42 h0_f43 h0_f44 h0_45 h0_46 h0_47 h0_48 h0_49 h0_50 h0_f51 h0_52 h0_f53 h0_5 h0_5k tN h0_5c)) (nw := (wd_c_X12_number_1 h0 h0_f0 h0_1 h0_2 h0_3 h0_4 h0_5 h0_f6 h0_f7 h0_f8 h0_f9 x_29 (-1) h0_f12 h0_f13 h0_f14 h0_15 h0_16 h0_f17 h0_18 h0_19 h0_20 h0_21 h0_22 h0_23 h0_24 h0_25 h0_f26 h0_f27 h0_f28 h0_f29 h0_f30 h0_f31 h0_32 h0_33 h0_f34 h0_35 h0_36 h0_37 h0_38 h0_39 h0_40 h0_f41 h0_f42 h0_f43 h0_f44 h0_45 h0_46 h0_47 h0_48 h0_49 h0_50 h0_f51 h0_52 h0_f53 h0_5 h0_5k tN h0_5c)) hP hD [0, 1] [2, 3] 2 rfl hqc (by decide +kernel) rfl hk1 hFc hP1 hD1
    generalize H1 = H at hP hS ⊢
    as_aux_lemma =>
    rcases hw with ⟨h_42, h_43⟩ | ⟨h_44, h_45, h_46, h_47, h_48⟩
    · rw [h_42]
      refine lv_if_ne (tgt := 19) hx hb dX12_number_9 rfl (fun c_49 => absurd c_49 (by decide +kernel)) (fun c_49 => ?_)
      refine lv_aload_n hx hb dX12_number_12 rfl (lv_at hl 1 rfl) ?_
      obtain ⟨hPc, hDc, hFc, hqc⟩ := cl_cut (wc := (wd_c_X12_fails h0 h0_f0 h0_1 h0_2 h0_3 h0_4 h0_5 h0_f6 h0_f7 h0_f8 h0_f9 x_29 (-1) h0_f12 h0_f13 h0_f14 h0_15 h0_16 h0_f17 h0_18 h0_19 h0_20 h0_21 h0_22 h0_23 h0_24 h0_25 h0_f26 h0_f27 h0_f28 h0_f29 h0_f30 h0_f31 h0_32 h0_33 h0_f34 h0_35 h0_36 h0_37 h0_38 h0_39 h0_40 h0_f41 h0_f42 h0_f43 h0_f44 h0_45 h0_46 h0_47 h0_48 h0_49 h0_50 h0_f51 h0_52 h0_f53)) hP hD hS hA [0] (by decide +kernel) rfl
      have hKc := hK.sub (tys' := []) [] rfl
      have hrv := va_recv hKc hPc (ci := 12) (q0 := 0) rfl rfl
      refine va_calli (va_runV (As := []) (rest := []) ⟨hx, hb, hml, hown, hts⟩ (c_X12_fails l dC dI H.size h0 h0_f0 h0_1 h0_2 h0_3 h0_4 h0_5 h0_f6 h0_f7 h0_f8 h0_f9 x_29 h0_f12 h0_f13 h0_f14 h0_15 h0_16 h0_f17 h0_18 h0_19 h0_20 h0_21 h0_22 h0_23 h0_24 h0_25 h0_f26 h0_f27 h0_f28 h0_f29 h0_f30 h0_f31 h0_32 h0_33 h0_f34 h0_35 h0_36 h0_37 h0_38 h0_39 h0_40 h0_f41 h0_f42 h0_f43 h0_f44 h0_45 h0_46 h0_47 h0_48 h0_49 h0_50 h0_f51 h0_52 h0_f53 g_h0_f6 g_h0_f7 g_h0_f8 g_h0_f9 h_31 g_h0_f17 g_h0_f26 g_h0_f27 g_h0_f28 g_h0_f29 g_h0_f30 g_h0_f31 g_h0_f34 g_h0_f41 g_h0_f51 g_h0_f53) (cwV 0 hts gf_c_X12_number_1_c_X12_fails rfl rfl rfl mdV_X12_fails ⟨Nat.le_of_ble_eq_true rfl, Nat.le_of_ble_eq_true rfl⟩) ⟨fun a U g mk q => by obtain ⟨q0, q1, qP, qK, qD⟩ := q; exact ⟨q0, q1, qP, va_K.moved (u := U) (U := U.calling g mk a) (Vm.Alike.refl U.vm) qK, qD⟩, hrv, fun U hU hW => ⟨rfl, by rw [hU], by rw [hU]; exact hPc, va_K.moved hW.alike hKc, hDc.weaken (fun _ _ _ _ => trivial)⟩⟩ rfl rfl hl.1 rfl (lv_room (Nat.le_of_ble_eq_true rfl)) dX12_number_13 ⟨Nat.le_of_ble_eq_true rfl, Nat.le_of_ble_eq_true rfl⟩) hS (fun q _ h => hFc q h) hFc (fun r_50 u t H1 locs ht hvm hw hB hz1 hk1 hS => ?_)
      obtain ⟨hP1, hK1, hD1⟩ := hB
      rw [ht] at hP1
      obtain ⟨hP, hD⟩ := cl_put (w1 := (wd_c_X12_fails h0 h0_f0 h0_1 h0_2 h0_3 h0_4 h0_5 h0_f6 h0_f7 h0_f8 h0_f9 x_29 x_29 h0_f12 h0_f13 h0_f14 h0_15 h0_16 h0_f17 h0_18 h0_19 h0_20 h0_21 h0_22 h0_23 h0_24 h0_25 h0_f26 h0_f27 h0_f28 h0_f29 h0_f30 h0_f31 h0_32 h0_33 h0_f34 h0_35 h0_36 h0_37 h0_38 h0_39 h0_40 h0_f41 h0_f42 h0_f43 h0_f44 h0_45 h0_46 h0_47 h0_48 h0_49 h0_50 h0_f51 h0_52 h0_f53)) (nw := (wd_c_X12_number_1 h0 h0_f0 h0_1 h0_2 h0_3 h0_4 h0_5 h0_f6 h0_f7 h0_f8 h0_f9 x_29 x_29 h0_f12 h0_f13 h0_f14 h0_15 h0_16 h0_f17 h0_18 h0_19 h0_20 h0_21 h0_22 h0_23 h0_24 h0_25 h0_f26 h0_f27 h0_f28 h0_f29 h0_f30 h0_f31 h0_32 h0_33 h0_f34 h0_35 h0_36 h0_37 h0_38 h0_39 h0_40 h0_f41 h0_f42 h0_f43 h0_f44 h0_45 h0_46 h0_47 h0_48 h0_49 h0_50 h0_f51 h0_52 h0_f53 h0_5 h0_5k tN h0_5c)) hP hD [0] [2, 1] 2 rfl hqc (by decide +kernel) rfl hk1 hFc hP1 hD1
      generalize H1 = H at hP hS ⊢
      as_aux_lemma =>
      have h_51 := hw
      rw [h_51]
      refine lv_pop hx hb dX12_number_16 rfl ?_
      refine lv_iconst (v := 0) hx hb dX12_number_17 kc_iconst_0 ?_
      have hK9 := hK.sub (tys' := []) [] rfl
      exact W.iret (v := 0) hx hb hr (fun t ht hW => ⟨⟨0, (x_29, x_29), rfl, (Or.inl ⟨rfl, h_31, h_31, (by have := h_32; show h0_f10.toInt + 0 ≤ x_29.toInt; omega)⟩), by rw [ht]; exact hP, va_K.moved hW.alike hK9, hD⟩, hS.F ht⟩) hS.2.2 dX12_number_18
    · rw [h_44]
      exfalso
      have := h_47
      have := h_33
      omega
  · have nb_52 := h_40.2.resolve_left (fun q => by have g9 := h_35; rw [q] at g9; exact absurd g9.1 (by decide +kernel))
    refine lv_istore_n (lv' := [(3, .int r_28), (0, .ref h0), (1, .int 1), (2, .int 4)]) hx hb dX12_number_4 rfl hl (Nat.le_of_ble_eq_true rfl) rfl (fun ls hl => ?_)
    refine lv_aload_n hx hb dX12_number_5 rfl (lv_at hl 1 rfl) ?_
    as_aux_lemma =>
    obtain ⟨hPc, hDc, hFc, hqc⟩ := cl_cut (wc := (wd_c_X12_isDigit h0 h0_f0 h0_1 h0_2 h0_3 h0_4 h0_5 h0_f6 h0_f7 h0_f8 h0_f9 x_29 (-1) h0_f12 h0_f13 h0_f14 h0_15 h0_16 h0_f17 h0_18 h0_19 h0_20 h0_21 h0_22 h0_23 h0_24 h0_25 h0_f26 h0_f27 h0_f28 h0_f29 h0_f30 h0_f31 h0_32 h0_33 h0_f34 h0_35 h0_36 h0_37 h0_38 h0_39 h0_40 h0_f41 h0_f42 h0_f43 h0_f44 h0_45 h0_46 h0_47 h0_48 h0_49 h0_50 h0_f51 h0_52 h0_f53 h0_5 h0_5k tN h0_5c)) hP hD hS hA [0, 1] (by decide +kernel) rfl
    have hKc := hK.sub (tys' := [(h0_5k, .byte)]) [0] rfl
    have hrv := va_recv hKc hPc (ci := 12) (q0 := 0) rfl rfl
    refine va_calli (va_runV (As := []) (rest := []) ⟨hx, hb, hml, hown, hts⟩ (c_X12_isDigit l dC dI H.size h0 h0_f0 h0_1 h0_2 h0_3 h0_4 h0_5 h0_f6 h0_f7 h0_f8 h0_f9 x_29 h0_f12 h0_f13 h0_f14 h0_15 h0_16 h0_f17 h0_18 h0_19 h0_20 h0_21 h0_22 h0_23 h0_24 h0_25 h0_f26 h0_f27 h0_f28 h0_f29 h0_f30 h0_f31 h0_32 h0_33 h0_f34 h0_35 h0_36 h0_37 h0_38 h0_39 h0_40 h0_f41 h0_f42 h0_f43 h0_f44 h0_45 h0_46 h0_47 h0_48 h0_49 h0_50 h0_f51 h0_52 h0_f53 h0_5k h0_5c tN g_h0_f6 g_h0_f7 g_h0_f8 (RG_w h_37 (by decide +kernel)) (RG_w h_36 (by decide +kernel)) g_h0_f17 g_h0_f26 g_h0_f27 g_h0_f28 g_h0_f29 g_h0_f30 g_h0_f31 g_h0_f34 g_h0_f41 g_h0_f51 g_h0_f53 htN) (cwV 0 hts gf_c_X12_number_1_c_X12_isDigit rfl rfl rfl mdV_X12_isDigit ⟨Nat.le_of_ble_eq_true rfl, Nat.le_of_ble_eq_true rfl⟩) ⟨fun a U g mk q => by obtain ⟨q0, q1, qP, qK, qD⟩ := q; exact ⟨q0, q1, qP, va_K.moved (u := U) (U := U.calling g mk a) (Vm.Alike.refl U.vm) qK, qD⟩, hrv, fun U hU hW => ⟨rfl, by rw [hU], by rw [hU]; exact hPc, va_K.moved hW.alike hKc, hDc.weaken (fun _ _ _ _ => trivial)⟩⟩ rfl rfl hl.1 rfl (lv_room (Nat.le_of_ble_eq_true rfl)) dX12_number_6 ⟨Nat.le_of_ble_eq_true rfl, Nat.le_of_ble_eq_true rfl⟩) hS (fun q _ h => hFc q h) hFc (fun r_53 u t H1 locs ht hvm hw hB hz1 hk1 hS => ?_)
    obtain ⟨hP1, hK1, hD1⟩ := hB
    rw [ht] at hP1
    obtain ⟨hP, hD⟩ := cl_put (w1 := (wd_c_X12_isDigit h0 h0_f0 h0_1 h0_2 h0_3 h0_4 h0_5 h0_f6 h0_f7 h0_f8 h0_f9 x_29 (-1) h0_f12 h0_f13 h0_f14 h0_15 h0_16 h0_f17 h0_18 h0_19 h0_20 h0_21 h0_22 h0_23 h0_24 h0_25 h0_f26 h0_f27 h0_f28 h0_f29 h0_f30 h0_f31 h0_32 h0_33 h0_f34 h0_35 h0_36 h0_37 h0_38 h0_39 h0_40 h0_f41 h0_f42 h0_f43 h0_f44 h0_45 h0_46 h0_47 h0_48 h0_49 h0_50 h0_f51 h0_52 h0_f53 h0_5 h0_5k tN h0_5c)) (nw := (wd_c_X12_number_1 h0 h0_f0 h0_1 h0_2 h0_3 h0_4 h0_5 h0_f6 h0_f7 h0_f8 h0_f9 x_29 (-1) h0_f12 h0_f13 h0_f14 h0_15 h0_16 h0_f17 h0_18 h0_19 h0_20 h0_21 h0_22 h0_23 h0_24 h0_25 h0_f26 h0_f27 h0_f28 h0_f29 h0_f30 h0_f31 h0_32 h0_33 h0_f34 h0_35 h0_36 h0_37 h0_38 h0_39 h0_40 h0_f41 h0_f42 h0_f43 h0_f44 h0_45 h0_46 h0_47 h0_48 h0_49 h0_50 h0_f51 h0_52 h0_f53 h0_5 h0_5k tN h0_5c)) hP hD [0, 1] [2, 3] 2 rfl hqc (by decide +kernel) rfl hk1 hFc hP1 hD1
    generalize H1 = H at hP hS ⊢
    as_aux_lemma =>
    rcases hw with ⟨h_54, h_55⟩ | ⟨h_56, h_57, h_58, h_59, h_60⟩
    · rw [h_54]
      refine lv_if_ne (tgt := 19) hx hb dX12_number_9 rfl (fun c_61 => absurd c_61 (by decide +kernel)) (fun c_61 => ?_)
      refine lv_aload_n hx hb dX12_number_12 rfl (lv_at hl 1 rfl) ?_
      obtain ⟨hPc, hDc, hFc, hqc⟩ := cl_cut (wc := (wd_c_X12_fails h0 h0_f0 h0_1 h0_2 h0_3 h0_4 h0_5 h0_f6 h0_f7 h0_f8 h0_f9 x_29 (-1) h0_f12 h0_f13 h0_f14 h0_15 h0_16 h0_f17 h0_18 h0_19 h0_20 h0_21 h0_22 h0_23 h0_24 h0_25 h0_f26 h0_f27 h0_f28 h0_f29 h0_f30 h0_f31 h0_32 h0_33 h0_f34 h0_35 h0_36 h0_37 h0_38 h0_39 h0_40 h0_f41 h0_f42 h0_f43 h0_f44 h0_45 h0_46 h0_47 h0_48 h0_49 h0_50 h0_f51 h0_52 h0_f53)) hP hD hS hA [0] (by decide +kernel) rfl
      have hKc := hK.sub (tys' := []) [] rfl
      have hrv := va_recv hKc hPc (ci := 12) (q0 := 0) rfl rfl
      refine va_calli (va_runV (As := []) (rest := []) ⟨hx, hb, hml, hown, hts⟩ (c_X12_fails l dC dI H.size h0 h0_f0 h0_1 h0_2 h0_3 h0_4 h0_5 h0_f6 h0_f7 h0_f8 h0_f9 x_29 h0_f12 h0_f13 h0_f14 h0_15 h0_16 h0_f17 h0_18 h0_19 h0_20 h0_21 h0_22 h0_23 h0_24 h0_25 h0_f26 h0_f27 h0_f28 h0_f29 h0_f30 h0_f31 h0_32 h0_33 h0_f34 h0_35 h0_36 h0_37 h0_38 h0_39 h0_40 h0_f41 h0_f42 h0_f43 h0_f44 h0_45 h0_46 h0_47 h0_48 h0_49 h0_50 h0_f51 h0_52 h0_f53 g_h0_f6 g_h0_f7 g_h0_f8 (RG_w h_37 (by decide +kernel)) (RG_w h_36 (by decide +kernel)) g_h0_f17 g_h0_f26 g_h0_f27 g_h0_f28 g_h0_f29 g_h0_f30 g_h0_f31 g_h0_f34 g_h0_f41 g_h0_f51 g_h0_f53) (cwV 0 hts gf_c_X12_number_1_c_X12_fails rfl rfl rfl mdV_X12_fails ⟨Nat.le_of_ble_eq_true rfl, Nat.le_of_ble_eq_true rfl⟩) ⟨fun a U g mk q => by obtain ⟨q0, q1, qP, qK, qD⟩ := q; exact ⟨q0, q1, qP, va_K.moved (u := U) (U := U.calling g mk a) (Vm.Alike.refl U.vm) qK, qD⟩, hrv, fun U hU hW => ⟨rfl, by rw [hU], by rw [hU]; exact hPc, va_K.moved hW.alike hKc, hDc.weaken (fun _ _ _ _ => trivial)⟩⟩ rfl rfl hl.1 rfl (lv_room (Nat.le_of_ble_eq_true rfl)) dX12_number_13 ⟨Nat.le_of_ble_eq_true rfl, Nat.le_of_ble_eq_true rfl⟩) hS (fun q _ h => hFc q h) hFc (fun r_62 u t H1 locs ht hvm hw hB hz1 hk1 hS => ?_)
      obtain ⟨hP1, hK1, hD1⟩ := hB
      rw [ht] at hP1
      obtain ⟨hP, hD⟩ := cl_put (w1 := (wd_c_X12_fails h0 h0_f0 h0_1 h0_2 h0_3 h0_4 h0_5 h0_f6 h0_f7 h0_f8 h0_f9 x_29 x_29 h0_f12 h0_f13 h0_f14 h0_15 h0_16 h0_f17 h0_18 h0_19 h0_20 h0_21 h0_22 h0_23 h0_24 h0_25 h0_f26 h0_f27 h0_f28 h0_f29 h0_f30 h0_f31 h0_32 h0_33 h0_f34 h0_35 h0_36 h0_37 h0_38 h0_39 h0_40 h0_f41 h0_f42 h0_f43 h0_f44 h0_45 h0_46 h0_47 h0_48 h0_49 h0_50 h0_f51 h0_52 h0_f53)) (nw := (wd_c_X12_number_1 h0 h0_f0 h0_1 h0_2 h0_3 h0_4 h0_5 h0_f6 h0_f7 h0_f8 h0_f9 x_29 x_29 h0_f12 h0_f13 h0_f14 h0_15 h0_16 h0_f17 h0_18 h0_19 h0_20 h0_21 h0_22 h0_23 h0_24 h0_25 h0_f26 h0_f27 h0_f28 h0_f29 h0_f30 h0_f31 h0_32 h0_33 h0_f34 h0_35 h0_36 h0_37 h0_38 h0_39 h0_40 h0_f41 h0_f42 h0_f43 h0_f44 h0_45 h0_46 h0_47 h0_48 h0_49 h0_50 h0_f51 h0_52 h0_f53 h0_5 h0_5k tN h0_5c)) hP hD [0] [2, 1] 2 rfl hqc (by decide +kernel) rfl hk1 hFc hP1 hD1
      generalize H1 = H at hP hS ⊢
      as_aux_lemma =>
      have h_63 := hw
      rw [h_63]
      refine lv_pop hx hb dX12_number_16 rfl ?_
      refine lv_iconst (v := 0) hx hb dX12_number_17 kc_iconst_0 ?_
      have hK9 := hK.sub (tys' := []) [] rfl
      exact W.iret (v := 0) hx hb hr (fun t ht hW => ⟨⟨0, (x_29, x_29), rfl, (Or.inl ⟨rfl, (RG_w h_36 (by decide +kernel)), (RG_w h_36 (by decide +kernel)), (by have := h_38; show h0_f10.toInt + 0 ≤ x_29.toInt; omega)⟩), by rw [ht]; exact hP, va_K.moved hW.alike hK9, hD⟩, hS.F ht⟩) hS.2.2 dX12_number_18
    · rw [h_56]
      have g_64 := h_60 h_56
      have g_65 : RG r_28 48 57 := RG_dig h_40.1 g_64 trivial h_35 (by decide +kernel)
      refine lv_if_ne (tgt := 19) hx hb dX12_number_9 rfl (fun c_66 => ?_) (fun c_66 => absurd c_66 (by decide +kernel))
      refine lv_iload_n hx hb dX12_number_19 rfl (lv_at hl 0 rfl) ?_
      refine lv_bipush (v := 48) hx hb dX12_number_20 kc_bipush_48 ?_
      refine lv_isub hx hb dX12_number_22 ?_
      refine lv_topi (fun x_67 ex_67 => ?_)
      as_aux_lemma =>
      have g_68 : RG x_67 0 9 := RG_sub ex_67 g_65 (RG_k 48 48 rfl) (by decide +kernel)
      refine lv_istore (lv' := [(4, .int x_67), (3, .int r_28), (0, .ref h0), (1, .int 1), (2, .int 4)]) hx hb dX12_number_23 hl (Nat.le_of_ble_eq_true rfl) rfl (fun ls hl => ?_)
      refine lv_aload_n hx hb dX12_number_25 rfl (lv_at hl 2 rfl) ?_
      refine lv_dup hx hb dX12_number_26 rfl ?_
      refine va_get (D := (dC, dI)) (ci := 12) (v := .int x_29) (C := RX12) (T := TX12) (N := 54) hx hb hts iw_c_X12_number_1_X12 hown hK hP 0 rfl rfl 10 (by decide +kernel) (hts (.fieldLink RX12 134 "BuoyVoteModel" "at" "I") (List.mem_of_getElem? (i := 6) rfl)) (fun _ h9 => h9) rfl dX12_number_27 ?_
      refine lv_iconst (v := 1) hx hb dX12_number_30 kc_iconst_1 ?_
      refine lv_iadd hx hb dX12_number_31 ?_
      refine lv_topi (fun x_69 ex_69 => ?_)
      have g_70 : RG x_69 1 240 := RG_add ex_69 h_36 (RG_k 1 1 rfl) (by decide +kernel)
      have q_71 : x_69.toInt = x_29.toInt + 1 := eq_add ex_69 h_36 (q := 1) rfl (by decide +kernel)
      refine va_put (D := (dC, dI)) (ci := 12) (v := .int x_69) (ty := .int) (C := RX12) (T := TX12) (N := 54) hx hb hts iw_c_X12_number_1_X12 tyX12 tyX12_ok nmX12 hown hK hP hD hS 0 rfl rfl 10 (by decide +kernel) (hts (.fieldLink RX12 134 "BuoyVoteModel" "at" "I") (List.mem_of_getElem? (i := 6) rfl)) (fun _ h9 => h9) rfl (by decide +kernel) rfl rfl (Nat.le_of_ble_eq_true rfl) dX12_number_32 (fun H locs hP hD hS => ?_)
      have hP : va_P (dC, dI) vwCl (wd_c_X12_number_1 h0 h0_f0 h0_1 h0_2 h0_3 h0_4 h0_5 h0_f6 h0_f7 h0_f8 h0_f9 x_69 (-1) h0_f12 h0_f13 h0_f14 h0_15 h0_16 h0_f17 h0_18 h0_19 h0_20 h0_21 h0_22 h0_23 h0_24 h0_25 h0_f26 h0_f27 h0_f28 h0_f29 h0_f30 h0_f31 h0_32 h0_33 h0_f34 h0_35 h0_36 h0_37 h0_38 h0_39 h0_40 h0_f41 h0_f42 h0_f43 h0_f44 h0_45 h0_46 h0_47 h0_48 h0_49 h0_50 h0_f51 h0_52 h0_f53 h0_5 h0_5k tN h0_5c) H := hP
      have hD : va_D A (wd_c_X12_number_1 h0 h0_f0 h0_1 h0_2 h0_3 h0_4 h0_5 h0_f6 h0_f7 h0_f8 h0_f9 x_69 (-1) h0_f12 h0_f13 h0_f14 h0_15 h0_16 h0_f17 h0_18 h0_19 h0_20 h0_21 h0_22 h0_23 h0_24 h0_25 h0_f26 h0_f27 h0_f28 h0_f29 h0_f30 h0_f31 h0_32 h0_33 h0_f34 h0_35 h0_36 h0_37 h0_38 h0_39 h0_40 h0_f41 h0_f42 h0_f43 h0_f44 h0_45 h0_46 h0_47 h0_48 h0_49 h0_50 h0_f51 h0_52 h0_f53 h0_5 h0_5k tN h0_5c) := hD
      refine lv_aload_n hx hb dX12_number_35 rfl (lv_at hl 2 rfl) ?_
      as_aux_lemma =>
      obtain ⟨hPc, hDc, hFc, hqc⟩ := cl_cut (wc := (wd_c_X12_isDigit h0 h0_f0 h0_1 h0_2 h0_3 h0_4 h0_5 h0_f6 h0_f7 h0_f8 h0_f9 x_69 (-1) h0_f12 h0_f13 h0_f14 h0_15 h0_16 h0_f17 h0_18 h0_19 h0_20 h0_21 h0_22 h0_23 h0_24 h0_25 h0_f26 h0_f27 h0_f28 h0_f29 h0_f30 h0_f31 h0_32 h0_33 h0_f34 h0_35 h0_36 h0_37 h0_38 h0_39 h0_40 h0_f41 h0_f42 h0_f43 h0_f44 h0_45 h0_46 h0_47 h0_48 h0_49 h0_50 h0_f51 h0_52 h0_f53 h0_5 h0_5k tN h0_5c)) hP hD hS hA [0, 1] (by decide +kernel) rfl
      have hKc := hK.sub (tys' := [(h0_5k, .byte)]) [0] rfl
      have hrv := va_recv hKc hPc (ci := 12) (q0 := 0) rfl rfl
      refine va_calli (va_runV (As := []) (rest := []) ⟨hx, hb, hml, hown, hts⟩ (c_X12_isDigit l dC dI H.size h0 h0_f0 h0_1 h0_2 h0_3 h0_4 h0_5 h0_f6 h0_f7 h0_f8 h0_f9 x_69 h0_f12 h0_f13 h0_f14 h0_15 h0_16 h0_f17 h0_18 h0_19 h0_20 h0_21 h0_22 h0_23 h0_24 h0_25 h0_f26 h0_f27 h0_f28 h0_f29 h0_f30 h0_f31 h0_32 h0_33 h0_f34 h0_35 h0_36 h0_37 h0_38 h0_39 h0_40 h0_f41 h0_f42 h0_f43 h0_f44 h0_45 h0_46 h0_47 h0_48 h0_49 h0_50 h0_f51 h0_52 h0_f53 h0_5k h0_5c tN g_h0_f6 g_h0_f7 g_h0_f8 (RG_w h_37 (by decide +kernel)) (RG_w g_70 (by decide +kernel)) g_h0_f17 g_h0_f26 g_h0_f27 g_h0_f28 g_h0_f29 g_h0_f30 g_h0_f31 g_h0_f34 g_h0_f41 g_h0_f51 g_h0_f53 htN) (cwV 0 hts gf_c_X12_number_1_c_X12_isDigit rfl rfl rfl mdV_X12_isDigit ⟨Nat.le_of_ble_eq_true rfl, Nat.le_of_ble_eq_true rfl⟩) ⟨fun a U g mk q => by obtain ⟨q0, q1, qP, qK, qD⟩ := q; exact ⟨q0, q1, qP, va_K.moved (u := U) (U := U.calling g mk a) (Vm.Alike.refl U.vm) qK, qD⟩, hrv, fun U hU hW => ⟨rfl, by rw [hU], by rw [hU]; exact hPc, va_K.moved hW.alike hKc, hDc.weaken (fun _ _ _ _ => trivial)⟩⟩ rfl rfl hl.1 rfl (lv_room (Nat.le_of_ble_eq_true rfl)) dX12_number_36 ⟨Nat.le_of_ble_eq_true rfl, Nat.le_of_ble_eq_true rfl⟩) hS (fun q _ h => hFc q h) hFc (fun r_72 u t H1 locs ht hvm hw hB hz1 hk1 hS => ?_)
      obtain ⟨hP1, hK1, hD1⟩ := hB
      rw [ht] at hP1
      obtain ⟨hP, hD⟩ := cl_put (w1 := (wd_c_X12_isDigit h0 h0_f0 h0_1 h0_2 h0_3 h0_4 h0_5 h0_f6 h0_f7 h0_f8 h0_f9 x_69 (-1) h0_f12 h0_f13 h0_f14 h0_15 h0_16 h0_f17 h0_18 h0_19 h0_20 h0_21 h0_22 h0_23 h0_24 h0_25 h0_f26 h0_f27 h0_f28 h0_f29 h0_f30 h0_f31 h0_32 h0_33 h0_f34 h0_35 h0_36 h0_37 h0_38 h0_39 h0_40 h0_f41 h0_f42 h0_f43 h0_f44 h0_45 h0_46 h0_47 h0_48 h0_49 h0_50 h0_f51 h0_52 h0_f53 h0_5 h0_5k tN h0_5c)) (nw := (wd_c_X12_number_1 h0 h0_f0 h0_1 h0_2 h0_3 h0_4 h0_5 h0_f6 h0_f7 h0_f8 h0_f9 x_69 (-1) h0_f12 h0_f13 h0_f14 h0_15 h0_16 h0_f17 h0_18 h0_19 h0_20 h0_21 h0_22 h0_23 h0_24 h0_25 h0_f26 h0_f27 h0_f28 h0_f29 h0_f30 h0_f31 h0_32 h0_33 h0_f34 h0_35 h0_36 h0_37 h0_38 h0_39 h0_40 h0_f41 h0_f42 h0_f43 h0_f44 h0_45 h0_46 h0_47 h0_48 h0_49 h0_50 h0_f51 h0_52 h0_f53 h0_5 h0_5k tN h0_5c)) hP hD [0, 1] [2, 3] 2 rfl hqc (by decide +kernel) rfl hk1 hFc hP1 hD1
      generalize H1 = H at hP hS ⊢
      as_aux_lemma =>
      rcases hw with ⟨h_73, h_74⟩ | ⟨h_75, h_76, h_77, h_78, h_79⟩
      · rw [h_73]
        refine lv_if_eq (tgt := 67) hx hb dX12_number_39 rfl (fun c_80 => ?_) (fun c_80 => absurd c_80 (by decide +kernel))
        exact hU _ _ _ (J67 x_67 x_69 g_h0_f10 g_h0_f17 g_h0_f26 g_h0_f27 g_h0_f28 g_h0_f29 g_h0_f30 g_h0_f31 g_h0_f34 g_h0_f41 g_h0_f51 g_h0_f53 g_h0_f6 g_h0_f7 g_h0_f8 h_37 g_70 (RG_w g_68 (by decide +kernel)) (by have := h_38; have := q_71; omega) _ _ _ hP hD hS (lv_sub hl [0, 2, 3, 4] rfl))
      · rw [h_75]
        have g_81 : RG x_69 1 239 := RG_eq1 g_70 h_76 rfl (by decide +kernel)
        have g_82 : RG x_29 0 238 := RG_addb ex_69 (q := 1) rfl h_36 g_81 (by decide +kernel)
        have g_83 := h_79 h_75
        refine lv_if_eq (tgt := 67) hx hb dX12_number_39 rfl (fun c_84 => absurd c_84 (by decide +kernel)) (fun c_84 => ?_)
        refine lv_bipush (v := 10) hx hb dX12_number_42 kc_bipush_10 ?_
        refine lv_iload hx hb dX12_number_44 (lv_at hl 0 rfl) ?_
        refine lv_imul hx hb dX12_number_46 ?_
        refine lv_topi (fun x_85 ex_85 => ?_)
        have g_86 : RG x_85 0 90 := RG_mulc (RG_com ex_85) (q := 10) rfl g_68 (by decide +kernel)
        refine lv_aload_n hx hb dX12_number_47 rfl (lv_at hl 2 rfl) ?_
        as_aux_lemma =>
        obtain ⟨hPc, hDc, hFc, hqc⟩ := cl_cut (wc := (wd_c_X12_here h0 h0_f0 h0_1 h0_2 h0_3 h0_4 h0_5 h0_f6 h0_f7 h0_f8 h0_f9 x_69 (-1) h0_f12 h0_f13 h0_f14 h0_15 h0_16 h0_f17 h0_18 h0_19 h0_20 h0_21 h0_22 h0_23 h0_24 h0_25 h0_f26 h0_f27 h0_f28 h0_f29 h0_f30 h0_f31 h0_32 h0_33 h0_f34 h0_35 h0_36 h0_37 h0_38 h0_39 h0_40 h0_f41 h0_f42 h0_f43 h0_f44 h0_45 h0_46 h0_47 h0_48 h0_49 h0_50 h0_f51 h0_52 h0_f53 h0_5 h0_5k tN h0_5c)) hP hD hS hA [0, 1] (by decide +kernel) rfl
        have hKc := hK.sub (tys' := [(h0_5k, .byte)]) [0] rfl
        have hrv := va_recv hKc hPc (ci := 12) (q0 := 0) rfl rfl
        refine va_calli (va_runV (As := []) (rest := [.int x_85]) ⟨hx, hb, hml, hown, hts⟩ (c_X12_here l dC dI H.size h0 h0_f0 h0_1 h0_2 h0_3 h0_4 h0_5 h0_f6 h0_f7 h0_f8 h0_f9 x_69 h0_f12 h0_f13 h0_f14 h0_15 h0_16 h0_f17 h0_18 h0_19 h0_20 h0_21 h0_22 h0_23 h0_24 h0_25 h0_f26 h0_f27 h0_f28 h0_f29 h0_f30 h0_f31 h0_32 h0_33 h0_f34 h0_35 h0_36 h0_37 h0_38 h0_39 h0_40 h0_f41 h0_f42 h0_f43 h0_f44 h0_45 h0_46 h0_47 h0_48 h0_49 h0_50 h0_f51 h0_52 h0_f53 h0_5k h0_5c tN g_h0_f6 g_h0_f7 g_h0_f8 (RG_w h_37 (by decide +kernel)) (RG_w g_81 (by decide +kernel)) g_h0_f17 g_h0_f26 g_h0_f27 g_h0_f28 g_h0_f29 g_h0_f30 g_h0_f31 g_h0_f34 g_h0_f41 g_h0_f51 g_h0_f53 htN) (cwV 0 hts gf_c_X12_number_1_c_X12_here rfl rfl rfl mdV_X12_here ⟨Nat.le_of_ble_eq_true rfl, Nat.le_of_ble_eq_true rfl⟩) ⟨fun a U g mk q => by obtain ⟨q0, q1, qP, qK, qD⟩ := q; exact ⟨q0, q1, qP, va_K.moved (u := U) (U := U.calling g mk a) (Vm.Alike.refl U.vm) qK, qD⟩, hrv, fun U hU hW => ⟨rfl, by rw [hU], by rw [hU]; exact hPc, va_K.moved hW.alike hKc, hDc.weaken (fun _ _ _ _ => trivial)⟩⟩ rfl rfl hl.1 rfl (lv_room (Nat.le_of_ble_eq_true rfl)) dX12_number_48 ⟨Nat.le_of_ble_eq_true rfl, Nat.le_of_ble_eq_true rfl⟩) hS (fun q _ h => hFc q h) hFc (fun r_87 u t H1 locs ht hvm hw hB hz1 hk1 hS => ?_)
        obtain ⟨hP1, hK1, hD1⟩ := hB
        rw [ht] at hP1
        obtain ⟨hP, hD⟩ := cl_put (w1 := (wd_c_X12_here h0 h0_f0 h0_1 h0_2 h0_3 h0_4 h0_5 h0_f6 h0_f7 h0_f8 h0_f9 x_69 (-1) h0_f12 h0_f13 h0_f14 h0_15 h0_16 h0_f17 h0_18 h0_19 h0_20 h0_21 h0_22 h0_23 h0_24 h0_25 h0_f26 h0_f27 h0_f28 h0_f29 h0_f30 h0_f31 h0_32 h0_33 h0_f34 h0_35 h0_36 h0_37 h0_38 h0_39 h0_40 h0_f41 h0_f42 h0_f43 h0_f44 h0_45 h0_46 h0_47 h0_48 h0_49 h0_50 h0_f51 h0_52 h0_f53 h0_5 h0_5k tN h0_5c)) (nw := (wd_c_X12_number_1 h0 h0_f0 h0_1 h0_2 h0_3 h0_4 h0_5 h0_f6 h0_f7 h0_f8 h0_f9 x_69 (-1) h0_f12 h0_f13 h0_f14 h0_15 h0_16 h0_f17 h0_18 h0_19 h0_20 h0_21 h0_22 h0_23 h0_24 h0_25 h0_f26 h0_f27 h0_f28 h0_f29 h0_f30 h0_f31 h0_32 h0_33 h0_f34 h0_35 h0_36 h0_37 h0_38 h0_39 h0_40 h0_f41 h0_f42 h0_f43 h0_f44 h0_45 h0_46 h0_47 h0_48 h0_49 h0_50 h0_f51 h0_52 h0_f53 h0_5 h0_5k tN h0_5c)) hP hD [0, 1] [2, 3] 2 rfl hqc (by decide +kernel) rfl hk1 hFc hP1 hD1
        generalize H1 = H at hP hS ⊢
        as_aux_lemma =>
        rcases hw with ⟨h_88, h_89, h_90⟩ | ⟨h_91, h_92, h_93, h_94⟩
        · rw [h_88]
          exfalso
          have := h_89
          have := h_78
          omega
        · have g_95 : RG r_87 48 57 := RG_dig h_94 g_83 trivial h_91 (by decide +kernel)
          refine lv_iadd hx hb dX12_number_51 ?_
          refine lv_topi (fun x_96 ex_96 => ?_)
          have g_97 : RG x_96 48 147 := RG_add ex_96 g_86 g_95 (by decide +kernel)
          refine lv_bipush (v := 48) hx hb dX12_number_52 kc_bipush_48 ?_
          refine lv_isub hx hb dX12_number_54 ?_
          refine lv_topi (fun x_98 ex_98 => ?_)
          have g_99 : RG x_98 0 99 := RG_sub ex_98 g_97 (RG_k 48 48 rfl) (by decide +kernel)
          refine lv_istore (lv' := [(4, .int x_98), (3, .int r_28), (0, .ref h0), (1, .int 1), (2, .int 4)]) hx hb dX12_number_55 hl (Nat.le_of_ble_eq_true rfl) rfl (fun ls hl => ?_)
          as_aux_lemma =>
          refine lv_aload_n hx hb dX12_number_57 rfl (lv_at hl 2 rfl) ?_
          refine lv_dup hx hb dX12_number_58 rfl ?_
          refine va_get (D := (dC, dI)) (ci := 12) (v := .int x_69) (C := RX12) (T := TX12) (N := 54) hx hb hts iw_c_X12_number_1_X12 hown hK hP 0 rfl rfl 10 (by decide +kernel) (hts (.fieldLink RX12 134 "BuoyVoteModel" "at" "I") (List.mem_of_getElem? (i := 6) rfl)) (fun _ h9 => h9) rfl dX12_number_59 ?_
          refine lv_iconst (v := 1) hx hb dX12_number_62 kc_iconst_1 ?_
          refine lv_iadd hx hb dX12_number_63 ?_
          refine lv_topi (fun x_100 ex_100 => ?_)
          have g_101 : RG x_100 2 240 := RG_add ex_100 g_81 (RG_k 1 1 rfl) (by decide +kernel)
          have q_102 : x_100.toInt = x_69.toInt + 1 := eq_add ex_100 g_81 (q := 1) rfl (by decide +kernel)
          refine va_put (D := (dC, dI)) (ci := 12) (v := .int x_100) (ty := .int) (C := RX12) (T := TX12) (N := 54) hx hb hts iw_c_X12_number_1_X12 tyX12 tyX12_ok nmX12 hown hK hP hD hS 0 rfl rfl 10 (by decide +kernel) (hts (.fieldLink RX12 134 "BuoyVoteModel" "at" "I") (List.mem_of_getElem? (i := 6) rfl)) (fun _ h9 => h9) rfl (by decide +kernel) rfl rfl (Nat.le_of_ble_eq_true rfl) dX12_number_64 (fun H locs hP hD hS => ?_)
          have hP : va_P (dC, dI) vwCl (wd_c_X12_number_1 h0 h0_f0 h0_1 h0_2 h0_3 h0_4 h0_5 h0_f6 h0_f7 h0_f8 h0_f9 x_100 (-1) h0_f12 h0_f13 h0_f14 h0_15 h0_16 h0_f17 h0_18 h0_19 h0_20 h0_21 h0_22 h0_23 h0_24 h0_25 h0_f26 h0_f27 h0_f28 h0_f29 h0_f30 h0_f31 h0_32 h0_33 h0_f34 h0_35 h0_36 h0_37 h0_38 h0_39 h0_40 h0_f41 h0_f42 h0_f43 h0_f44 h0_45 h0_46 h0_47 h0_48 h0_49 h0_50 h0_f51 h0_52 h0_f53 h0_5 h0_5k tN h0_5c) H := hP
          have hD : va_D A (wd_c_X12_number_1 h0 h0_f0 h0_1 h0_2 h0_3 h0_4 h0_5 h0_f6 h0_f7 h0_f8 h0_f9 x_100 (-1) h0_f12 h0_f13 h0_f14 h0_15 h0_16 h0_f17 h0_18 h0_19 h0_20 h0_21 h0_22 h0_23 h0_24 h0_25 h0_f26 h0_f27 h0_f28 h0_f29 h0_f30 h0_f31 h0_32 h0_33 h0_f34 h0_35 h0_36 h0_37 h0_38 h0_39 h0_40 h0_f41 h0_f42 h0_f43 h0_f44 h0_45 h0_46 h0_47 h0_48 h0_49 h0_50 h0_f51 h0_52 h0_f53 h0_5 h0_5k tN h0_5c) := hD
          exact hU _ _ _ (J67 x_98 x_100 g_h0_f10 g_h0_f17 g_h0_f26 g_h0_f27 g_h0_f28 g_h0_f29 g_h0_f30 g_h0_f31 g_h0_f34 g_h0_f41 g_h0_f51 g_h0_f53 g_h0_f6 g_h0_f7 g_h0_f8 h_37 (RG_w g_101 (by decide +kernel)) g_99 (by have := h_38; have := q_71; have := q_102; omega) _ _ _ hP hD hS (lv_sub hl [0, 2, 3, 4] rfl))
noncomputable def wf_c_X12_leastOf_3 : List Cond := .code yX12_leastOf cX12_leastOf 2 (some .int) :: ([])
set_option maxHeartbeats 4000000 in
set_option maxRecDepth 100000 in
theorem c_X12_leastOf_3 (l : Launch) (dC : Nat → ClassId) (dI : Nat → Nat → Nat) (sz : Nat) (p0 : Int32) (p1 : Int32) (g_p0 : RG p0 99 99) (g_p1 : RG p1 0 3) : Met l yX12_leastOf wf_c_X12_leastOf_3 ({ frames := 0, cells := 0, slots := 0, locals := 0 }) (va_Pc [.int p0, .int p1] (fun U => U.heap.size = sz ∧ va_P (dC, dI) vwCl [] U.heap ∧ va_K (dC, dI) vwCl [] U ∧ va_D (fun _ => True) [])) (va_Qi (fun (r : Int32) (u : Unit) => (r = 0) ∨ (r = 1 ∧ RG p1 2 2)) (fun (u : Unit) t => va_P (dC, dI) vwCl [] t.heap ∧ va_K (dC, dI) vwCl [] t ∧ va_D (va_A [] sz) []) (va_A [] sz)) 0 0 (va_A [] sz) := by
  refine Met.ofW (cc := cX12_leastOf) (maxL := 2) (ret := (some .int)) (by decide +kernel) rfl ?_
  intro p e s m args below meth c s₁ B hml hv
  obtain ⟨rfl, hsz, hP, hK, hD0⟩ := hv
  have hx := B.exec
  have hb := B.bytes
  have hr := B.returns
  have hts := atoms_spec (ws := wf_c_X12_leastOf_3) B.pre
  have hown : s.vm.findClass RX12 = some m.cls := findClass_of_methodNamed B.named
  have hlocks := B.notSynchronized
  subst hsz
  have hD := hD0.self (sz := s.heap.size)
  generalize hAe : va_A [] s.heap.size = A at hD ⊢
  have hA : ∀ q : Nat, s.heap.size ≤ q → A q := fun q h => by rw [← hAe]; exact Or.inr h
  have hP : va_P (dC, dI) vwCl [] s.heap := hP
  have hl := lv_entry ([.int p0, .int p1]) (n := 2) (Nat.le_of_ble_eq_true rfl)
  rw [lg_entry_eq]
  generalize (lg_sl ([.int p0, .int p1]) ++ List.replicate (2 - (lg_sl ([.int p0, .int p1])).length) Slot.unset).toArray = ls at hl ⊢
  have hl : lv_has ls 2 [(0, .int p0), (1, .int p1)] := hl
  obtain ⟨H, hHe⟩ : ∃ H : Heap, s.heap = H := ⟨_, rfl⟩
  have hS : va_S A s.heap H [] := by rw [hHe]; exact va_S.rf
  have hP : va_P (dC, dI) vwCl [] H := by rw [← hHe]; exact hP
  rw [hHe]
  refine wj (fun G hG hU => ?_)
  as_aux_lemma =>
  have J22 : ∀ (g_p0 : RG p0 99 99) (g_p1 : RG p1 2 2) (H : Heap) (locs : List Loc) (ls : Array Slot) (hP : va_P (dC, dI) vwCl [] H) (hD : va_D A []) (hS : va_S A s.heap H locs) (hl : lv_has ls 2 []), G H locs (F0 m 22 ls []) := by
    as_aux_lemma =>
    intro g_p0 g_p1 H locs ls hP hD hS hl
    refine hG _ _ _ ?_
    refine lv_iconst (v := 1) hx hb dX12_leastOf_22 kc_iconst_1 ?_
    refine lv_goto (tgt := 27) hx hb dX12_leastOf_23 rfl ?_
    have hK9 := hK.sub (tys' := []) [] rfl
    exact W.iret (v := 1) hx hb hr (fun t ht hW => ⟨⟨1, (), rfl, (Or.inr ⟨rfl, g_p1⟩), by rw [ht]; exact hP, va_K.moved hW.alike hK9, hD⟩, hS.F ht⟩) hS.2.2 dX12_leastOf_27
  have J11 : ∀ (g_p0 : RG p0 99 99) (g_p1 : RG p1 0 3) (H : Heap) (locs : List Loc) (ls : Array Slot) (hP : va_P (dC, dI) vwCl [] H) (hD : va_D A []) (hS : va_S A s.heap H locs) (hl : lv_has ls 2 [(0, .int p0), (1, .int p1)]), G H locs (F0 m 11 ls []) := by
    as_aux_lemma =>
    intro g_p0 g_p1 H locs ls hP hD hS hl
    refine hG _ _ _ ?_
    refine lv_iload_n hx hb dX12_leastOf_11 rfl (lv_at hl 0 rfl) ?_
    refine lv_bipush (v := 99) hx hb dX12_leastOf_12 kc_bipush_99 ?_
    refine lv_icmp_ne (tgt := 26) hx hb dX12_leastOf_14 rfl (fun c_1 => ?_) (fun c_1 => ?_)
    · exact RG_dead (RG_ne1 g_p0 (q := 99) rfl c_1 (a' := 100) (b' := 99) (by decide +kernel)) (by decide +kernel)
    · refine lv_iload_n hx hb dX12_leastOf_17 rfl (lv_at hl 1 rfl) ?_
      refine lv_iconst (v := 2) hx hb dX12_leastOf_18 kc_iconst_2 ?_
      refine lv_icmp_ne (tgt := 26) hx hb dX12_leastOf_19 rfl (fun c_2 => ?_) (fun c_2 => ?_)
      · refine lv_iconst (v := 0) hx hb dX12_leastOf_26 kc_iconst_0 ?_
        have hK9 := hK.sub (tys' := []) [] rfl
        exact W.iret (v := 0) hx hb hr (fun t ht hW => ⟨⟨0, (), rfl, (Or.inl rfl), by rw [ht]; exact hP, va_K.moved hW.alike hK9, hD⟩, hS.F ht⟩) hS.2.2 dX12_leastOf_27
      · have g_3 : RG p1 2 2 := RG_eq1 g_p1 (RG_k 2 2 rfl) c_2 (by decide +kernel)
        exact hU _ _ _ (J22 g_p0 g_3 _ _ _ hP hD hS (lv_sub hl [] rfl))
  refine hG _ _ _ ?_
  as_aux_lemma =>
  refine lv_iload_n hx hb dX12_leastOf_0 rfl (lv_at hl 0 rfl) ?_
  refine lv_bipush (v := 115) hx hb dX12_leastOf_1 kc_bipush_115 ?_
  refine lv_icmp_ne (tgt := 11) hx hb dX12_leastOf_3 rfl (fun c_4 => ?_) (fun c_4 => ?_)
  · exact hU _ _ _ (J11 g_p0 g_p1 _ _ _ hP hD hS (lv_sub hl [0, 1] rfl))
  · exact RG_dead (RG_eq1 g_p0 (RG_k 115 115 rfl) c_4 (a' := 115) (b' := 99) (by decide +kernel)) (by decide +kernel)
noncomputable def wf_c_X12_mostOf_3 : List Cond := .code yX12_mostOf cX12_mostOf 2 (some .int) :: ([])
set_option maxHeartbeats 4000000 in
set_option maxRecDepth 100000 in
theorem c_X12_mostOf_3 (l : Launch) (dC : Nat → ClassId) (dI : Nat → Nat → Nat) (sz : Nat) (p0 : Int32) (p1 : Int32) (g_p0 : RG p0 99 99) (g_p1 : RG p1 0 3) : Met l yX12_mostOf wf_c_X12_mostOf_3 ({ frames := 0, cells := 0, slots := 0, locals := 0 }) (va_Pc [.int p0, .int p1] (fun U => U.heap.size = sz ∧ va_P (dC, dI) vwCl [] U.heap ∧ va_K (dC, dI) vwCl [] U ∧ va_D (fun _ => True) [])) (va_Qi (fun (r : Int32) (u : Unit) => (r = 9) ∨ (r = 4 ∧ RG p1 2 2)) (fun (u : Unit) t => va_P (dC, dI) vwCl [] t.heap ∧ va_K (dC, dI) vwCl [] t ∧ va_D (va_A [] sz) []) (va_A [] sz)) 0 0 (va_A [] sz) := by
  refine Met.ofW (cc := cX12_mostOf) (maxL := 2) (ret := (some .int)) (by decide +kernel) rfl ?_
  intro p e s m args below meth c s₁ B hml hv
  obtain ⟨rfl, hsz, hP, hK, hD0⟩ := hv
  have hx := B.exec
  have hb := B.bytes
  have hr := B.returns
  have hts := atoms_spec (ws := wf_c_X12_mostOf_3) B.pre
  have hown : s.vm.findClass RX12 = some m.cls := findClass_of_methodNamed B.named
  have hlocks := B.notSynchronized
  subst hsz
  have hD := hD0.self (sz := s.heap.size)
  generalize hAe : va_A [] s.heap.size = A at hD ⊢
  have hA : ∀ q : Nat, s.heap.size ≤ q → A q := fun q h => by rw [← hAe]; exact Or.inr h
  have hP : va_P (dC, dI) vwCl [] s.heap := hP
  have hl := lv_entry ([.int p0, .int p1]) (n := 2) (Nat.le_of_ble_eq_true rfl)
  rw [lg_entry_eq]
  generalize (lg_sl ([.int p0, .int p1]) ++ List.replicate (2 - (lg_sl ([.int p0, .int p1])).length) Slot.unset).toArray = ls at hl ⊢
  have hl : lv_has ls 2 [(0, .int p0), (1, .int p1)] := hl
  obtain ⟨H, hHe⟩ : ∃ H : Heap, s.heap = H := ⟨_, rfl⟩
  have hS : va_S A s.heap H [] := by rw [hHe]; exact va_S.rf
  have hP : va_P (dC, dI) vwCl [] H := by rw [← hHe]; exact hP
  rw [hHe]
  refine lv_iload_n hx hb dX12_mostOf_0 rfl (lv_at hl 0 rfl) ?_
  as_aux_lemma =>
  refine lv_bipush (v := 115) hx hb dX12_mostOf_1 kc_bipush_115 ?_
  refine lv_icmp_ne (tgt := 37) hx hb dX12_mostOf_3 rfl (fun c_1 => ?_) (fun c_1 => ?_)
  · refine lv_iload_n hx hb dX12_mostOf_37 rfl (lv_at hl 0 rfl) ?_
    refine lv_bipush (v := 99) hx hb dX12_mostOf_38 kc_bipush_99 ?_
    refine lv_icmp_ne (tgt := 55) hx hb dX12_mostOf_40 rfl (fun c_2 => ?_) (fun c_2 => ?_)
    · exact RG_dead (RG_ne1 g_p0 (q := 99) rfl c_2 (a' := 100) (b' := 99) (by decide +kernel)) (by decide +kernel)
    · refine lv_iload_n hx hb dX12_mostOf_43 rfl (lv_at hl 1 rfl) ?_
      refine lv_iconst (v := 2) hx hb dX12_mostOf_44 kc_iconst_2 ?_
      refine lv_icmp_ne (tgt := 52) hx hb dX12_mostOf_45 rfl (fun c_3 => ?_) (fun c_3 => ?_)
      · refine lv_bipush (v := 9) hx hb dX12_mostOf_52 kc_bipush_9 ?_
        have hK9 := hK.sub (tys' := []) [] rfl
        exact W.iret (v := 9) hx hb hr (fun t ht hW => ⟨⟨9, (), rfl, (Or.inl rfl), by rw [ht]; exact hP, va_K.moved hW.alike hK9, hD⟩, hS.F ht⟩) hS.2.2 dX12_mostOf_54
      · have g_4 : RG p1 2 2 := RG_eq1 g_p1 (RG_k 2 2 rfl) c_3 (by decide +kernel)
        refine lv_iconst (v := 4) hx hb dX12_mostOf_48 kc_iconst_4 ?_
        as_aux_lemma =>
        refine lv_goto (tgt := 54) hx hb dX12_mostOf_49 rfl ?_
        have hK9 := hK.sub (tys' := []) [] rfl
        exact W.iret (v := 4) hx hb hr (fun t ht hW => ⟨⟨4, (), rfl, (Or.inr ⟨rfl, g_4⟩), by rw [ht]; exact hP, va_K.moved hW.alike hK9, hD⟩, hS.F ht⟩) hS.2.2 dX12_mostOf_54
  · exact RG_dead (RG_eq1 g_p0 (RG_k 115 115 rfl) c_1 (a' := 115) (b' := 99) (by decide +kernel)) (by decide +kernel)
noncomputable def wf_c_X12_has_2 : List Cond := .code yX12_has cX12_has 2 (some .boolean) :: ([])
set_option maxHeartbeats 4000000 in
set_option maxRecDepth 100000 in
theorem c_X12_has_2 (l : Launch) (dC : Nat → ClassId) (dI : Nat → Nat → Nat) (sz : Nat) (p0 : Int32) (p1 : Int32) (g_p1 : RG p1 0 7) : Met l yX12_has wf_c_X12_has_2 ({ frames := 0, cells := 0, slots := 0, locals := 0 }) (va_Pc [.int p0, .int p1] (fun U => U.heap.size = sz ∧ va_P (dC, dI) vwCl [] U.heap ∧ va_K (dC, dI) vwCl [] U ∧ va_D (fun _ => True) [])) (va_Qi (fun (r : Int32) (u : Unit) => (r = 0 ∧ (r = 1 → (p0 >>> (p1 &&& 31)) &&& 1 = 1)) ∨ (r = 1 ∧ (r = 1 → (p0 >>> (p1 &&& 31)) &&& 1 = 1))) (fun (u : Unit) t => va_P (dC, dI) vwCl [] t.heap ∧ va_K (dC, dI) vwCl [] t ∧ va_D (va_A [] sz) []) (va_A [] sz)) 0 0 (va_A [] sz) := by
  refine Met.ofW (cc := cX12_has) (maxL := 2) (ret := (some .boolean)) (by decide +kernel) rfl ?_
  intro p e s m args below meth c s₁ B hml hv
  obtain ⟨rfl, hsz, hP, hK, hD0⟩ := hv
  have hx := B.exec
  have hb := B.bytes
  have hr := B.returns
  have hts := atoms_spec (ws := wf_c_X12_has_2) B.pre
  have hown : s.vm.findClass RX12 = some m.cls := findClass_of_methodNamed B.named
  have hlocks := B.notSynchronized
  subst hsz
  have hD := hD0.self (sz := s.heap.size)
  generalize hAe : va_A [] s.heap.size = A at hD ⊢
  have hA : ∀ q : Nat, s.heap.size ≤ q → A q := fun q h => by rw [← hAe]; exact Or.inr h
  have hP : va_P (dC, dI) vwCl [] s.heap := hP
  have hl := lv_entry ([.int p0, .int p1]) (n := 2) (Nat.le_of_ble_eq_true rfl)
  rw [lg_entry_eq]
  generalize (lg_sl ([.int p0, .int p1]) ++ List.replicate (2 - (lg_sl ([.int p0, .int p1])).length) Slot.unset).toArray = ls at hl ⊢
  have hl : lv_has ls 2 [(0, .int p0), (1, .int p1)] := hl
  obtain ⟨H, hHe⟩ : ∃ H : Heap, s.heap = H := ⟨_, rfl⟩
  have hS : va_S A s.heap H [] := by rw [hHe]; exact va_S.rf
  have hP : va_P (dC, dI) vwCl [] H := by rw [← hHe]; exact hP
  rw [hHe]
  refine lv_iload_n hx hb dX12_has_0 rfl (lv_at hl 0 rfl) ?_
  as_aux_lemma =>
  refine lv_iload_n hx hb dX12_has_1 rfl (lv_at hl 1 rfl) ?_
  refine lv_ishr hx hb dX12_has_2 ?_
  refine lv_topi (fun x_1 ex_1 => ?_)
  refine lv_iconst (v := 1) hx hb dX12_has_3 kc_iconst_1 ?_
  refine lv_iand hx hb dX12_has_4 ?_
  refine lv_topi (fun x_2 ex_2 => ?_)
  have g_3 : RG x_2 0 1 := RG_andr ex_2 (RG_k 1 1 rfl) (by decide +kernel)
  refine lv_iconst (v := 1) hx hb dX12_has_5 kc_iconst_1 ?_
  refine lv_icmp_ne (tgt := 13) hx hb dX12_has_6 rfl (fun c_4 => ?_) (fun c_4 => ?_)
  · have g_5 : RG x_2 0 0 := RG_ne1 g_3 (q := 1) rfl c_4 (by decide +kernel)
    refine lv_iconst (v := 0) hx hb dX12_has_13 kc_iconst_0 ?_
    have hK9 := hK.sub (tys' := []) [] rfl
    exact W.zret (v := 0) hx hb hr rfl (fun t ht hW => ⟨⟨0, (), rfl, (Or.inl ⟨rfl, (fun h => absurd h (by decide +kernel))⟩), by rw [ht]; exact hP, va_K.moved hW.alike hK9, hD⟩, hS.F ht⟩) hS.2.2 dX12_has_14
  · have g_6 : RG x_2 1 1 := RG_eq1 g_3 (RG_k 1 1 rfl) c_4 (by decide +kernel)
    refine lv_iconst (v := 1) hx hb dX12_has_9 kc_iconst_1 ?_
    as_aux_lemma =>
    refine lv_goto (tgt := 14) hx hb dX12_has_10 rfl ?_
    have hK9 := hK.sub (tys' := []) [] rfl
    exact W.zret (v := 1) hx hb hr rfl (fun t ht hW => ⟨⟨1, (), rfl, (Or.inr ⟨rfl, (fun _ => by rw [← ex_1, ← ex_2]; exact c_4)⟩), by rw [ht]; exact hP, va_K.moved hW.alike hK9, hD⟩, hS.F ht⟩) hS.2.2 dX12_has_14
noncomputable def wd_c_X12_readItems (a0 : Nat) (a1 : Int32) (a2 : Nat) (a3 : Nat) (a4 : Nat) (a5 : Nat) (a6 : Nat) (a7 : Int32) (a8 : Int32) (a9 : Int32) (a10 : Int32) (a11 : Int32) (a12 : Int32) (a13 : Int32) (a14 : Int32) (a15 : Int32) (a16 : Nat) (a17 : Nat) (a18 : Int32) (a19 : Nat) (a20 : Nat) (a21 : Nat) (a22 : Nat) (a23 : Nat) (a24 : Nat) (a25 : Nat) (a26 : Nat) (a27 : Int32) (a28 : Int32) (a29 : Int32) (a30 : Int32) (a31 : Int32) (a32 : Int32) (a33 : Nat) (a34 : Nat) (a35 : Int32) (a36 : Nat) (a37 : Nat) (a38 : Nat) (a39 : Nat) (a40 : Nat) (a41 : Nat) (a42 : Int32) (a43 : Int64) (a44 : Int32) (a45 : Int32) (a46 : Nat) (a47 : Nat) (a48 : Nat) (a49 : Nat) (a50 : Nat) (a51 : Nat) (a52 : Int32) (a53 : Nat) (a54 : Int32) (a55 : Nat) (a56 : ClassId) (a57 : Nat → Int32) (a58 : Nat) (a59 : ClassId) (a60 : Nat) (a61 : Nat → Int32) : va_W := [(a0, .inr (12, [.int a1, .ref a2, .ref a3, .ref a4, .ref a5, .ref a6, .int a7, .int a8, .int a9, .int a10, .int a11, .int a12, .int a13, .int a14, .int a15, .ref a16, .ref a17, .int a18, .ref a19, .ref a20, .ref a21, .ref a22, .ref a23, .ref a24, .ref a25, .ref a26, .int a27, .int a28, .int a29, .int a30, .int a31, .int a32, .ref a33, .ref a34, .int a35, .ref a36, .ref a37, .ref a38, .ref a39, .ref a40, .ref a41, .int a42, .long a43, .int a44, .int a45, .ref a46, .ref a47, .ref a48, .ref a49, .ref a50, .ref a51, .int a52, .ref a53, .int a54])), (a55, .inl (a56, 12, .inl a57)), (a58, .inl (a59, a60, .inl a61))]
noncomputable def wf_c_X12_readItems : List Cond := List.cons (.code yX12_readItems cX12_readItems 7 none) (@HAppend.hAppend (List Cond) (List Cond) (List Cond) _ [.methodLink RX12 114 yJ0_length_8abf5, .instanceMethod yJ0_length_8abf5, .selects RJ0 yJ0_length_8abf5 yJ0_length_8abf5, .initialized RJ0, .code yJ0_length_8abf5 cJ0_length_8abf5 1 (some .int), .fieldLink RJ0 9 "java/lang/String" "value" "[B", .methodLink RJ0 335 yJ0_coder_7d493, .instanceMethod yJ0_coder_7d493, .selects RJ0 yJ0_coder_7d493 yJ0_coder_7d493, .code yJ0_coder_7d493 cJ0_coder_7d493 1 (some .byte), .fieldLink RJ0 38 "java/lang/String" "COMPACT_STRINGS" "Z", .fieldLink RJ0 15 "java/lang/String" "coder" "B", .methodLink RX12 236 yX12_usual, .static yX12_usual, .initialized RX12, .code yX12_usual cX12_usual 2 (some .int), .methodLink RX12 153 yX12_look, .instanceMethod yX12_look, .selects RX12 yX12_look yX12_look, .code yX12_look cX12_look 1 (some .int), .fieldLink RX12 134 "BuoyVoteModel" "at" "I", .fieldLink RX12 137 "BuoyVoteModel" "ends" "I", .fieldLink RX12 23 "BuoyVoteModel" "text" "[B", .fieldLink RX12 140 "BuoyVoteModel" "begins" "I", .methodLink RX12 240 yX12_spotOf, .static yX12_spotOf, .code yX12_spotOf cX12_spotOf 3 (some .int), .methodLink RX12 120 yJ0_charAt_5068e, .instanceMethod yJ0_charAt_5068e, .selects RJ0 yJ0_charAt_5068e yJ0_charAt_5068e, .code yJ0_charAt_5068e cJ0_charAt_5068e 2 (some .char), .methodLink RJ0 492 yJ0_isLatin1_aae02, .instanceMethod yJ0_isLatin1_aae02, .selects RJ0 yJ0_isLatin1_aae02 yJ0_isLatin1_aae02, .code yJ0_isLatin1_aae02 cJ0_isLatin1_aae02 1 (some .boolean), .methodLink RJ0 495 yJ1_charAt_3b067, .static yJ1_charAt_3b067, .initialized RJ1, .code yJ1_charAt_3b067 cJ1_charAt_3b067 2 (some .char), .methodLink RJ1 9 yJ0_checkIndex_df160, .static yJ0_checkIndex_df160, .code yJ0_checkIndex_df160 cJ0_checkIndex_df160 2 none, .fieldLink RJ0 1053 "jdk/internal/util/Preconditions" "SIOOBE_FORMATTER" "Ljava/util/function/BiFunction;", .methodLink RJ0 1059 yJ3_checkIndex_8e157, .static yJ3_checkIndex_8e157, .initialized RJ3, .code yJ3_checkIndex_8e157 cJ3_checkIndex_8e157 3 (some .int), .fieldLink RX12 143 "BuoyVoteModel" "fault" "I", .methodLink RX12 244 yX12_has, .static yX12_has, .code yX12_has cX12_has 2 (some .boolean), .methodLink RX12 248 yX12_leastOf, .static yX12_leastOf, .code yX12_leastOf cX12_leastOf 2 (some .int), .methodLink RX12 251 yX12_mostOf, .static yX12_mostOf, .code yX12_mostOf cX12_mostOf 2 (some .int), .methodLink RX12 254 yX12_number, .instanceMethod yX12_number, .selects RX12 yX12_number yX12_number, .code yX12_number cX12_number 5 (some .int), .methodLink RX12 183 yX12_isDigit, .instanceMethod yX12_isDigit, .selects RX12 yX12_isDigit yX12_isDigit, .code yX12_isDigit cX12_isDigit 1 (some .boolean), .methodLink RX12 149 yX12_fails, .instanceMethod yX12_fails, .selects RX12 yX12_fails yX12_fails, .code yX12_fails cX12_fails 1 (some .boolean), .methodLink RX12 229 yX12_here, .instanceMethod yX12_here, .selects RX12 yX12_here yX12_here, .code yX12_here cX12_here 1 (some .int), .methodLink RX12 232 yX12_isIn, .static yX12_isIn, .code yX12_isIn cX12_isIn 6 (some .boolean)] wsX120)
theorem iw_c_X12_readItems_X12 : ∀ w ∈ wsX120, w ∈ wf_c_X12_readItems := fun w h => List.mem_cons_of_mem _ (List.mem_append_right _ h)
set_option maxRecDepth 20000 in
theorem gf_c_X12_readItems_c_X12_has_2 : GoodIn wf_c_X12_readItems (va_wsS RX12 244 yX12_has wf_c_X12_has_2) := goodIn_app (gi_l [49, 50, 15] rfl rfl) (gi_cons (j := 51) rfl rfl gi_nil)
set_option maxRecDepth 20000 in
theorem gf_c_X12_readItems_c_X12_leastOf : GoodIn wf_c_X12_readItems (va_wsS RX12 248 yX12_leastOf wf_c_X12_leastOf) := goodIn_app (gi_l [52, 53, 15] rfl rfl) (gi_cons (j := 54) rfl rfl gi_nil)
set_option maxRecDepth 20000 in
theorem gf_c_X12_readItems_c_X12_mostOf : GoodIn wf_c_X12_readItems (va_wsS RX12 251 yX12_mostOf wf_c_X12_mostOf) := goodIn_app (gi_l [55, 56, 15] rfl rfl) (gi_cons (j := 57) rfl rfl gi_nil)
set_option maxRecDepth 20000 in
theorem gf_c_X12_readItems_c_X12_number : GoodIn wf_c_X12_readItems (wsV RX12 254 RX12 yX12_number wf_c_X12_number) := goodIn_app (gi_l [58, 59, 60, 15] rfl rfl) (gi_cons (j := 61) rfl rfl (goodIn_app (gi_l [17, 18, 19, 15, 20, 21, 22, 23, 24, 62, 63, 64, 65, 66, 67, 68, 69, 48, 70, 71, 72, 73, 74, 75, 76] rfl rfl) (goodIn_sub iw_c_X12_readItems_X12 gw_X12)))
set_option maxRecDepth 20000 in
theorem gf_c_X12_readItems_c_X12_look : GoodIn wf_c_X12_readItems (wsV RX12 153 RX12 yX12_look wf_c_X12_look) := goodIn_app (gi_l [17, 18, 19, 15] rfl rfl) (gi_cons (j := 20) rfl rfl (goodIn_app (gi_l [21, 22, 23, 24] rfl rfl) (goodIn_sub iw_c_X12_readItems_X12 gw_X12)))
set_option maxRecDepth 20000 in
theorem gf_c_X12_readItems_c_X12_spotOf : GoodIn wf_c_X12_readItems (va_wsS RX12 240 yX12_spotOf wf_c_X12_spotOf) := goodIn_app (gi_l [25, 26, 15] rfl rfl) (gi_cons (j := 27) rfl rfl (gi_l [1, 2, 3, 4, 5, 6, 7, 8, 9, 10, 11, 12, 28, 29, 30, 31, 32, 33, 34, 35, 36, 37, 38, 39, 40, 41, 42, 43, 44, 45, 46, 47] rfl rfl))
set_option maxRecDepth 20000 in
theorem gf_c_X12_readItems_c_X12_spotOf_1 : GoodIn wf_c_X12_readItems (va_wsS RX12 240 yX12_spotOf wf_c_X12_spotOf_1) := goodIn_app (gi_l [25, 26, 15] rfl rfl) (gi_cons (j := 27) rfl rfl (gi_l [1, 2, 3, 4, 5, 6, 7, 8, 9, 10, 11, 12, 28, 29, 30, 31, 32, 33, 34, 35, 36, 37, 38, 39, 40, 41, 42, 43, 44, 45, 46, 47] rfl rfl))
set_option maxRecDepth 20000 in
theorem gf_c_X12_readItems_c_X12_fails : GoodIn wf_c_X12_readItems (wsV RX12 149 RX12 yX12_fails wf_c_X12_fails) := goodIn_app (gi_l [66, 67, 68, 15] rfl rfl) (gi_cons (j := 69) rfl rfl (goodIn_app (gi_l [48, 21] rfl rfl) (goodIn_sub iw_c_X12_readItems_X12 gw_X12)))
set_option maxRecDepth 20000 in
theorem gf_c_X12_readItems_c_X12_leastOf_1 : GoodIn wf_c_X12_readItems (va_wsS RX12 248 yX12_leastOf wf_c_X12_leastOf_1) := goodIn_app (gi_l [52, 53, 15] rfl rfl) (gi_cons (j := 54) rfl rfl gi_nil)
set_option maxRecDepth 20000 in
theorem gf_c_X12_readItems_c_X12_mostOf_1 : GoodIn wf_c_X12_readItems (va_wsS RX12 251 yX12_mostOf wf_c_X12_mostOf_1) := goodIn_app (gi_l [55, 56, 15] rfl rfl) (gi_cons (j := 57) rfl rfl gi_nil)
set_option maxRecDepth 20000 in
theorem gf_c_X12_readItems_c_X12_leastOf_2 : GoodIn wf_c_X12_readItems (va_wsS RX12 248 yX12_leastOf wf_c_X12_leastOf_2) := goodIn_app (gi_l [52, 53, 15] rfl rfl) (gi_cons (j := 54) rfl rfl gi_nil)
set_option maxRecDepth 20000 in
theorem gf_c_X12_readItems_c_X12_mostOf_2 : GoodIn wf_c_X12_readItems (va_wsS RX12 251 yX12_mostOf wf_c_X12_mostOf_2) := goodIn_app (gi_l [55, 56, 15] rfl rfl) (gi_cons (j := 57) rfl rfl gi_nil)
set_option maxRecDepth 20000 in
theorem gf_c_X12_readItems_c_X12_number_1 : GoodIn wf_c_X12_readItems (wsV RX12 254 RX12 yX12_number wf_c_X12_number_1) := goodIn_app (gi_l [58, 59, 60, 15] rfl rfl) (gi_cons (j := 61) rfl rfl (goodIn_app (gi_l [17, 18, 19, 15, 20, 21, 22, 23, 24, 62, 63, 64, 65, 66, 67, 68, 69, 48, 70, 71, 72, 73, 74, 75, 76] rfl rfl) (goodIn_sub iw_c_X12_readItems_X12 gw_X12)))
set_option maxRecDepth 20000 in
theorem gf_c_X12_readItems_c_X12_leastOf_3 : GoodIn wf_c_X12_readItems (va_wsS RX12 248 yX12_leastOf wf_c_X12_leastOf_3) := goodIn_app (gi_l [52, 53, 15] rfl rfl) (gi_cons (j := 54) rfl rfl gi_nil)
set_option maxRecDepth 20000 in
theorem gf_c_X12_readItems_c_X12_mostOf_3 : GoodIn wf_c_X12_readItems (va_wsS RX12 251 yX12_mostOf wf_c_X12_mostOf_3) := goodIn_app (gi_l [55, 56, 15] rfl rfl) (gi_cons (j := 57) rfl rfl gi_nil)
set_option maxRecDepth 20000 in
theorem gf_c_X12_readItems_c_J0_length_8abf5_6 : GoodIn wf_c_X12_readItems (wsV RX12 114 RJ0 yJ0_length_8abf5 wf_c_J0_length_8abf5_6) := goodIn_app (gi_l [1, 2, 3, 4] rfl rfl) (gi_cons (j := 5) rfl rfl (gi_l [6, 7, 8, 9, 4, 10, 11, 12] rfl rfl))
set_option maxRecDepth 20000 in
theorem gf_c_X12_readItems_c_X12_usual_4 : GoodIn wf_c_X12_readItems (va_wsS RX12 236 yX12_usual wf_c_X12_usual_4) := goodIn_app (gi_l [13, 14, 15] rfl rfl) (gi_cons (j := 16) rfl rfl gi_nil)
set_option maxRecDepth 20000 in
theorem gf_c_X12_readItems_c_X12_usual_5 : GoodIn wf_c_X12_readItems (va_wsS RX12 236 yX12_usual wf_c_X12_usual_5) := goodIn_app (gi_l [13, 14, 15] rfl rfl) (gi_cons (j := 16) rfl rfl gi_nil)
set_option maxRecDepth 20000 in
theorem gf_c_X12_readItems_c_X12_usual_6 : GoodIn wf_c_X12_readItems (va_wsS RX12 236 yX12_usual wf_c_X12_usual_6) := goodIn_app (gi_l [13, 14, 15] rfl rfl) (gi_cons (j := 16) rfl rfl gi_nil)
set_option maxRecDepth 20000 in
theorem gf_c_X12_readItems_c_X12_usual_7 : GoodIn wf_c_X12_readItems (va_wsS RX12 236 yX12_usual wf_c_X12_usual_7) := goodIn_app (gi_l [13, 14, 15] rfl rfl) (gi_cons (j := 16) rfl rfl gi_nil)
set_option maxHeartbeats 4000000 in
set_option maxRecDepth 100000 in
theorem c_X12_readItems (l : Launch) (dC : Nat → ClassId) (dI : Nat → Nat → Nat) (sz : Nat) (h0 : Nat) (p1 : Int32) (h2 : Nat) (p3 : Int32) (ts10 : Nat) (h0_f0 : Int32) (h0_1 : Nat) (h0_2 : Nat) (h0_3 : Nat) (h0_4 : Nat) (h0_5 : Nat) (h0_f6 : Int32) (h0_f7 : Int32) (h0_f8 : Int32) (h0_f9 : Int32) (h0_f10 : Int32) (h0_f12 : Int32) (h0_f13 : Int32) (h0_f14 : Int32) (h0_15 : Nat) (h0_16 : Nat) (h0_f17 : Int32) (h0_18 : Nat) (h0_19 : Nat) (h0_20 : Nat) (h0_21 : Nat) (h0_22 : Nat) (h0_23 : Nat) (h0_24 : Nat) (h0_25 : Nat) (h0_f26 : Int32) (h0_f27 : Int32) (h0_f28 : Int32) (h0_f29 : Int32) (h0_f30 : Int32) (h0_f31 : Int32) (h0_32 : Nat) (h0_33 : Nat) (h0_f34 : Int32) (h0_35 : Nat) (h0_36 : Nat) (h0_37 : Nat) (h0_38 : Nat) (h0_39 : Nat) (h0_40 : Nat) (h0_f41 : Int32) (h0_f42 : Int64) (h0_f43 : Int32) (h0_f44 : Int32) (h0_45 : Nat) (h0_46 : Nat) (h0_47 : Nat) (h0_48 : Nat) (h0_49 : Nat) (h0_50 : Nat) (h0_f51 : Int32) (h0_52 : Nat) (h0_f53 : Int32) (h2k : ClassId) (h2c : Nat → Int32) (h0_5k : ClassId) (h0_5c : Nat → Int32) (tN : Nat) (tv10 : Nat) (g_p1 : RG p1 99 99) (g_p3 : RG p3 0 8) (g_h0_f6 : RG h0_f6 0 240) (g_h0_f7 : RG h0_f7 0 4) (g_h0_f8 : RG h0_f8 0 720) (g_h0_f9 : RG h0_f9 0 240) (g_h0_f10 : RG h0_f10 0 240) (g_h0_f17 : RG h0_f17 0 1) (g_h0_f26 : RG h0_f26 0 8) (g_h0_f27 : RG h0_f27 0 3) (g_h0_f28 : RG h0_f28 0 8) (g_h0_f29 : RG h0_f29 0 3) (g_h0_f30 : RG h0_f30 0 4) (g_h0_f31 : RG h0_f31 0 1) (g_h0_f34 : RG h0_f34 (-1) 3) (g_h0_f41 : RG h0_f41 0 40) (g_h0_f51 : RG h0_f51 0 10) (g_h0_f53 : RG h0_f53 0 1) (a_h2c : AI h2c 0 99) (htN : h0_f8.toInt + 240 ≤ (tN : Int)) (i_h2c : BOi p3.toInt h2c) (hrow : p3.toInt % 4 = 0) : Met l yX12_readItems wf_c_X12_readItems ({ frames := 5, cells := 0, slots := 0, locals := 107 }) (va_Pc [.ref h0, .int p1, .ref h2, .int p3, .ref ts10] (fun U => U.heap.size = sz ∧ va_P (dC, dI) vwCl (wd_c_X12_readItems h0 h0_f0 h0_1 h0_2 h0_3 h0_4 h0_5 h0_f6 h0_f7 h0_f8 h0_f9 h0_f10 (-1) h0_f12 h0_f13 h0_f14 h0_15 h0_16 h0_f17 h0_18 h0_19 h0_20 h0_21 h0_22 h0_23 h0_24 h0_25 h0_f26 h0_f27 h0_f28 h0_f29 h0_f30 h0_f31 h0_32 h0_33 h0_f34 h0_35 h0_36 h0_37 h0_38 h0_39 h0_40 h0_f41 h0_f42 h0_f43 h0_f44 h0_45 h0_46 h0_47 h0_48 h0_49 h0_50 h0_f51 h0_52 h0_f53 h2 h2k h2c h0_5 h0_5k tN h0_5c) U.heap ∧ va_K (dC, dI) vwCl [(h2k, .int), (h0_5k, .byte)] U ∧ va_D (fun _ => True) (wd_c_X12_readItems h0 h0_f0 h0_1 h0_2 h0_3 h0_4 h0_5 h0_f6 h0_f7 h0_f8 h0_f9 h0_f10 (-1) h0_f12 h0_f13 h0_f14 h0_15 h0_16 h0_f17 h0_18 h0_19 h0_20 h0_21 h0_22 h0_23 h0_24 h0_25 h0_f26 h0_f27 h0_f28 h0_f29 h0_f30 h0_f31 h0_32 h0_33 h0_f34 h0_35 h0_36 h0_37 h0_38 h0_39 h0_40 h0_f41 h0_f42 h0_f43 h0_f44 h0_45 h0_46 h0_47 h0_48 h0_49 h0_50 h0_f51 h0_52 h0_f53 h2 h2k h2c h0_5 h0_5k tN h0_5c) ∧ va_OF "java/lang/String" "value" "[B" (.ref tv10) ts10 (va_A (wd_c_X12_readItems h0 h0_f0 h0_1 h0_2 h0_3 h0_4 h0_5 h0_f6 h0_f7 h0_f8 h0_f9 h0_f10 (-1) h0_f12 h0_f13 h0_f14 h0_15 h0_16 h0_f17 h0_18 h0_19 h0_20 h0_21 h0_22 h0_23 h0_24 h0_25 h0_f26 h0_f27 h0_f28 h0_f29 h0_f30 h0_f31 h0_32 h0_33 h0_f34 h0_35 h0_36 h0_37 h0_38 h0_39 h0_40 h0_f41 h0_f42 h0_f43 h0_f44 h0_45 h0_46 h0_47 h0_48 h0_49 h0_50 h0_f51 h0_52 h0_f53 h2 h2k h2c h0_5 h0_5k tN h0_5c) sz) U U.heap ∧ va_T .byte tv10 4 (fun j => .int ([120, 121, 115, 118].getD j 0)) (va_A (wd_c_X12_readItems h0 h0_f0 h0_1 h0_2 h0_3 h0_4 h0_5 h0_f6 h0_f7 h0_f8 h0_f9 h0_f10 (-1) h0_f12 h0_f13 h0_f14 h0_15 h0_16 h0_f17 h0_18 h0_19 h0_20 h0_21 h0_22 h0_23 h0_24 h0_25 h0_f26 h0_f27 h0_f28 h0_f29 h0_f30 h0_f31 h0_32 h0_33 h0_f34 h0_35 h0_36 h0_37 h0_38 h0_39 h0_40 h0_f41 h0_f42 h0_f43 h0_f44 h0_45 h0_46 h0_47 h0_48 h0_49 h0_50 h0_f51 h0_52 h0_f53 h2 h2k h2c h0_5 h0_5k tN h0_5c) sz) U U.heap ∧ va_Z "java/lang/String" "COMPACT_STRINGS" "Z" (.int 1) (va_A (wd_c_X12_readItems h0 h0_f0 h0_1 h0_2 h0_3 h0_4 h0_5 h0_f6 h0_f7 h0_f8 h0_f9 h0_f10 (-1) h0_f12 h0_f13 h0_f14 h0_15 h0_16 h0_f17 h0_18 h0_19 h0_20 h0_21 h0_22 h0_23 h0_24 h0_25 h0_f26 h0_f27 h0_f28 h0_f29 h0_f30 h0_f31 h0_32 h0_33 h0_f34 h0_35 h0_36 h0_37 h0_38 h0_39 h0_40 h0_f41 h0_f42 h0_f43 h0_f44 h0_45 h0_46 h0_47 h0_48 h0_49 h0_50 h0_f51 h0_52 h0_f53 h2 h2k h2c h0_5 h0_5k tN h0_5c) sz) U U.heap ∧ va_OF "java/lang/String" "coder" "B" (.int 0) ts10 (va_A (wd_c_X12_readItems h0 h0_f0 h0_1 h0_2 h0_3 h0_4 h0_5 h0_f6 h0_f7 h0_f8 h0_f9 h0_f10 (-1) h0_f12 h0_f13 h0_f14 h0_15 h0_16 h0_f17 h0_18 h0_19 h0_20 h0_21 h0_22 h0_23 h0_24 h0_25 h0_f26 h0_f27 h0_f28 h0_f29 h0_f30 h0_f31 h0_32 h0_33 h0_f34 h0_35 h0_36 h0_37 h0_38 h0_39 h0_40 h0_f41 h0_f42 h0_f43 h0_f44 h0_45 h0_46 h0_47 h0_48 h0_49 h0_50 h0_f51 h0_52 h0_f53 h2 h2k h2c h0_5 h0_5k tN h0_5c) sz) U U.heap ∧ va_O "java/lang/String" ts10 (va_A (wd_c_X12_readItems h0 h0_f0 h0_1 h0_2 h0_3 h0_4 h0_5 h0_f6 h0_f7 h0_f8 h0_f9 h0_f10 (-1) h0_f12 h0_f13 h0_f14 h0_15 h0_16 h0_f17 h0_18 h0_19 h0_20 h0_21 h0_22 h0_23 h0_24 h0_25 h0_f26 h0_f27 h0_f28 h0_f29 h0_f30 h0_f31 h0_32 h0_33 h0_f34 h0_35 h0_36 h0_37 h0_38 h0_39 h0_40 h0_f41 h0_f42 h0_f43 h0_f44 h0_45 h0_46 h0_47 h0_48 h0_49 h0_50 h0_f51 h0_52 h0_f53 h2 h2k h2c h0_5 h0_5k tN h0_5c) sz) U U.heap ∧ va_Zq "jdk/internal/util/Preconditions" "SIOOBE_FORMATTER" "Ljava/util/function/BiFunction;" (va_A (wd_c_X12_readItems h0 h0_f0 h0_1 h0_2 h0_3 h0_4 h0_5 h0_f6 h0_f7 h0_f8 h0_f9 h0_f10 (-1) h0_f12 h0_f13 h0_f14 h0_15 h0_16 h0_f17 h0_18 h0_19 h0_20 h0_21 h0_22 h0_23 h0_24 h0_25 h0_f26 h0_f27 h0_f28 h0_f29 h0_f30 h0_f31 h0_32 h0_33 h0_f34 h0_35 h0_36 h0_37 h0_38 h0_39 h0_40 h0_f41 h0_f42 h0_f43 h0_f44 h0_45 h0_46 h0_47 h0_48 h0_49 h0_50 h0_f51 h0_52 h0_f53 h2 h2k h2c h0_5 h0_5k tN h0_5c) sz) U U.heap)) (va_Qv (fun (u : (Int32) × (Int32) × (Nat → Int32)) => (RG u.1 0 240 ∧ u.2.1 = (-1) ∧ AI (u.2.2) 0 99 ∧ BOi (p3.toInt + 4) (u.2.2) ∧ h0_f10.toInt + 0 ≤ (u.1).toInt) ∨ (RG u.1 0 240 ∧ RG u.2.1 0 240 ∧ AI (u.2.2) 0 99 ∧ RG h0_f9 1 240)) (fun (u : (Int32) × (Int32) × (Nat → Int32)) t => va_P (dC, dI) vwCl (wd_c_X12_readItems h0 h0_f0 h0_1 h0_2 h0_3 h0_4 h0_5 h0_f6 h0_f7 h0_f8 h0_f9 (u.1) (u.2.1) h0_f12 h0_f13 h0_f14 h0_15 h0_16 h0_f17 h0_18 h0_19 h0_20 h0_21 h0_22 h0_23 h0_24 h0_25 h0_f26 h0_f27 h0_f28 h0_f29 h0_f30 h0_f31 h0_32 h0_33 h0_f34 h0_35 h0_36 h0_37 h0_38 h0_39 h0_40 h0_f41 h0_f42 h0_f43 h0_f44 h0_45 h0_46 h0_47 h0_48 h0_49 h0_50 h0_f51 h0_52 h0_f53 h2 h2k (u.2.2) h0_5 h0_5k tN h0_5c) t.heap ∧ va_K (dC, dI) vwCl [] t ∧ va_D (va_A (wd_c_X12_readItems h0 h0_f0 h0_1 h0_2 h0_3 h0_4 h0_5 h0_f6 h0_f7 h0_f8 h0_f9 h0_f10 (-1) h0_f12 h0_f13 h0_f14 h0_15 h0_16 h0_f17 h0_18 h0_19 h0_20 h0_21 h0_22 h0_23 h0_24 h0_25 h0_f26 h0_f27 h0_f28 h0_f29 h0_f30 h0_f31 h0_32 h0_33 h0_f34 h0_35 h0_36 h0_37 h0_38 h0_39 h0_40 h0_f41 h0_f42 h0_f43 h0_f44 h0_45 h0_46 h0_47 h0_48 h0_49 h0_50 h0_f51 h0_52 h0_f53 h2 h2k h2c h0_5 h0_5k tN h0_5c) sz) (wd_c_X12_readItems h0 h0_f0 h0_1 h0_2 h0_3 h0_4 h0_5 h0_f6 h0_f7 h0_f8 h0_f9 (u.1) (u.2.1) h0_f12 h0_f13 h0_f14 h0_15 h0_16 h0_f17 h0_18 h0_19 h0_20 h0_21 h0_22 h0_23 h0_24 h0_25 h0_f26 h0_f27 h0_f28 h0_f29 h0_f30 h0_f31 h0_32 h0_33 h0_f34 h0_35 h0_36 h0_37 h0_38 h0_39 h0_40 h0_f41 h0_f42 h0_f43 h0_f44 h0_45 h0_46 h0_47 h0_48 h0_49 h0_50 h0_f51 h0_52 h0_f53 h2 h2k (u.2.2) h0_5 h0_5k tN h0_5c)) (va_A (wd_c_X12_readItems h0 h0_f0 h0_1 h0_2 h0_3 h0_4 h0_5 h0_f6 h0_f7 h0_f8 h0_f9 h0_f10 (-1) h0_f12 h0_f13 h0_f14 h0_15 h0_16 h0_f17 h0_18 h0_19 h0_20 h0_21 h0_22 h0_23 h0_24 h0_25 h0_f26 h0_f27 h0_f28 h0_f29 h0_f30 h0_f31 h0_32 h0_33 h0_f34 h0_35 h0_36 h0_37 h0_38 h0_39 h0_40 h0_f41 h0_f42 h0_f43 h0_f44 h0_45 h0_46 h0_47 h0_48 h0_49 h0_50 h0_f51 h0_52 h0_f53 h2 h2k h2c h0_5 h0_5k tN h0_5c) sz)) 0 0 (va_A (wd_c_X12_readItems h0 h0_f0 h0_1 h0_2 h0_3 h0_4 h0_5 h0_f6 h0_f7 h0_f8 h0_f9 h0_f10 (-1) h0_f12 h0_f13 h0_f14 h0_15 h0_16 h0_f17 h0_18 h0_19 h0_20 h0_21 h0_22 h0_23 h0_24 h0_25 h0_f26 h0_f27 h0_f28 h0_f29 h0_f30 h0_f31 h0_32 h0_33 h0_f34 h0_35 h0_36 h0_37 h0_38 h0_39 h0_40 h0_f41 h0_f42 h0_f43 h0_f44 h0_45 h0_46 h0_47 h0_48 h0_49 h0_50 h0_f51 h0_52 h0_f53 h2 h2k h2c h0_5 h0_5k tN h0_5c) sz) := by
  refine Met.ofW (cc := cX12_readItems) (maxL := 7) (ret := none) (by decide +kernel) rfl ?_
  intro p e s m args below meth c s₁ B hml hv
  obtain ⟨rfl, hsz, hP, hK, hD0, hE_65, hE_66, hE_10, hE_64, hE_63, hE_11⟩ := hv
  have hx := B.exec
  have hb := B.bytes
  have hr := B.returns
  have hts := atoms_spec (ws := wf_c_X12_readItems) B.pre
  have hown : s.vm.findClass RX12 = some m.cls := findClass_of_methodNamed B.named
  have hlocks := B.notSynchronized
  subst hsz
  have hD := hD0.self (sz := s.heap.size)
  generalize hAe : va_A (wd_c_X12_readItems h0 h0_f0 h0_1 h0_2 h0_3 h0_4 h0_5 h0_f6 h0_f7 h0_f8 h0_f9 h0_f10 (-1) h0_f12 h0_f13 h0_f14 h0_15 h0_16 h0_f17 h0_18 h0_19 h0_20 h0_21 h0_22 h0_23 h0_24 h0_25 h0_f26 h0_f27 h0_f28 h0_f29 h0_f30 h0_f31 h0_32 h0_33 h0_f34 h0_35 h0_36 h0_37 h0_38 h0_39 h0_40 h0_f41 h0_f42 h0_f43 h0_f44 h0_45 h0_46 h0_47 h0_48 h0_49 h0_50 h0_f51 h0_52 h0_f53 h2 h2k h2c h0_5 h0_5k tN h0_5c) s.heap.size = A at hD hE_65 hE_66 hE_10 hE_64 hE_63 hE_11 ⊢
  have hA : ∀ q : Nat, s.heap.size ≤ q → A q := fun q h => by rw [← hAe]; exact Or.inr h
  have hP : va_P (dC, dI) vwCl (wd_c_X12_readItems h0 h0_f0 h0_1 h0_2 h0_3 h0_4 h0_5 h0_f6 h0_f7 h0_f8 h0_f9 h0_f10 (-1) h0_f12 h0_f13 h0_f14 h0_15 h0_16 h0_f17 h0_18 h0_19 h0_20 h0_21 h0_22 h0_23 h0_24 h0_25 h0_f26 h0_f27 h0_f28 h0_f29 h0_f30 h0_f31 h0_32 h0_33 h0_f34 h0_35 h0_36 h0_37 h0_38 h0_39 h0_40 h0_f41 h0_f42 h0_f43 h0_f44 h0_45 h0_46 h0_47 h0_48 h0_49 h0_50 h0_f51 h0_52 h0_f53 h2 h2k h2c h0_5 h0_5k tN h0_5c) s.heap := hP
  have hl := lv_entry ([.ref h0, .int p1, .ref h2, .int p3, .ref ts10]) (n := 7) (Nat.le_of_ble_eq_true rfl)
  rw [lg_entry_eq]
  generalize (lg_sl ([.ref h0, .int p1, .ref h2, .int p3, .ref ts10]) ++ List.replicate (7 - (lg_sl ([.ref h0, .int p1, .ref h2, .int p3, .ref ts10])).length) Slot.unset).toArray = ls at hl ⊢
  have hl : lv_has ls 7 [(0, .ref h0), (1, .int p1), (2, .ref h2), (3, .int p3), (4, .ref ts10)] := hl
  obtain ⟨H, hHe⟩ : ∃ H : Heap, s.heap = H := ⟨_, rfl⟩
  have hS : va_S A s.heap H [] := by rw [hHe]; exact va_S.rf
  have hP : va_P (dC, dI) vwCl (wd_c_X12_readItems h0 h0_f0 h0_1 h0_2 h0_3 h0_4 h0_5 h0_f6 h0_f7 h0_f8 h0_f9 h0_f10 (-1) h0_f12 h0_f13 h0_f14 h0_15 h0_16 h0_f17 h0_18 h0_19 h0_20 h0_21 h0_22 h0_23 h0_24 h0_25 h0_f26 h0_f27 h0_f28 h0_f29 h0_f30 h0_f31 h0_32 h0_33 h0_f34 h0_35 h0_36 h0_37 h0_38 h0_39 h0_40 h0_f41 h0_f42 h0_f43 h0_f44 h0_45 h0_46 h0_47 h0_48 h0_49 h0_50 h0_f51 h0_52 h0_f53 h2 h2k h2c h0_5 h0_5k tN h0_5c) H := by rw [← hHe]; exact hP
  rw [hHe]
  refine wj (fun G hG hU => ?_)
  as_aux_lemma =>
  have J45 : ∀ (j45_l5 : Int32) (j45_h0_f10 : Int32) (j45_h2c : Nat → Int32) (g_h0_f10 : RG h0_f10 0 240) (g_h0_f17 : RG h0_f17 0 1) (g_h0_f26 : RG h0_f26 0 8) (g_h0_f27 : RG h0_f27 0 3) (g_h0_f28 : RG h0_f28 0 8) (g_h0_f29 : RG h0_f29 0 3) (g_h0_f30 : RG h0_f30 0 4) (g_h0_f31 : RG h0_f31 0 1) (g_h0_f34 : RG h0_f34 (-1) 3) (g_h0_f41 : RG h0_f41 0 40) (g_h0_f51 : RG h0_f51 0 10) (g_h0_f53 : RG h0_f53 0 1) (g_h0_f6 : RG h0_f6 0 240) (g_h0_f7 : RG h0_f7 0 4) (g_h0_f8 : RG h0_f8 0 720) (g_h0_f9 : RG h0_f9 0 240) (g_j45_h0_f10 : RG j45_h0_f10 0 240) (g_p1 : RG p1 99 99) (g_p3 : RG p3 0 8) (a_j45_h2c : AI j45_h2c 0 99) (i_45_h2 : BOi (p3.toInt + 4) j45_h2c) (r_h0_f10_j45_h0_f10 : h0_f10.toInt + 0 ≤ j45_h0_f10.toInt) (H : Heap) (locs : List Loc) (ls : Array Slot) (hP : va_P (dC, dI) vwCl (wd_c_X12_readItems h0 h0_f0 h0_1 h0_2 h0_3 h0_4 h0_5 h0_f6 h0_f7 h0_f8 h0_f9 j45_h0_f10 (-1) h0_f12 h0_f13 h0_f14 h0_15 h0_16 h0_f17 h0_18 h0_19 h0_20 h0_21 h0_22 h0_23 h0_24 h0_25 h0_f26 h0_f27 h0_f28 h0_f29 h0_f30 h0_f31 h0_32 h0_33 h0_f34 h0_35 h0_36 h0_37 h0_38 h0_39 h0_40 h0_f41 h0_f42 h0_f43 h0_f44 h0_45 h0_46 h0_47 h0_48 h0_49 h0_50 h0_f51 h0_52 h0_f53 h2 h2k j45_h2c h0_5 h0_5k tN h0_5c) H) (hD : va_D A (wd_c_X12_readItems h0 h0_f0 h0_1 h0_2 h0_3 h0_4 h0_5 h0_f6 h0_f7 h0_f8 h0_f9 j45_h0_f10 (-1) h0_f12 h0_f13 h0_f14 h0_15 h0_16 h0_f17 h0_18 h0_19 h0_20 h0_21 h0_22 h0_23 h0_24 h0_25 h0_f26 h0_f27 h0_f28 h0_f29 h0_f30 h0_f31 h0_32 h0_33 h0_f34 h0_35 h0_36 h0_37 h0_38 h0_39 h0_40 h0_f41 h0_f42 h0_f43 h0_f44 h0_45 h0_46 h0_47 h0_48 h0_49 h0_50 h0_f51 h0_52 h0_f53 h2 h2k j45_h2c h0_5 h0_5k tN h0_5c)) (hS : va_S A s.heap H locs) (hl : lv_has ls 7 [(6, .int (-1)), (5, .int j45_l5), (0, .ref h0), (1, .int p1), (2, .ref h2), (3, .int p3), (4, .ref ts10)]), G H locs (F0 m 45 ls []) := by
    as_aux_lemma =>
    intro j45_l5 j45_h0_f10 j45_h2c g_h0_f10 g_h0_f17 g_h0_f26 g_h0_f27 g_h0_f28 g_h0_f29 g_h0_f30 g_h0_f31 g_h0_f34 g_h0_f41 g_h0_f51 g_h0_f53 g_h0_f6 g_h0_f7 g_h0_f8 g_h0_f9 g_j45_h0_f10 g_p1 g_p3 a_j45_h2c i_45_h2 r_h0_f10_j45_h0_f10 H locs ls hP hD hS hl
    refine hG _ _ _ ?_
    refine lv_iload hx hb dX12_readItems_45 (lv_at hl 0 rfl) ?_
    refine lv_iconst (v := (-1)) hx hb dX12_readItems_47 kc_iconst_m1 ?_
    refine lv_icmp_eq (tgt := 138) hx hb dX12_readItems_48 rfl (fun c_1 => ?_) (fun c_1 => absurd c_1 (by decide +kernel))
    have hK9 := hK.sub (tys' := []) [] rfl
    exact W.vret hx hb hr (fun t ht hW => ⟨⟨(j45_h0_f10, (-1), j45_h2c), rfl, (Or.inl ⟨g_j45_h0_f10, rfl, a_j45_h2c, i_45_h2, (by have := r_h0_f10_j45_h0_f10; show h0_f10.toInt + 0 ≤ j45_h0_f10.toInt; omega)⟩), by rw [ht]; exact hP, va_K.moved hW.alike hK9, hD⟩, hS.F ht⟩) hS.2.2 dX12_readItems_138
  have J45c : ∀ (j45c_l5 : Int32) (j45c_l6 : Int32) (j45c_h0_f10 : Int32) (j45c_h0_f11 : Int32) (j45c_h2c : Nat → Int32) (g_h0_f10 : RG h0_f10 0 240) (g_h0_f17 : RG h0_f17 0 1) (g_h0_f26 : RG h0_f26 0 8) (g_h0_f27 : RG h0_f27 0 3) (g_h0_f28 : RG h0_f28 0 8) (g_h0_f29 : RG h0_f29 0 3) (g_h0_f30 : RG h0_f30 0 4) (g_h0_f31 : RG h0_f31 0 1) (g_h0_f34 : RG h0_f34 (-1) 3) (g_h0_f41 : RG h0_f41 0 40) (g_h0_f51 : RG h0_f51 0 10) (g_h0_f53 : RG h0_f53 0 1) (g_h0_f6 : RG h0_f6 0 240) (g_h0_f7 : RG h0_f7 0 4) (g_h0_f8 : RG h0_f8 0 720) (g_h0_f9 : RG h0_f9 1 240) (g_j45c_h0_f10 : RG j45c_h0_f10 0 240) (g_j45c_h0_f11 : RG j45c_h0_f11 0 240) (g_j45c_l6 : RG j45c_l6 0 3) (g_p1 : RG p1 99 99) (g_p3 : RG p3 0 8) (a_j45c_h2c : AI j45c_h2c 0 99) (H : Heap) (locs : List Loc) (ls : Array Slot) (hP : va_P (dC, dI) vwCl (wd_c_X12_readItems h0 h0_f0 h0_1 h0_2 h0_3 h0_4 h0_5 h0_f6 h0_f7 h0_f8 h0_f9 j45c_h0_f10 j45c_h0_f11 h0_f12 h0_f13 h0_f14 h0_15 h0_16 h0_f17 h0_18 h0_19 h0_20 h0_21 h0_22 h0_23 h0_24 h0_25 h0_f26 h0_f27 h0_f28 h0_f29 h0_f30 h0_f31 h0_32 h0_33 h0_f34 h0_35 h0_36 h0_37 h0_38 h0_39 h0_40 h0_f41 h0_f42 h0_f43 h0_f44 h0_45 h0_46 h0_47 h0_48 h0_49 h0_50 h0_f51 h0_52 h0_f53 h2 h2k j45c_h2c h0_5 h0_5k tN h0_5c) H) (hD : va_D A (wd_c_X12_readItems h0 h0_f0 h0_1 h0_2 h0_3 h0_4 h0_5 h0_f6 h0_f7 h0_f8 h0_f9 j45c_h0_f10 j45c_h0_f11 h0_f12 h0_f13 h0_f14 h0_15 h0_16 h0_f17 h0_18 h0_19 h0_20 h0_21 h0_22 h0_23 h0_24 h0_25 h0_f26 h0_f27 h0_f28 h0_f29 h0_f30 h0_f31 h0_32 h0_33 h0_f34 h0_35 h0_36 h0_37 h0_38 h0_39 h0_40 h0_f41 h0_f42 h0_f43 h0_f44 h0_45 h0_46 h0_47 h0_48 h0_49 h0_50 h0_f51 h0_52 h0_f53 h2 h2k j45c_h2c h0_5 h0_5k tN h0_5c)) (hS : va_S A s.heap H locs) (hl : lv_has ls 7 [(5, .int j45c_l5), (6, .int j45c_l6), (0, .ref h0), (1, .int p1), (2, .ref h2), (3, .int p3), (4, .ref ts10)]), G H locs (F0 m 45 ls []) := by
    as_aux_lemma =>
    intro j45c_l5 j45c_l6 j45c_h0_f10 j45c_h0_f11 j45c_h2c g_h0_f10 g_h0_f17 g_h0_f26 g_h0_f27 g_h0_f28 g_h0_f29 g_h0_f30 g_h0_f31 g_h0_f34 g_h0_f41 g_h0_f51 g_h0_f53 g_h0_f6 g_h0_f7 g_h0_f8 g_h0_f9 g_j45c_h0_f10 g_j45c_h0_f11 g_j45c_l6 g_p1 g_p3 a_j45c_h2c H locs ls hP hD hS hl
    refine hG _ _ _ ?_
    refine lv_iload hx hb dX12_readItems_45 (lv_at hl 1 rfl) ?_
    refine lv_iconst (v := (-1)) hx hb dX12_readItems_47 kc_iconst_m1 ?_
    refine lv_icmp_eq (tgt := 138) hx hb dX12_readItems_48 rfl (fun c_2 => ?_) (fun c_2 => ?_)
    · exact RG_dead (RG_eq1 g_j45c_l6 (RG_k (-1) (-1) rfl) c_2 (a' := 0) (b' := (-1)) (by decide +kernel)) (by decide +kernel)
    · refine lv_aload_n hx hb dX12_readItems_51 rfl (lv_at hl 2 rfl) ?_
      refine va_get (D := (dC, dI)) (ci := 12) (v := .int j45c_h0_f11) (C := RX12) (T := TX12) (N := 54) hx hb hts iw_c_X12_readItems_X12 hown hK hP 0 rfl rfl 11 (by decide +kernel) (hts (.fieldLink RX12 143 "BuoyVoteModel" "fault" "I") (List.mem_of_getElem? (i := 48) rfl)) (fun _ h9 => h9) rfl dX12_readItems_52 ?_
      refine lv_iconst (v := (-1)) hx hb dX12_readItems_55 kc_iconst_m1 ?_
      refine lv_icmp_ne (tgt := 138) hx hb dX12_readItems_56 rfl (fun c_3 => ?_) (fun c_3 => ?_)
      · have hK9 := hK.sub (tys' := []) [] rfl
        exact W.vret hx hb hr (fun t ht hW => ⟨⟨(j45c_h0_f10, j45c_h0_f11, j45c_h2c), rfl, (Or.inr ⟨g_j45c_h0_f10, g_j45c_h0_f11, a_j45c_h2c, g_h0_f9⟩), by rw [ht]; exact hP, va_K.moved hW.alike hK9, hD⟩, hS.F ht⟩) hS.2.2 dX12_readItems_138
      · exact RG_dead (RG_eq1 g_j45c_h0_f11 (RG_k (-1) (-1) rfl) c_3 (a' := 0) (b' := (-1)) (by decide +kernel)) (by decide +kernel)
  have J45b : ∀ (n45b : Nat) (j45b_l6 : Int32) (j45b_l5 : Int32) (j45b_h0_f10 : Int32) (j45b_h2c : Nat → Int32) (hM45b : MU j45b_h0_f10 < n45b) (g_h0_f10 : RG h0_f10 0 240) (g_h0_f17 : RG h0_f17 0 1) (g_h0_f26 : RG h0_f26 0 8) (g_h0_f27 : RG h0_f27 0 3) (g_h0_f28 : RG h0_f28 0 8) (g_h0_f29 : RG h0_f29 0 3) (g_h0_f30 : RG h0_f30 0 4) (g_h0_f31 : RG h0_f31 0 1) (g_h0_f34 : RG h0_f34 (-1) 3) (g_h0_f41 : RG h0_f41 0 40) (g_h0_f51 : RG h0_f51 0 10) (g_h0_f53 : RG h0_f53 0 1) (g_h0_f6 : RG h0_f6 0 240) (g_h0_f7 : RG h0_f7 0 4) (g_h0_f8 : RG h0_f8 0 720) (g_h0_f9 : RG h0_f9 1 240) (g_j45b_h0_f10 : RG j45b_h0_f10 0 239) (g_j45b_l6 : RG j45b_l6 0 3) (g_p1 : RG p1 99 99) (g_p3 : RG p3 0 8) (a_j45b_h2c : AI j45b_h2c 0 99) (i_45b_h2 : BOi (p3.toInt + 4) j45b_h2c) (r_h0_f10_j45b_h0_f10 : h0_f10.toInt + 0 ≤ j45b_h0_f10.toInt) (H : Heap) (locs : List Loc) (ls : Array Slot) (hP : va_P (dC, dI) vwCl (wd_c_X12_readItems h0 h0_f0 h0_1 h0_2 h0_3 h0_4 h0_5 h0_f6 h0_f7 h0_f8 h0_f9 j45b_h0_f10 (-1) h0_f12 h0_f13 h0_f14 h0_15 h0_16 h0_f17 h0_18 h0_19 h0_20 h0_21 h0_22 h0_23 h0_24 h0_25 h0_f26 h0_f27 h0_f28 h0_f29 h0_f30 h0_f31 h0_32 h0_33 h0_f34 h0_35 h0_36 h0_37 h0_38 h0_39 h0_40 h0_f41 h0_f42 h0_f43 h0_f44 h0_45 h0_46 h0_47 h0_48 h0_49 h0_50 h0_f51 h0_52 h0_f53 h2 h2k j45b_h2c h0_5 h0_5k tN h0_5c) H) (hD : va_D A (wd_c_X12_readItems h0 h0_f0 h0_1 h0_2 h0_3 h0_4 h0_5 h0_f6 h0_f7 h0_f8 h0_f9 j45b_h0_f10 (-1) h0_f12 h0_f13 h0_f14 h0_15 h0_16 h0_f17 h0_18 h0_19 h0_20 h0_21 h0_22 h0_23 h0_24 h0_25 h0_f26 h0_f27 h0_f28 h0_f29 h0_f30 h0_f31 h0_32 h0_33 h0_f34 h0_35 h0_36 h0_37 h0_38 h0_39 h0_40 h0_f41 h0_f42 h0_f43 h0_f44 h0_45 h0_46 h0_47 h0_48 h0_49 h0_50 h0_f51 h0_52 h0_f53 h2 h2k j45b_h2c h0_5 h0_5k tN h0_5c)) (hS : va_S A s.heap H locs) (hl : lv_has ls 7 [(6, .int j45b_l6), (5, .int j45b_l5), (0, .ref h0), (1, .int p1), (2, .ref h2), (3, .int p3), (4, .ref ts10)]), G H locs (F0 m 45 ls []) := by
    as_aux_lemma =>
    intro n45b
    induction n45b with
    | zero => intros; exact absurd (by assumption) (Nat.not_lt_zero _)
    | succ n45b ih45b =>
      intro j45b_l6 j45b_l5 j45b_h0_f10 j45b_h2c hM45b g_h0_f10 g_h0_f17 g_h0_f26 g_h0_f27 g_h0_f28 g_h0_f29 g_h0_f30 g_h0_f31 g_h0_f34 g_h0_f41 g_h0_f51 g_h0_f53 g_h0_f6 g_h0_f7 g_h0_f8 g_h0_f9 g_j45b_h0_f10 g_j45b_l6 g_p1 g_p3 a_j45b_h2c i_45b_h2 r_h0_f10_j45b_h0_f10 H locs ls hP hD hS hl
      refine hG _ _ _ ?_
      refine lv_iload hx hb dX12_readItems_45 (lv_at hl 0 rfl) ?_
      refine lv_iconst (v := (-1)) hx hb dX12_readItems_47 kc_iconst_m1 ?_
      refine lv_icmp_eq (tgt := 138) hx hb dX12_readItems_48 rfl (fun c_4 => ?_) (fun c_4 => ?_)
      · exact RG_dead (RG_eq1 g_j45b_l6 (RG_k (-1) (-1) rfl) c_4 (a' := 0) (b' := (-1)) (by decide +kernel)) (by decide +kernel)
      · refine lv_aload_n hx hb dX12_readItems_51 rfl (lv_at hl 2 rfl) ?_
        refine va_get (D := (dC, dI)) (ci := 12) (v := .int (-1)) (C := RX12) (T := TX12) (N := 54) hx hb hts iw_c_X12_readItems_X12 hown hK hP 0 rfl rfl 11 (by decide +kernel) (hts (.fieldLink RX12 143 "BuoyVoteModel" "fault" "I") (List.mem_of_getElem? (i := 48) rfl)) (fun _ h9 => h9) rfl dX12_readItems_52 ?_
        refine lv_iconst (v := (-1)) hx hb dX12_readItems_55 kc_iconst_m1 ?_
        refine lv_icmp_ne (tgt := 138) hx hb dX12_readItems_56 rfl (fun c_5 => absurd c_5 (by decide +kernel)) (fun c_5 => ?_)
        as_aux_lemma =>
        by_cases c_6 : j45b_l6 = 0
        · subst c_6
          refine lv_iload hx hb dX12_readItems_59 (lv_at hl 1 rfl) ?_
          refine lv_iload hx hb dX12_readItems_61 (lv_at hl 0 rfl) ?_
          obtain ⟨hPc, hDc, hFc, hqc⟩ := cl_cut (wc := []) hP hD hS hA [] (by decide +kernel) rfl
          have hKc := hK.sub (tys' := []) [] rfl
          refine va_calli (va_runS (As := [.int j45b_l5, .int 0]) (rest := []) ⟨hx, hb, hml, hown, hts⟩ (c_X12_has_2 l dC dI H.size j45b_l5 0 (RG_w (RG_k 0 0 rfl) (by decide +kernel))) (va_cwS 2 hts gf_c_X12_readItems_c_X12_has_2 rfl rfl rfl md_X12_has ⟨Nat.le_of_ble_eq_true rfl, Nat.le_of_ble_eq_true rfl⟩) ⟨fun a U g mk q => by obtain ⟨q0, q1, qP, qK, qD⟩ := q; exact ⟨q0, q1, qP, va_K.moved (u := U) (U := U.calling g mk a) (Vm.Alike.refl U.vm) qK, qD⟩, fun U hU hW => ⟨rfl, by rw [hU], by rw [hU]; exact hPc, va_K.moved hW.alike hKc, hDc.weaken (fun _ _ _ _ => trivial)⟩⟩ rfl rfl hl.1 rfl (lv_room (Nat.le_of_ble_eq_true rfl)) dX12_readItems_63 ⟨Nat.le_of_ble_eq_true rfl, Nat.le_of_ble_eq_true rfl⟩) hS (fun q _ h => hFc q h) hFc (fun r_7 u t H1 locs ht hvm hw hB hz1 hk1 hS => ?_)
          obtain ⟨hP1, hK1, hD1⟩ := hB
          rw [ht] at hP1
          have hP := bv_still hP hk1
          generalize H1 = H at hP hS ⊢
          as_aux_lemma =>
          rcases hw with ⟨h_8, h_9⟩ | ⟨h_10, h_11⟩
          · rw [h_8]
            refine lv_if_eq (tgt := 75) hx hb dX12_readItems_66 rfl (fun c_12 => ?_) (fun c_12 => absurd c_12 (by decide +kernel))
            refine lv_iload hx hb dX12_readItems_75 (lv_at hl 1 rfl) ?_
            refine lv_iconst (v := 1) hx hb dX12_readItems_77 kc_iconst_1 ?_
            refine lv_iload hx hb dX12_readItems_78 (lv_at hl 0 rfl) ?_
            refine lv_ishl hx hb dX12_readItems_80 ?_
            refine lv_topi (fun x_13 ex_13 => ?_)
            obtain rfl : x_13 = 1 := ex_13.trans (by decide +kernel)
            refine lv_ior hx hb dX12_readItems_81 ?_
            refine lv_topi (fun x_14 ex_14 => ?_)
            refine lv_istore (lv' := [(5, .int x_14), (6, .int 0), (0, .ref h0), (1, .int p1), (2, .ref h2), (3, .int p3), (4, .ref ts10)]) hx hb dX12_readItems_82 hl (Nat.le_of_ble_eq_true rfl) rfl (fun ls hl => ?_)
            refine lv_aload_n hx hb dX12_readItems_84 rfl (lv_at hl 2 rfl) ?_
            refine lv_dup hx hb dX12_readItems_85 rfl ?_
            as_aux_lemma =>
            refine va_get (D := (dC, dI)) (ci := 12) (v := .int j45b_h0_f10) (C := RX12) (T := TX12) (N := 54) hx hb hts iw_c_X12_readItems_X12 hown hK hP 0 rfl rfl 10 (by decide +kernel) (hts (.fieldLink RX12 134 "BuoyVoteModel" "at" "I") (List.mem_of_getElem? (i := 21) rfl)) (fun _ h9 => h9) rfl dX12_readItems_86 ?_
            refine lv_iconst (v := 1) hx hb dX12_readItems_89 kc_iconst_1 ?_
            refine lv_iadd hx hb dX12_readItems_90 ?_
            refine lv_topi (fun x_15 ex_15 => ?_)
            have g_16 : RG x_15 1 240 := RG_add ex_15 g_j45b_h0_f10 (RG_k 1 1 rfl) (by decide +kernel)
            have q_17 : x_15.toInt = j45b_h0_f10.toInt + 1 := eq_add ex_15 g_j45b_h0_f10 (q := 1) rfl (by decide +kernel)
            refine va_put (D := (dC, dI)) (ci := 12) (v := .int x_15) (ty := .int) (C := RX12) (T := TX12) (N := 54) hx hb hts iw_c_X12_readItems_X12 tyX12 tyX12_ok nmX12 hown hK hP hD hS 0 rfl rfl 10 (by decide +kernel) (hts (.fieldLink RX12 134 "BuoyVoteModel" "at" "I") (List.mem_of_getElem? (i := 21) rfl)) (fun _ h9 => h9) rfl (by decide +kernel) rfl rfl (Nat.le_of_ble_eq_true rfl) dX12_readItems_91 (fun H locs hP hD hS => ?_)
            have hP : va_P (dC, dI) vwCl (wd_c_X12_readItems h0 h0_f0 h0_1 h0_2 h0_3 h0_4 h0_5 h0_f6 h0_f7 h0_f8 h0_f9 x_15 (-1) h0_f12 h0_f13 h0_f14 h0_15 h0_16 h0_f17 h0_18 h0_19 h0_20 h0_21 h0_22 h0_23 h0_24 h0_25 h0_f26 h0_f27 h0_f28 h0_f29 h0_f30 h0_f31 h0_32 h0_33 h0_f34 h0_35 h0_36 h0_37 h0_38 h0_39 h0_40 h0_f41 h0_f42 h0_f43 h0_f44 h0_45 h0_46 h0_47 h0_48 h0_49 h0_50 h0_f51 h0_52 h0_f53 h2 h2k j45b_h2c h0_5 h0_5k tN h0_5c) H := hP
            have hD : va_D A (wd_c_X12_readItems h0 h0_f0 h0_1 h0_2 h0_3 h0_4 h0_5 h0_f6 h0_f7 h0_f8 h0_f9 x_15 (-1) h0_f12 h0_f13 h0_f14 h0_15 h0_16 h0_f17 h0_18 h0_19 h0_20 h0_21 h0_22 h0_23 h0_24 h0_25 h0_f26 h0_f27 h0_f28 h0_f29 h0_f30 h0_f31 h0_32 h0_33 h0_f34 h0_35 h0_36 h0_37 h0_38 h0_39 h0_40 h0_f41 h0_f42 h0_f43 h0_f44 h0_45 h0_46 h0_47 h0_48 h0_49 h0_50 h0_f51 h0_52 h0_f53 h2 h2k j45b_h2c h0_5 h0_5k tN h0_5c) := hD
            refine lv_aload_n hx hb dX12_readItems_94 rfl (lv_at hl 4 rfl) ?_
            refine lv_iload_n hx hb dX12_readItems_95 rfl (lv_at hl 5 rfl) ?_
            refine lv_iload hx hb dX12_readItems_96 (lv_at hl 1 rfl) ?_
            refine lv_iadd hx hb dX12_readItems_98 ?_
            refine lv_topi (fun x_18 ex_18 => ?_)
            as_aux_lemma =>
            have g_19 : RG x_18 0 8 := RG_add ex_18 g_p3 (RG_k 0 0 rfl) (by decide +kernel)
            refine lv_aload_n hx hb dX12_readItems_99 rfl (lv_at hl 2 rfl) ?_
            refine lv_iload_n hx hb dX12_readItems_100 rfl (lv_at hl 3 rfl) ?_
            refine lv_iload hx hb dX12_readItems_101 (lv_at hl 1 rfl) ?_
            obtain ⟨hPc, hDc, hFc, hqc⟩ := cl_cut (wc := []) hP hD hS hA [] (by decide +kernel) rfl
            have hKc := hK.sub (tys' := []) [] rfl
            refine va_calli (va_runS (As := [.int p1, .int 0]) (rest := [.ref h0, .int x_18, .ref h2]) ⟨hx, hb, hml, hown, hts⟩ (c_X12_leastOf l dC dI H.size p1 0 g_p1 (RG_k 0 0 rfl)) (va_cwS 2 hts gf_c_X12_readItems_c_X12_leastOf rfl rfl rfl md_X12_leastOf ⟨Nat.le_of_ble_eq_true rfl, Nat.le_of_ble_eq_true rfl⟩) ⟨fun a U g mk q => by obtain ⟨q0, q1, qP, qK, qD⟩ := q; exact ⟨q0, q1, qP, va_K.moved (u := U) (U := U.calling g mk a) (Vm.Alike.refl U.vm) qK, qD⟩, fun U hU hW => ⟨rfl, by rw [hU], by rw [hU]; exact hPc, va_K.moved hW.alike hKc, hDc.weaken (fun _ _ _ _ => trivial)⟩⟩ rfl rfl hl.1 rfl (lv_room (Nat.le_of_ble_eq_true rfl)) dX12_readItems_103 ⟨Nat.le_of_ble_eq_true rfl, Nat.le_of_ble_eq_true rfl⟩) hS (fun q _ h => hFc q h) hFc (fun r_20 u t H1 locs ht hvm hw hB hz1 hk1 hS => ?_)
            obtain ⟨hP1, hK1, hD1⟩ := hB
            rw [ht] at hP1
            have hP := bv_still hP hk1
            generalize H1 = H at hP hS ⊢
            as_aux_lemma =>
            have h_21 := hw
            rw [h_21]
            refine lv_iload_n hx hb dX12_readItems_106 rfl (lv_at hl 3 rfl) ?_
            refine lv_iload hx hb dX12_readItems_107 (lv_at hl 1 rfl) ?_
            obtain ⟨hPc, hDc, hFc, hqc⟩ := cl_cut (wc := []) hP hD hS hA [] (by decide +kernel) rfl
            have hKc := hK.sub (tys' := []) [] rfl
            refine va_calli (va_runS (As := [.int p1, .int 0]) (rest := [.int 0, .ref h0, .int x_18, .ref h2]) ⟨hx, hb, hml, hown, hts⟩ (c_X12_mostOf l dC dI H.size p1 0 g_p1 (RG_k 0 0 rfl)) (va_cwS 2 hts gf_c_X12_readItems_c_X12_mostOf rfl rfl rfl md_X12_mostOf ⟨Nat.le_of_ble_eq_true rfl, Nat.le_of_ble_eq_true rfl⟩) ⟨fun a U g mk q => by obtain ⟨q0, q1, qP, qK, qD⟩ := q; exact ⟨q0, q1, qP, va_K.moved (u := U) (U := U.calling g mk a) (Vm.Alike.refl U.vm) qK, qD⟩, fun U hU hW => ⟨rfl, by rw [hU], by rw [hU]; exact hPc, va_K.moved hW.alike hKc, hDc.weaken (fun _ _ _ _ => trivial)⟩⟩ rfl rfl hl.1 rfl (lv_room (Nat.le_of_ble_eq_true rfl)) dX12_readItems_109 ⟨Nat.le_of_ble_eq_true rfl, Nat.le_of_ble_eq_true rfl⟩) hS (fun q _ h => hFc q h) hFc (fun r_22 u t H1 locs ht hvm hw hB hz1 hk1 hS => ?_)
            obtain ⟨hP1, hK1, hD1⟩ := hB
            rw [ht] at hP1
            have hP := bv_still hP hk1
            generalize H1 = H at hP hS ⊢
            as_aux_lemma =>
            have h_23 := hw
            rw [h_23]
            obtain ⟨hPc, hDc, hFc, hqc⟩ := cl_cut (wc := (wd_c_X12_number h0 h0_f0 h0_1 h0_2 h0_3 h0_4 h0_5 h0_f6 h0_f7 h0_f8 h0_f9 x_15 (-1) h0_f12 h0_f13 h0_f14 h0_15 h0_16 h0_f17 h0_18 h0_19 h0_20 h0_21 h0_22 h0_23 h0_24 h0_25 h0_f26 h0_f27 h0_f28 h0_f29 h0_f30 h0_f31 h0_32 h0_33 h0_f34 h0_35 h0_36 h0_37 h0_38 h0_39 h0_40 h0_f41 h0_f42 h0_f43 h0_f44 h0_45 h0_46 h0_47 h0_48 h0_49 h0_50 h0_f51 h0_52 h0_f53 h0_5 h0_5k tN h0_5c)) hP hD hS hA [0, 2] (by decide +kernel) rfl
            have hKc := hK.sub (tys' := [(h0_5k, .byte)]) [1] rfl
            have hrv := va_recv hKc hPc (ci := 12) (q0 := 0) rfl rfl
            refine va_calli (va_runV (As := [.int 0, .int 9]) (rest := [.int x_18, .ref h2]) ⟨hx, hb, hml, hown, hts⟩ (c_X12_number l dC dI H.size h0 h0_f0 h0_1 h0_2 h0_3 h0_4 h0_5 h0_f6 h0_f7 h0_f8 h0_f9 x_15 h0_f12 h0_f13 h0_f14 h0_15 h0_16 h0_f17 h0_18 h0_19 h0_20 h0_21 h0_22 h0_23 h0_24 h0_25 h0_f26 h0_f27 h0_f28 h0_f29 h0_f30 h0_f31 h0_32 h0_33 h0_f34 h0_35 h0_36 h0_37 h0_38 h0_39 h0_40 h0_f41 h0_f42 h0_f43 h0_f44 h0_45 h0_46 h0_47 h0_48 h0_49 h0_50 h0_f51 h0_52 h0_f53 h0_5k h0_5c tN g_h0_f6 g_h0_f7 g_h0_f8 (RG_w g_h0_f9 (by decide +kernel)) (RG_w g_16 (by decide +kernel)) g_h0_f17 g_h0_f26 g_h0_f27 g_h0_f28 g_h0_f29 g_h0_f30 g_h0_f31 g_h0_f34 g_h0_f41 g_h0_f51 g_h0_f53 htN) (cwV 2 hts gf_c_X12_readItems_c_X12_number rfl rfl rfl mdV_X12_number ⟨Nat.le_of_ble_eq_true rfl, Nat.le_of_ble_eq_true rfl⟩) ⟨fun a U g mk q => by obtain ⟨q0, q1, qP, qK, qD⟩ := q; exact ⟨q0, q1, qP, va_K.moved (u := U) (U := U.calling g mk a) (Vm.Alike.refl U.vm) qK, qD⟩, hrv, fun U hU hW => ⟨rfl, by rw [hU], by rw [hU]; exact hPc, va_K.moved hW.alike hKc, hDc.weaken (fun _ _ _ _ => trivial)⟩⟩ rfl rfl hl.1 rfl (lv_room (Nat.le_of_ble_eq_true rfl)) dX12_readItems_112 ⟨Nat.le_of_ble_eq_true rfl, Nat.le_of_ble_eq_true rfl⟩) hS (fun q _ h => hFc q h) hFc (fun r_24 u t H1 locs ht hvm hw hB hz1 hk1 hS => ?_)
            obtain ⟨x_25, x_26⟩ := u
            obtain ⟨hP1, hK1, hD1⟩ := hB
            rw [ht] at hP1
            obtain ⟨hP, hD⟩ := cl_put (w1 := (wd_c_X12_number h0 h0_f0 h0_1 h0_2 h0_3 h0_4 h0_5 h0_f6 h0_f7 h0_f8 h0_f9 x_25 x_26 h0_f12 h0_f13 h0_f14 h0_15 h0_16 h0_f17 h0_18 h0_19 h0_20 h0_21 h0_22 h0_23 h0_24 h0_25 h0_f26 h0_f27 h0_f28 h0_f29 h0_f30 h0_f31 h0_32 h0_33 h0_f34 h0_35 h0_36 h0_37 h0_38 h0_39 h0_40 h0_f41 h0_f42 h0_f43 h0_f44 h0_45 h0_46 h0_47 h0_48 h0_49 h0_50 h0_f51 h0_52 h0_f53 h0_5 h0_5k tN h0_5c)) (nw := (wd_c_X12_readItems h0 h0_f0 h0_1 h0_2 h0_3 h0_4 h0_5 h0_f6 h0_f7 h0_f8 h0_f9 x_25 x_26 h0_f12 h0_f13 h0_f14 h0_15 h0_16 h0_f17 h0_18 h0_19 h0_20 h0_21 h0_22 h0_23 h0_24 h0_25 h0_f26 h0_f27 h0_f28 h0_f29 h0_f30 h0_f31 h0_32 h0_33 h0_f34 h0_35 h0_36 h0_37 h0_38 h0_39 h0_40 h0_f41 h0_f42 h0_f43 h0_f44 h0_45 h0_46 h0_47 h0_48 h0_49 h0_50 h0_f51 h0_52 h0_f53 h2 h2k j45b_h2c h0_5 h0_5k tN h0_5c)) hP hD [0, 2] [3, 1, 4] 3 rfl hqc (by decide +kernel) rfl hk1 hFc hP1 hD1
            generalize H1 = H at hP hS ⊢
            as_aux_lemma =>
            rcases hw with ⟨h_27, h_28, h_29, h_30⟩ | ⟨h_31, h_32, h_33, h_34⟩ | ⟨h_35, h_36, h_37, h_38, h_39⟩
            · rw [h_27]
              have h_30 : x_15.toInt + 0 ≤ x_25.toInt := h_30
              refine va_iast hx hb hK hP hD hS 1 0 rfl rfl (RG_in g_19 (by decide +kernel)) dX12_readItems_115 (fun H locs hP hD hS => ?_)
              have hP : va_P (dC, dI) vwCl (wd_c_X12_readItems h0 h0_f0 h0_1 h0_2 h0_3 h0_4 h0_5 h0_f6 h0_f7 h0_f8 h0_f9 x_25 x_26 h0_f12 h0_f13 h0_f14 h0_15 h0_16 h0_f17 h0_18 h0_19 h0_20 h0_21 h0_22 h0_23 h0_24 h0_25 h0_f26 h0_f27 h0_f28 h0_f29 h0_f30 h0_f31 h0_32 h0_33 h0_f34 h0_35 h0_36 h0_37 h0_38 h0_39 h0_40 h0_f41 h0_f42 h0_f43 h0_f44 h0_45 h0_46 h0_47 h0_48 h0_49 h0_50 h0_f51 h0_52 h0_f53 h2 h2k (upd j45b_h2c (x_18 : Int32).toNatClampNeg 0) h0_5 h0_5k tN h0_5c) H := hP
              have hD : va_D A (wd_c_X12_readItems h0 h0_f0 h0_1 h0_2 h0_3 h0_4 h0_5 h0_f6 h0_f7 h0_f8 h0_f9 x_25 x_26 h0_f12 h0_f13 h0_f14 h0_15 h0_16 h0_f17 h0_18 h0_19 h0_20 h0_21 h0_22 h0_23 h0_24 h0_25 h0_f26 h0_f27 h0_f28 h0_f29 h0_f30 h0_f31 h0_32 h0_33 h0_f34 h0_35 h0_36 h0_37 h0_38 h0_39 h0_40 h0_f41 h0_f42 h0_f43 h0_f44 h0_45 h0_46 h0_47 h0_48 h0_49 h0_50 h0_f51 h0_52 h0_f53 h2 h2k (upd j45b_h2c (x_18 : Int32).toNatClampNeg 0) h0_5 h0_5k tN h0_5c) := hD
              have l_41 : (upd j45b_h2c (x_18 : Int32).toNatClampNeg 0) (x_18 : Int32).toNatClampNeg = 0 := pk_us
              have i_42 : BOi (p3.toInt + 4) (upd j45b_h2c (x_18 : Int32).toNatClampNeg 0) := BOi_keep i_45b_h2 g_19 (by decide +kernel) (Or.inr (Or.inl (by have := hrow; have := eq_add ex_18 g_p3 (q := 0) rfl (by decide +kernel); omega)))
              have a_43 : AI (upd j45b_h2c (x_18 : Int32).toNatClampNeg 0) 0 99 := AI_up a_j45b_h2c (RG_k 0 0 rfl) (by decide +kernel)
              generalize (upd j45b_h2c (x_18 : Int32).toNatClampNeg 0) = w_40 at hP hD a_43 l_41 i_42
              have hP : va_P (dC, dI) vwCl (wd_c_X12_readItems h0 h0_f0 h0_1 h0_2 h0_3 h0_4 h0_5 h0_f6 h0_f7 h0_f8 h0_f9 x_25 x_26 h0_f12 h0_f13 h0_f14 h0_15 h0_16 h0_f17 h0_18 h0_19 h0_20 h0_21 h0_22 h0_23 h0_24 h0_25 h0_f26 h0_f27 h0_f28 h0_f29 h0_f30 h0_f31 h0_32 h0_33 h0_f34 h0_35 h0_36 h0_37 h0_38 h0_39 h0_40 h0_f41 h0_f42 h0_f43 h0_f44 h0_45 h0_46 h0_47 h0_48 h0_49 h0_50 h0_f51 h0_52 h0_f53 h2 h2k w_40 h0_5 h0_5k tN h0_5c) H := hP
              have hD : va_D A (wd_c_X12_readItems h0 h0_f0 h0_1 h0_2 h0_3 h0_4 h0_5 h0_f6 h0_f7 h0_f8 h0_f9 x_25 x_26 h0_f12 h0_f13 h0_f14 h0_15 h0_16 h0_f17 h0_18 h0_19 h0_20 h0_21 h0_22 h0_23 h0_24 h0_25 h0_f26 h0_f27 h0_f28 h0_f29 h0_f30 h0_f31 h0_32 h0_33 h0_f34 h0_35 h0_36 h0_37 h0_38 h0_39 h0_40 h0_f41 h0_f42 h0_f43 h0_f44 h0_45 h0_46 h0_47 h0_48 h0_49 h0_50 h0_f51 h0_52 h0_f53 h2 h2k w_40 h0_5 h0_5k tN h0_5c) := hD
              refine lv_aload_n hx hb dX12_readItems_116 rfl (lv_at hl 2 rfl) ?_
              refine va_get (D := (dC, dI)) (ci := 12) (v := .int x_26) (C := RX12) (T := TX12) (N := 54) hx hb hts iw_c_X12_readItems_X12 hown hK hP 0 rfl rfl 11 (by decide +kernel) (hts (.fieldLink RX12 143 "BuoyVoteModel" "fault" "I") (List.mem_of_getElem? (i := 48) rfl)) (fun _ h9 => h9) rfl dX12_readItems_117 ?_
              as_aux_lemma =>
              refine lv_iconst (v := (-1)) hx hb dX12_readItems_120 kc_iconst_m1 ?_
              refine lv_icmp_ne (tgt := 45) hx hb dX12_readItems_121 rfl (fun c_44 => ?_) (fun c_44 => ?_)
              · exact hU _ _ _ (J45c x_14 0 x_25 x_26 w_40 g_h0_f10 g_h0_f17 g_h0_f26 g_h0_f27 g_h0_f28 g_h0_f29 g_h0_f30 g_h0_f31 g_h0_f34 g_h0_f41 g_h0_f51 g_h0_f53 g_h0_f6 g_h0_f7 g_h0_f8 g_h0_f9 h_28 h_29 (RG_w (RG_k 0 0 rfl) (by decide +kernel)) g_p1 g_p3 a_43 _ _ _ hP hD hS (lv_sub hl [0, 1, 2, 3, 4, 5, 6] rfl))
              · exact RG_dead (RG_eq1 h_29 (RG_k (-1) (-1) rfl) c_44 (a' := 0) (b' := (-1)) (by decide +kernel)) (by decide +kernel)
            · refine va_iast hx hb hK hP hD hS 1 0 rfl rfl (RG_in g_19 (by decide +kernel)) dX12_readItems_115 (fun H locs hP hD hS => ?_)
              have hP : va_P (dC, dI) vwCl (wd_c_X12_readItems h0 h0_f0 h0_1 h0_2 h0_3 h0_4 h0_5 h0_f6 h0_f7 h0_f8 h0_f9 x_25 x_26 h0_f12 h0_f13 h0_f14 h0_15 h0_16 h0_f17 h0_18 h0_19 h0_20 h0_21 h0_22 h0_23 h0_24 h0_25 h0_f26 h0_f27 h0_f28 h0_f29 h0_f30 h0_f31 h0_32 h0_33 h0_f34 h0_35 h0_36 h0_37 h0_38 h0_39 h0_40 h0_f41 h0_f42 h0_f43 h0_f44 h0_45 h0_46 h0_47 h0_48 h0_49 h0_50 h0_f51 h0_52 h0_f53 h2 h2k (upd j45b_h2c (x_18 : Int32).toNatClampNeg r_24) h0_5 h0_5k tN h0_5c) H := hP
              have hD : va_D A (wd_c_X12_readItems h0 h0_f0 h0_1 h0_2 h0_3 h0_4 h0_5 h0_f6 h0_f7 h0_f8 h0_f9 x_25 x_26 h0_f12 h0_f13 h0_f14 h0_15 h0_16 h0_f17 h0_18 h0_19 h0_20 h0_21 h0_22 h0_23 h0_24 h0_25 h0_f26 h0_f27 h0_f28 h0_f29 h0_f30 h0_f31 h0_32 h0_33 h0_f34 h0_35 h0_36 h0_37 h0_38 h0_39 h0_40 h0_f41 h0_f42 h0_f43 h0_f44 h0_45 h0_46 h0_47 h0_48 h0_49 h0_50 h0_f51 h0_52 h0_f53 h2 h2k (upd j45b_h2c (x_18 : Int32).toNatClampNeg r_24) h0_5 h0_5k tN h0_5c) := hD
              have l_46 : (upd j45b_h2c (x_18 : Int32).toNatClampNeg r_24) (x_18 : Int32).toNatClampNeg = r_24 := pk_us
              have i_47 : BOi (p3.toInt + 4) (upd j45b_h2c (x_18 : Int32).toNatClampNeg r_24) := BOi_keep i_45b_h2 g_19 (by decide +kernel) (Or.inl (RG_w h_31 (by decide +kernel)))
              have a_48 : AI (upd j45b_h2c (x_18 : Int32).toNatClampNeg r_24) 0 99 := AI_up a_j45b_h2c h_31 (by decide +kernel)
              generalize (upd j45b_h2c (x_18 : Int32).toNatClampNeg r_24) = w_45 at hP hD a_48 l_46 i_47
              have hP : va_P (dC, dI) vwCl (wd_c_X12_readItems h0 h0_f0 h0_1 h0_2 h0_3 h0_4 h0_5 h0_f6 h0_f7 h0_f8 h0_f9 x_25 x_26 h0_f12 h0_f13 h0_f14 h0_15 h0_16 h0_f17 h0_18 h0_19 h0_20 h0_21 h0_22 h0_23 h0_24 h0_25 h0_f26 h0_f27 h0_f28 h0_f29 h0_f30 h0_f31 h0_32 h0_33 h0_f34 h0_35 h0_36 h0_37 h0_38 h0_39 h0_40 h0_f41 h0_f42 h0_f43 h0_f44 h0_45 h0_46 h0_47 h0_48 h0_49 h0_50 h0_f51 h0_52 h0_f53 h2 h2k w_45 h0_5 h0_5k tN h0_5c) H := hP
              have hD : va_D A (wd_c_X12_readItems h0 h0_f0 h0_1 h0_2 h0_3 h0_4 h0_5 h0_f6 h0_f7 h0_f8 h0_f9 x_25 x_26 h0_f12 h0_f13 h0_f14 h0_15 h0_16 h0_f17 h0_18 h0_19 h0_20 h0_21 h0_22 h0_23 h0_24 h0_25 h0_f26 h0_f27 h0_f28 h0_f29 h0_f30 h0_f31 h0_32 h0_33 h0_f34 h0_35 h0_36 h0_37 h0_38 h0_39 h0_40 h0_f41 h0_f42 h0_f43 h0_f44 h0_45 h0_46 h0_47 h0_48 h0_49 h0_50 h0_f51 h0_52 h0_f53 h2 h2k w_45 h0_5 h0_5k tN h0_5c) := hD
              refine lv_aload_n hx hb dX12_readItems_116 rfl (lv_at hl 2 rfl) ?_
              as_aux_lemma =>
              refine va_get (D := (dC, dI)) (ci := 12) (v := .int x_26) (C := RX12) (T := TX12) (N := 54) hx hb hts iw_c_X12_readItems_X12 hown hK hP 0 rfl rfl 11 (by decide +kernel) (hts (.fieldLink RX12 143 "BuoyVoteModel" "fault" "I") (List.mem_of_getElem? (i := 48) rfl)) (fun _ h9 => h9) rfl dX12_readItems_117 ?_
              refine lv_iconst (v := (-1)) hx hb dX12_readItems_120 kc_iconst_m1 ?_
              refine lv_icmp_ne (tgt := 45) hx hb dX12_readItems_121 rfl (fun c_49 => ?_) (fun c_49 => ?_)
              · exact hU _ _ _ (J45c x_14 0 x_25 x_26 w_45 g_h0_f10 g_h0_f17 g_h0_f26 g_h0_f27 g_h0_f28 g_h0_f29 g_h0_f30 g_h0_f31 g_h0_f34 g_h0_f41 g_h0_f51 g_h0_f53 g_h0_f6 g_h0_f7 g_h0_f8 g_h0_f9 (RG_w h_32 (by decide +kernel)) (RG_w h_33 (by decide +kernel)) (RG_w (RG_k 0 0 rfl) (by decide +kernel)) g_p1 g_p3 a_48 _ _ _ hP hD hS (lv_sub hl [0, 1, 2, 3, 4, 5, 6] rfl))
              · exact RG_dead (RG_eq1 h_33 (RG_k (-1) (-1) rfl) c_49 (a' := 0) (b' := (-1)) (by decide +kernel)) (by decide +kernel)
            · subst h_37
              have h_39 : x_15.toInt + 1 ≤ x_25.toInt := h_39
              refine va_iast hx hb hK hP hD hS 1 0 rfl rfl (RG_in g_19 (by decide +kernel)) dX12_readItems_115 (fun H locs hP hD hS => ?_)
              have hP : va_P (dC, dI) vwCl (wd_c_X12_readItems h0 h0_f0 h0_1 h0_2 h0_3 h0_4 h0_5 h0_f6 h0_f7 h0_f8 h0_f9 x_25 (-1) h0_f12 h0_f13 h0_f14 h0_15 h0_16 h0_f17 h0_18 h0_19 h0_20 h0_21 h0_22 h0_23 h0_24 h0_25 h0_f26 h0_f27 h0_f28 h0_f29 h0_f30 h0_f31 h0_32 h0_33 h0_f34 h0_35 h0_36 h0_37 h0_38 h0_39 h0_40 h0_f41 h0_f42 h0_f43 h0_f44 h0_45 h0_46 h0_47 h0_48 h0_49 h0_50 h0_f51 h0_52 h0_f53 h2 h2k (upd j45b_h2c (x_18 : Int32).toNatClampNeg r_24) h0_5 h0_5k tN h0_5c) H := hP
              have hD : va_D A (wd_c_X12_readItems h0 h0_f0 h0_1 h0_2 h0_3 h0_4 h0_5 h0_f6 h0_f7 h0_f8 h0_f9 x_25 (-1) h0_f12 h0_f13 h0_f14 h0_15 h0_16 h0_f17 h0_18 h0_19 h0_20 h0_21 h0_22 h0_23 h0_24 h0_25 h0_f26 h0_f27 h0_f28 h0_f29 h0_f30 h0_f31 h0_32 h0_33 h0_f34 h0_35 h0_36 h0_37 h0_38 h0_39 h0_40 h0_f41 h0_f42 h0_f43 h0_f44 h0_45 h0_46 h0_47 h0_48 h0_49 h0_50 h0_f51 h0_52 h0_f53 h2 h2k (upd j45b_h2c (x_18 : Int32).toNatClampNeg r_24) h0_5 h0_5k tN h0_5c) := hD
              have l_51 : (upd j45b_h2c (x_18 : Int32).toNatClampNeg r_24) (x_18 : Int32).toNatClampNeg = r_24 := pk_us
              have i_52 : BOi (p3.toInt + 4) (upd j45b_h2c (x_18 : Int32).toNatClampNeg r_24) := BOi_keep i_45b_h2 g_19 (by decide +kernel) (Or.inr (Or.inl (by have := hrow; have := eq_add ex_18 g_p3 (q := 0) rfl (by decide +kernel); omega)))
              have a_53 : AI (upd j45b_h2c (x_18 : Int32).toNatClampNeg r_24) 0 99 := AI_up a_j45b_h2c h_35 (by decide +kernel)
              generalize (upd j45b_h2c (x_18 : Int32).toNatClampNeg r_24) = w_50 at hP hD a_53 l_51 i_52
              have hP : va_P (dC, dI) vwCl (wd_c_X12_readItems h0 h0_f0 h0_1 h0_2 h0_3 h0_4 h0_5 h0_f6 h0_f7 h0_f8 h0_f9 x_25 (-1) h0_f12 h0_f13 h0_f14 h0_15 h0_16 h0_f17 h0_18 h0_19 h0_20 h0_21 h0_22 h0_23 h0_24 h0_25 h0_f26 h0_f27 h0_f28 h0_f29 h0_f30 h0_f31 h0_32 h0_33 h0_f34 h0_35 h0_36 h0_37 h0_38 h0_39 h0_40 h0_f41 h0_f42 h0_f43 h0_f44 h0_45 h0_46 h0_47 h0_48 h0_49 h0_50 h0_f51 h0_52 h0_f53 h2 h2k w_50 h0_5 h0_5k tN h0_5c) H := hP
              have hD : va_D A (wd_c_X12_readItems h0 h0_f0 h0_1 h0_2 h0_3 h0_4 h0_5 h0_f6 h0_f7 h0_f8 h0_f9 x_25 (-1) h0_f12 h0_f13 h0_f14 h0_15 h0_16 h0_f17 h0_18 h0_19 h0_20 h0_21 h0_22 h0_23 h0_24 h0_25 h0_f26 h0_f27 h0_f28 h0_f29 h0_f30 h0_f31 h0_32 h0_33 h0_f34 h0_35 h0_36 h0_37 h0_38 h0_39 h0_40 h0_f41 h0_f42 h0_f43 h0_f44 h0_45 h0_46 h0_47 h0_48 h0_49 h0_50 h0_f51 h0_52 h0_f53 h2 h2k w_50 h0_5 h0_5k tN h0_5c) := hD
              refine lv_aload_n hx hb dX12_readItems_116 rfl (lv_at hl 2 rfl) ?_
              as_aux_lemma =>
              refine va_get (D := (dC, dI)) (ci := 12) (v := .int (-1)) (C := RX12) (T := TX12) (N := 54) hx hb hts iw_c_X12_readItems_X12 hown hK hP 0 rfl rfl 11 (by decide +kernel) (hts (.fieldLink RX12 143 "BuoyVoteModel" "fault" "I") (List.mem_of_getElem? (i := 48) rfl)) (fun _ h9 => h9) rfl dX12_readItems_117 ?_
              refine lv_iconst (v := (-1)) hx hb dX12_readItems_120 kc_iconst_m1 ?_
              refine lv_icmp_ne (tgt := 45) hx hb dX12_readItems_121 rfl (fun c_54 => absurd c_54 (by decide +kernel)) (fun c_54 => ?_)
              refine lv_aload hx hb dX12_readItems_124 (lv_at hl 6 rfl) ?_
              refine lv_aload_n hx hb dX12_readItems_126 rfl (lv_at hl 2 rfl) ?_
              obtain ⟨hPc, hDc, hFc, hqc⟩ := cl_cut (wc := (wd_c_X12_look h0 h0_f0 h0_1 h0_2 h0_3 h0_4 h0_5 h0_f6 h0_f7 h0_f8 h0_f9 x_25 (-1) h0_f12 h0_f13 h0_f14 h0_15 h0_16 h0_f17 h0_18 h0_19 h0_20 h0_21 h0_22 h0_23 h0_24 h0_25 h0_f26 h0_f27 h0_f28 h0_f29 h0_f30 h0_f31 h0_32 h0_33 h0_f34 h0_35 h0_36 h0_37 h0_38 h0_39 h0_40 h0_f41 h0_f42 h0_f43 h0_f44 h0_45 h0_46 h0_47 h0_48 h0_49 h0_50 h0_f51 h0_52 h0_f53 h0_5 h0_5k tN h0_5c)) hP hD hS hA [0, 2] (by decide +kernel) rfl
              have hKc := hK.sub (tys' := [(h0_5k, .byte)]) [1] rfl
              have hrv := va_recv hKc hPc (ci := 12) (q0 := 0) rfl rfl
              refine va_calli (va_runV (As := []) (rest := [.ref ts10]) ⟨hx, hb, hml, hown, hts⟩ (c_X12_look l dC dI H.size h0 h0_f0 h0_1 h0_2 h0_3 h0_4 h0_5 h0_f6 h0_f7 h0_f8 h0_f9 x_25 h0_f12 h0_f13 h0_f14 h0_15 h0_16 h0_f17 h0_18 h0_19 h0_20 h0_21 h0_22 h0_23 h0_24 h0_25 h0_f26 h0_f27 h0_f28 h0_f29 h0_f30 h0_f31 h0_32 h0_33 h0_f34 h0_35 h0_36 h0_37 h0_38 h0_39 h0_40 h0_f41 h0_f42 h0_f43 h0_f44 h0_45 h0_46 h0_47 h0_48 h0_49 h0_50 h0_f51 h0_52 h0_f53 h0_5k h0_5c tN g_h0_f6 g_h0_f7 g_h0_f8 (RG_w g_h0_f9 (by decide +kernel)) (RG_w h_36 (by decide +kernel)) g_h0_f17 g_h0_f26 g_h0_f27 g_h0_f28 g_h0_f29 g_h0_f30 g_h0_f31 g_h0_f34 g_h0_f41 g_h0_f51 g_h0_f53 htN) (cwV 0 hts gf_c_X12_readItems_c_X12_look rfl rfl rfl mdV_X12_look ⟨Nat.le_of_ble_eq_true rfl, Nat.le_of_ble_eq_true rfl⟩) ⟨fun a U g mk q => by obtain ⟨q0, q1, qP, qK, qD⟩ := q; exact ⟨q0, q1, qP, va_K.moved (u := U) (U := U.calling g mk a) (Vm.Alike.refl U.vm) qK, qD⟩, hrv, fun U hU hW => ⟨rfl, by rw [hU], by rw [hU]; exact hPc, va_K.moved hW.alike hKc, hDc.weaken (fun _ _ _ _ => trivial)⟩⟩ rfl rfl hl.1 rfl (lv_room (Nat.le_of_ble_eq_true rfl)) dX12_readItems_127 ⟨Nat.le_of_ble_eq_true rfl, Nat.le_of_ble_eq_true rfl⟩) hS (fun q _ h => hFc q h) hFc (fun r_55 x_56 t H1 locs ht hvm hw hB hz1 hk1 hS => ?_)
              obtain ⟨hP1, hK1, hD1⟩ := hB
              rw [ht] at hP1
              obtain ⟨hP, hD⟩ := cl_put (w1 := (wd_c_X12_look h0 h0_f0 h0_1 h0_2 h0_3 h0_4 h0_5 h0_f6 h0_f7 h0_f8 h0_f9 x_56 (-1) h0_f12 h0_f13 h0_f14 h0_15 h0_16 h0_f17 h0_18 h0_19 h0_20 h0_21 h0_22 h0_23 h0_24 h0_25 h0_f26 h0_f27 h0_f28 h0_f29 h0_f30 h0_f31 h0_32 h0_33 h0_f34 h0_35 h0_36 h0_37 h0_38 h0_39 h0_40 h0_f41 h0_f42 h0_f43 h0_f44 h0_45 h0_46 h0_47 h0_48 h0_49 h0_50 h0_f51 h0_52 h0_f53 h0_5 h0_5k tN h0_5c)) (nw := (wd_c_X12_readItems h0 h0_f0 h0_1 h0_2 h0_3 h0_4 h0_5 h0_f6 h0_f7 h0_f8 h0_f9 x_56 (-1) h0_f12 h0_f13 h0_f14 h0_15 h0_16 h0_f17 h0_18 h0_19 h0_20 h0_21 h0_22 h0_23 h0_24 h0_25 h0_f26 h0_f27 h0_f28 h0_f29 h0_f30 h0_f31 h0_32 h0_33 h0_f34 h0_35 h0_36 h0_37 h0_38 h0_39 h0_40 h0_f41 h0_f42 h0_f43 h0_f44 h0_45 h0_46 h0_47 h0_48 h0_49 h0_50 h0_f51 h0_52 h0_f53 h2 h2k w_50 h0_5 h0_5k tN h0_5c)) hP hD [0, 2] [3, 1, 4] 3 rfl hqc (by decide +kernel) rfl hk1 hFc hP1 hD1
              generalize H1 = H at hP hS ⊢
              as_aux_lemma =>
              rcases hw with ⟨h_57, h_58, h_59, h_60, h_61⟩ | ⟨h_62, h_63, h_64, h_65, h_66, h_67⟩
              · rw [h_57]
                obtain ⟨hPc, hDc, hFc, hqc⟩ := cl_cut (wc := []) hP hD hS hA [] (by decide +kernel) rfl
                have hKc := hK.sub (tys' := []) [] rfl
                refine va_calli (va_runS (As := [.ref ts10, .int (-1)]) (rest := []) ⟨hx, hb, hml, hown, hts⟩ (c_X12_spotOf l dC dI H.size ts10 tv10) (va_cwS 2 hts gf_c_X12_readItems_c_X12_spotOf rfl rfl rfl md_X12_spotOf ⟨Nat.le_of_ble_eq_true rfl, Nat.le_of_ble_eq_true rfl⟩) ⟨fun a U g mk q => by obtain ⟨q0, q1, qP, qK, qD, qE0, qE1, qE2, qE3, qE4, qE5⟩ := q; exact ⟨q0, q1, qP, va_K.moved (u := U) (U := U.calling g mk a) (Vm.Alike.refl U.vm) qK, qD, va_OF.moved (u := U) (U := U.calling g mk a) (Vm.Alike.refl U.vm) qE0, va_T.moved (u := U) (U := U.calling g mk a) (Vm.Alike.refl U.vm) qE1, va_Z.moved (u := U) (U := U.calling g mk a) (Vm.Alike.refl U.vm) qE2, va_OF.moved (u := U) (U := U.calling g mk a) (Vm.Alike.refl U.vm) qE3, va_O.moved (u := U) (U := U.calling g mk a) (Vm.Alike.refl U.vm) qE4, va_Zq.moved (u := U) (U := U.calling g mk a) (Vm.Alike.refl U.vm) qE5⟩, fun U hU hW => ⟨rfl, by rw [hU], by rw [hU]; exact hPc, va_K.moved hW.alike hKc, hDc.weaken (fun _ _ _ _ => trivial), va_OF.moved hW.alike (by rw [hU]; exact (hE_65.kept hS.2.1).narrow hFc), va_T.moved hW.alike (by rw [hU]; exact (hE_66.kept hS.2.1).narrow hFc), va_Z.moved hW.alike (by rw [hU]; exact (hE_10.kept hS.2.1).narrow hFc), va_OF.moved hW.alike (by rw [hU]; exact (hE_64.kept hS.2.1).narrow hFc), va_O.moved hW.alike (by rw [hU]; exact (hE_63.kept hS.2.1).narrow hFc), va_Zq.moved hW.alike (by rw [hU]; exact (hE_11.kept hS.2.1).narrow hFc)⟩⟩ rfl rfl hl.1 rfl (lv_room (Nat.le_of_ble_eq_true rfl)) dX12_readItems_130 ⟨Nat.le_of_ble_eq_true rfl, Nat.le_of_ble_eq_true rfl⟩) hS (fun q _ h => hFc q h) hFc (fun r_68 u t H1 locs ht hvm hw hB hz1 hk1 hS => ?_)
                obtain ⟨hP1, hK1, hD1⟩ := hB
                rw [ht] at hP1
                have hP := bv_still hP hk1
                generalize H1 = H at hP hS ⊢
                as_aux_lemma =>
                have h_69 := hw
                rw [h_69]
                refine lv_istore (lv' := [(6, .int (-1)), (5, .int x_14), (0, .ref h0), (1, .int p1), (2, .ref h2), (3, .int p3), (4, .ref ts10)]) hx hb dX12_readItems_133 hl (Nat.le_of_ble_eq_true rfl) rfl (fun ls hl => ?_)
                refine lv_goto (tgt := 45) hx hb dX12_readItems_135 rfl ?_
                exact hU _ _ _ (J45 x_14 x_56 w_50 g_h0_f10 g_h0_f17 g_h0_f26 g_h0_f27 g_h0_f28 g_h0_f29 g_h0_f30 g_h0_f31 g_h0_f34 g_h0_f41 g_h0_f51 g_h0_f53 g_h0_f6 g_h0_f7 g_h0_f8 (RG_w g_h0_f9 (by decide +kernel)) h_58 g_p1 g_p3 a_53 i_52 (by have := r_h0_f10_j45b_h0_f10; have := q_17; have := h_39; have := h_59; omega) _ _ _ hP hD hS (lv_sub hl [0, 1, 2, 3, 4, 5, 6] rfl))
              · have nb_70 := h_67.2.resolve_left (fun q => by have g9 := h_62; rw [q] at g9; exact absurd g9.1 (by decide +kernel))
                obtain ⟨hPc, hDc, hFc, hqc⟩ := cl_cut (wc := []) hP hD hS hA [] (by decide +kernel) rfl
                have hKc := hK.sub (tys' := []) [] rfl
                refine va_calli (va_runS (As := [.ref ts10, .int r_55]) (rest := []) ⟨hx, hb, hml, hown, hts⟩ (c_X12_spotOf_1 l dC dI H.size ts10 r_55 tv10 h_62) (va_cwS 2 hts gf_c_X12_readItems_c_X12_spotOf_1 rfl rfl rfl md_X12_spotOf ⟨Nat.le_of_ble_eq_true rfl, Nat.le_of_ble_eq_true rfl⟩) ⟨fun a U g mk q => by obtain ⟨q0, q1, qP, qK, qD, qE0, qE1, qE2, qE3, qE4, qE5⟩ := q; exact ⟨q0, q1, qP, va_K.moved (u := U) (U := U.calling g mk a) (Vm.Alike.refl U.vm) qK, qD, va_OF.moved (u := U) (U := U.calling g mk a) (Vm.Alike.refl U.vm) qE0, va_T.moved (u := U) (U := U.calling g mk a) (Vm.Alike.refl U.vm) qE1, va_Z.moved (u := U) (U := U.calling g mk a) (Vm.Alike.refl U.vm) qE2, va_OF.moved (u := U) (U := U.calling g mk a) (Vm.Alike.refl U.vm) qE3, va_O.moved (u := U) (U := U.calling g mk a) (Vm.Alike.refl U.vm) qE4, va_Zq.moved (u := U) (U := U.calling g mk a) (Vm.Alike.refl U.vm) qE5⟩, fun U hU hW => ⟨rfl, by rw [hU], by rw [hU]; exact hPc, va_K.moved hW.alike hKc, hDc.weaken (fun _ _ _ _ => trivial), va_OF.moved hW.alike (by rw [hU]; exact (hE_65.kept hS.2.1).narrow hFc), va_T.moved hW.alike (by rw [hU]; exact (hE_66.kept hS.2.1).narrow hFc), va_Z.moved hW.alike (by rw [hU]; exact (hE_10.kept hS.2.1).narrow hFc), va_OF.moved hW.alike (by rw [hU]; exact (hE_64.kept hS.2.1).narrow hFc), va_O.moved hW.alike (by rw [hU]; exact (hE_63.kept hS.2.1).narrow hFc), va_Zq.moved hW.alike (by rw [hU]; exact (hE_11.kept hS.2.1).narrow hFc)⟩⟩ rfl rfl hl.1 rfl (lv_room (Nat.le_of_ble_eq_true rfl)) dX12_readItems_130 ⟨Nat.le_of_ble_eq_true rfl, Nat.le_of_ble_eq_true rfl⟩) hS (fun q _ h => hFc q h) hFc (fun r_71 u t H1 locs ht hvm hw hB hz1 hk1 hS => ?_)
                obtain ⟨hP1, hK1, hD1⟩ := hB
                rw [ht] at hP1
                have hP := bv_still hP hk1
                generalize H1 = H at hP hS ⊢
                as_aux_lemma =>
                rcases hw with h_72 | ⟨h_73, h_74⟩ | ⟨h_75, h_76⟩ | ⟨h_77, h_78⟩ | ⟨h_79, h_80⟩
                · rw [h_72]
                  refine lv_istore (lv' := [(6, .int (-1)), (5, .int x_14), (0, .ref h0), (1, .int p1), (2, .ref h2), (3, .int p3), (4, .ref ts10)]) hx hb dX12_readItems_133 hl (Nat.le_of_ble_eq_true rfl) rfl (fun ls hl => ?_)
                  refine lv_goto (tgt := 45) hx hb dX12_readItems_135 rfl ?_
                  exact hU _ _ _ (J45 x_14 x_56 w_50 g_h0_f10 g_h0_f17 g_h0_f26 g_h0_f27 g_h0_f28 g_h0_f29 g_h0_f30 g_h0_f31 g_h0_f34 g_h0_f41 g_h0_f51 g_h0_f53 g_h0_f6 g_h0_f7 g_h0_f8 (RG_w g_h0_f9 (by decide +kernel)) (RG_w h_63 (by decide +kernel)) g_p1 g_p3 a_53 i_52 (by have := r_h0_f10_j45b_h0_f10; have := q_17; have := h_39; have := h_65; omega) _ _ _ hP hD hS (lv_sub hl [0, 1, 2, 3, 4, 5, 6] rfl))
                · rw [h_73]
                  refine lv_istore (lv' := [(6, .int 3), (5, .int x_14), (0, .ref h0), (1, .int p1), (2, .ref h2), (3, .int p3), (4, .ref ts10)]) hx hb dX12_readItems_133 hl (Nat.le_of_ble_eq_true rfl) rfl (fun ls hl => ?_)
                  refine lv_goto (tgt := 45) hx hb dX12_readItems_135 rfl ?_
                  exact hU _ _ _ (ih45b 3 x_14 x_56 w_50 (mu_s (MU_lt (by have := q_17; have := h_39; have := h_65; omega)) hM45b) g_h0_f10 g_h0_f17 g_h0_f26 g_h0_f27 g_h0_f28 g_h0_f29 g_h0_f30 g_h0_f31 g_h0_f34 g_h0_f41 g_h0_f51 g_h0_f53 g_h0_f6 g_h0_f7 g_h0_f8 g_h0_f9 h_63 (RG_w (RG_k 3 3 rfl) (by decide +kernel)) g_p1 g_p3 a_53 i_52 (by have := r_h0_f10_j45b_h0_f10; have := q_17; have := h_39; have := h_65; omega) _ _ _ hP hD hS (lv_sub hl [0, 1, 2, 3, 4, 5, 6] rfl))
                · rw [h_75]
                  refine lv_istore (lv' := [(6, .int 2), (5, .int x_14), (0, .ref h0), (1, .int p1), (2, .ref h2), (3, .int p3), (4, .ref ts10)]) hx hb dX12_readItems_133 hl (Nat.le_of_ble_eq_true rfl) rfl (fun ls hl => ?_)
                  refine lv_goto (tgt := 45) hx hb dX12_readItems_135 rfl ?_
                  exact hU _ _ _ (ih45b 2 x_14 x_56 w_50 (mu_s (MU_lt (by have := q_17; have := h_39; have := h_65; omega)) hM45b) g_h0_f10 g_h0_f17 g_h0_f26 g_h0_f27 g_h0_f28 g_h0_f29 g_h0_f30 g_h0_f31 g_h0_f34 g_h0_f41 g_h0_f51 g_h0_f53 g_h0_f6 g_h0_f7 g_h0_f8 g_h0_f9 h_63 (RG_w (RG_k 2 2 rfl) (by decide +kernel)) g_p1 g_p3 a_53 i_52 (by have := r_h0_f10_j45b_h0_f10; have := q_17; have := h_39; have := h_65; omega) _ _ _ hP hD hS (lv_sub hl [0, 1, 2, 3, 4, 5, 6] rfl))
                · rw [h_77]
                  refine lv_istore (lv' := [(6, .int 1), (5, .int x_14), (0, .ref h0), (1, .int p1), (2, .ref h2), (3, .int p3), (4, .ref ts10)]) hx hb dX12_readItems_133 hl (Nat.le_of_ble_eq_true rfl) rfl (fun ls hl => ?_)
                  as_aux_lemma =>
                  refine lv_goto (tgt := 45) hx hb dX12_readItems_135 rfl ?_
                  exact hU _ _ _ (ih45b 1 x_14 x_56 w_50 (mu_s (MU_lt (by have := q_17; have := h_39; have := h_65; omega)) hM45b) g_h0_f10 g_h0_f17 g_h0_f26 g_h0_f27 g_h0_f28 g_h0_f29 g_h0_f30 g_h0_f31 g_h0_f34 g_h0_f41 g_h0_f51 g_h0_f53 g_h0_f6 g_h0_f7 g_h0_f8 g_h0_f9 h_63 (RG_w (RG_k 1 1 rfl) (by decide +kernel)) g_p1 g_p3 a_53 i_52 (by have := r_h0_f10_j45b_h0_f10; have := q_17; have := h_39; have := h_65; omega) _ _ _ hP hD hS (lv_sub hl [0, 1, 2, 3, 4, 5, 6] rfl))
                · rw [h_79]
                  refine lv_istore (lv' := [(6, .int 0), (5, .int x_14), (0, .ref h0), (1, .int p1), (2, .ref h2), (3, .int p3), (4, .ref ts10)]) hx hb dX12_readItems_133 hl (Nat.le_of_ble_eq_true rfl) rfl (fun ls hl => ?_)
                  refine lv_goto (tgt := 45) hx hb dX12_readItems_135 rfl ?_
                  exact hU _ _ _ (ih45b 0 x_14 x_56 w_50 (mu_s (MU_lt (by have := q_17; have := h_39; have := h_65; omega)) hM45b) g_h0_f10 g_h0_f17 g_h0_f26 g_h0_f27 g_h0_f28 g_h0_f29 g_h0_f30 g_h0_f31 g_h0_f34 g_h0_f41 g_h0_f51 g_h0_f53 g_h0_f6 g_h0_f7 g_h0_f8 g_h0_f9 h_63 (RG_w (RG_k 0 0 rfl) (by decide +kernel)) g_p1 g_p3 a_53 i_52 (by have := r_h0_f10_j45b_h0_f10; have := q_17; have := h_39; have := h_65; omega) _ _ _ hP hD hS (lv_sub hl [0, 1, 2, 3, 4, 5, 6] rfl))
          · rw [h_10]
            refine lv_if_eq (tgt := 75) hx hb dX12_readItems_66 rfl (fun c_81 => absurd c_81 (by decide +kernel)) (fun c_81 => ?_)
            refine lv_aload_n hx hb dX12_readItems_69 rfl (lv_at hl 2 rfl) ?_
            obtain ⟨hPc, hDc, hFc, hqc⟩ := cl_cut (wc := (wd_c_X12_fails h0 h0_f0 h0_1 h0_2 h0_3 h0_4 h0_5 h0_f6 h0_f7 h0_f8 h0_f9 j45b_h0_f10 (-1) h0_f12 h0_f13 h0_f14 h0_15 h0_16 h0_f17 h0_18 h0_19 h0_20 h0_21 h0_22 h0_23 h0_24 h0_25 h0_f26 h0_f27 h0_f28 h0_f29 h0_f30 h0_f31 h0_32 h0_33 h0_f34 h0_35 h0_36 h0_37 h0_38 h0_39 h0_40 h0_f41 h0_f42 h0_f43 h0_f44 h0_45 h0_46 h0_47 h0_48 h0_49 h0_50 h0_f51 h0_52 h0_f53)) hP hD hS hA [0] (by decide +kernel) rfl
            have hKc := hK.sub (tys' := []) [] rfl
            have hrv := va_recv hKc hPc (ci := 12) (q0 := 0) rfl rfl
            refine va_calli (va_runV (As := []) (rest := []) ⟨hx, hb, hml, hown, hts⟩ (c_X12_fails l dC dI H.size h0 h0_f0 h0_1 h0_2 h0_3 h0_4 h0_5 h0_f6 h0_f7 h0_f8 h0_f9 j45b_h0_f10 h0_f12 h0_f13 h0_f14 h0_15 h0_16 h0_f17 h0_18 h0_19 h0_20 h0_21 h0_22 h0_23 h0_24 h0_25 h0_f26 h0_f27 h0_f28 h0_f29 h0_f30 h0_f31 h0_32 h0_33 h0_f34 h0_35 h0_36 h0_37 h0_38 h0_39 h0_40 h0_f41 h0_f42 h0_f43 h0_f44 h0_45 h0_46 h0_47 h0_48 h0_49 h0_50 h0_f51 h0_52 h0_f53 g_h0_f6 g_h0_f7 g_h0_f8 (RG_w g_h0_f9 (by decide +kernel)) (RG_w g_j45b_h0_f10 (by decide +kernel)) g_h0_f17 g_h0_f26 g_h0_f27 g_h0_f28 g_h0_f29 g_h0_f30 g_h0_f31 g_h0_f34 g_h0_f41 g_h0_f51 g_h0_f53) (cwV 0 hts gf_c_X12_readItems_c_X12_fails rfl rfl rfl mdV_X12_fails ⟨Nat.le_of_ble_eq_true rfl, Nat.le_of_ble_eq_true rfl⟩) ⟨fun a U g mk q => by obtain ⟨q0, q1, qP, qK, qD⟩ := q; exact ⟨q0, q1, qP, va_K.moved (u := U) (U := U.calling g mk a) (Vm.Alike.refl U.vm) qK, qD⟩, hrv, fun U hU hW => ⟨rfl, by rw [hU], by rw [hU]; exact hPc, va_K.moved hW.alike hKc, hDc.weaken (fun _ _ _ _ => trivial)⟩⟩ rfl rfl hl.1 rfl (lv_room (Nat.le_of_ble_eq_true rfl)) dX12_readItems_70 ⟨Nat.le_of_ble_eq_true rfl, Nat.le_of_ble_eq_true rfl⟩) hS (fun q _ h => hFc q h) hFc (fun r_82 u t H1 locs ht hvm hw hB hz1 hk1 hS => ?_)
            obtain ⟨hP1, hK1, hD1⟩ := hB
            rw [ht] at hP1
            obtain ⟨hP, hD⟩ := cl_put (w1 := (wd_c_X12_fails h0 h0_f0 h0_1 h0_2 h0_3 h0_4 h0_5 h0_f6 h0_f7 h0_f8 h0_f9 j45b_h0_f10 j45b_h0_f10 h0_f12 h0_f13 h0_f14 h0_15 h0_16 h0_f17 h0_18 h0_19 h0_20 h0_21 h0_22 h0_23 h0_24 h0_25 h0_f26 h0_f27 h0_f28 h0_f29 h0_f30 h0_f31 h0_32 h0_33 h0_f34 h0_35 h0_36 h0_37 h0_38 h0_39 h0_40 h0_f41 h0_f42 h0_f43 h0_f44 h0_45 h0_46 h0_47 h0_48 h0_49 h0_50 h0_f51 h0_52 h0_f53)) (nw := (wd_c_X12_readItems h0 h0_f0 h0_1 h0_2 h0_3 h0_4 h0_5 h0_f6 h0_f7 h0_f8 h0_f9 j45b_h0_f10 j45b_h0_f10 h0_f12 h0_f13 h0_f14 h0_15 h0_16 h0_f17 h0_18 h0_19 h0_20 h0_21 h0_22 h0_23 h0_24 h0_25 h0_f26 h0_f27 h0_f28 h0_f29 h0_f30 h0_f31 h0_32 h0_33 h0_f34 h0_35 h0_36 h0_37 h0_38 h0_39 h0_40 h0_f41 h0_f42 h0_f43 h0_f44 h0_45 h0_46 h0_47 h0_48 h0_49 h0_50 h0_f51 h0_52 h0_f53 h2 h2k j45b_h2c h0_5 h0_5k tN h0_5c)) hP hD [0] [3, 1, 2] 3 rfl hqc (by decide +kernel) rfl hk1 hFc hP1 hD1
            generalize H1 = H at hP hS ⊢
            as_aux_lemma =>
            have h_83 := hw
            rw [h_83]
            refine lv_pop hx hb dX12_readItems_73 rfl ?_
            have hK9 := hK.sub (tys' := []) [] rfl
            exact W.vret hx hb hr (fun t ht hW => ⟨⟨(j45b_h0_f10, j45b_h0_f10, j45b_h2c), rfl, (Or.inr ⟨(RG_w g_j45b_h0_f10 (by decide +kernel)), (RG_w g_j45b_h0_f10 (by decide +kernel)), a_j45b_h2c, g_h0_f9⟩), by rw [ht]; exact hP, va_K.moved hW.alike hK9, hD⟩, hS.F ht⟩) hS.2.2 dX12_readItems_74
        by_cases c_84 : j45b_l6 = 1
        · subst c_84
          refine lv_iload hx hb dX12_readItems_59 (lv_at hl 1 rfl) ?_
          refine lv_iload hx hb dX12_readItems_61 (lv_at hl 0 rfl) ?_
          obtain ⟨hPc, hDc, hFc, hqc⟩ := cl_cut (wc := []) hP hD hS hA [] (by decide +kernel) rfl
          have hKc := hK.sub (tys' := []) [] rfl
          refine va_calli (va_runS (As := [.int j45b_l5, .int 1]) (rest := []) ⟨hx, hb, hml, hown, hts⟩ (c_X12_has_2 l dC dI H.size j45b_l5 1 (RG_w (RG_k 1 1 rfl) (by decide +kernel))) (va_cwS 2 hts gf_c_X12_readItems_c_X12_has_2 rfl rfl rfl md_X12_has ⟨Nat.le_of_ble_eq_true rfl, Nat.le_of_ble_eq_true rfl⟩) ⟨fun a U g mk q => by obtain ⟨q0, q1, qP, qK, qD⟩ := q; exact ⟨q0, q1, qP, va_K.moved (u := U) (U := U.calling g mk a) (Vm.Alike.refl U.vm) qK, qD⟩, fun U hU hW => ⟨rfl, by rw [hU], by rw [hU]; exact hPc, va_K.moved hW.alike hKc, hDc.weaken (fun _ _ _ _ => trivial)⟩⟩ rfl rfl hl.1 rfl (lv_room (Nat.le_of_ble_eq_true rfl)) dX12_readItems_63 ⟨Nat.le_of_ble_eq_true rfl, Nat.le_of_ble_eq_true rfl⟩) hS (fun q _ h => hFc q h) hFc (fun r_85 u t H1 locs ht hvm hw hB hz1 hk1 hS => ?_)
          obtain ⟨hP1, hK1, hD1⟩ := hB
          rw [ht] at hP1
          have hP := bv_still hP hk1
          generalize H1 = H at hP hS ⊢
          as_aux_lemma =>
          rcases hw with ⟨h_86, h_87⟩ | ⟨h_88, h_89⟩
          · rw [h_86]
            refine lv_if_eq (tgt := 75) hx hb dX12_readItems_66 rfl (fun c_90 => ?_) (fun c_90 => absurd c_90 (by decide +kernel))
            refine lv_iload hx hb dX12_readItems_75 (lv_at hl 1 rfl) ?_
            refine lv_iconst (v := 1) hx hb dX12_readItems_77 kc_iconst_1 ?_
            refine lv_iload hx hb dX12_readItems_78 (lv_at hl 0 rfl) ?_
            refine lv_ishl hx hb dX12_readItems_80 ?_
            refine lv_topi (fun x_91 ex_91 => ?_)
            obtain rfl : x_91 = 2 := ex_91.trans (by decide +kernel)
            refine lv_ior hx hb dX12_readItems_81 ?_
            refine lv_topi (fun x_92 ex_92 => ?_)
            refine lv_istore (lv' := [(5, .int x_92), (6, .int 1), (0, .ref h0), (1, .int p1), (2, .ref h2), (3, .int p3), (4, .ref ts10)]) hx hb dX12_readItems_82 hl (Nat.le_of_ble_eq_true rfl) rfl (fun ls hl => ?_)
            refine lv_aload_n hx hb dX12_readItems_84 rfl (lv_at hl 2 rfl) ?_
            refine lv_dup hx hb dX12_readItems_85 rfl ?_
            as_aux_lemma =>
            refine va_get (D := (dC, dI)) (ci := 12) (v := .int j45b_h0_f10) (C := RX12) (T := TX12) (N := 54) hx hb hts iw_c_X12_readItems_X12 hown hK hP 0 rfl rfl 10 (by decide +kernel) (hts (.fieldLink RX12 134 "BuoyVoteModel" "at" "I") (List.mem_of_getElem? (i := 21) rfl)) (fun _ h9 => h9) rfl dX12_readItems_86 ?_
            refine lv_iconst (v := 1) hx hb dX12_readItems_89 kc_iconst_1 ?_
            refine lv_iadd hx hb dX12_readItems_90 ?_
            refine lv_topi (fun x_93 ex_93 => ?_)
            have g_94 : RG x_93 1 240 := RG_add ex_93 g_j45b_h0_f10 (RG_k 1 1 rfl) (by decide +kernel)
            have q_95 : x_93.toInt = j45b_h0_f10.toInt + 1 := eq_add ex_93 g_j45b_h0_f10 (q := 1) rfl (by decide +kernel)
            refine va_put (D := (dC, dI)) (ci := 12) (v := .int x_93) (ty := .int) (C := RX12) (T := TX12) (N := 54) hx hb hts iw_c_X12_readItems_X12 tyX12 tyX12_ok nmX12 hown hK hP hD hS 0 rfl rfl 10 (by decide +kernel) (hts (.fieldLink RX12 134 "BuoyVoteModel" "at" "I") (List.mem_of_getElem? (i := 21) rfl)) (fun _ h9 => h9) rfl (by decide +kernel) rfl rfl (Nat.le_of_ble_eq_true rfl) dX12_readItems_91 (fun H locs hP hD hS => ?_)
            have hP : va_P (dC, dI) vwCl (wd_c_X12_readItems h0 h0_f0 h0_1 h0_2 h0_3 h0_4 h0_5 h0_f6 h0_f7 h0_f8 h0_f9 x_93 (-1) h0_f12 h0_f13 h0_f14 h0_15 h0_16 h0_f17 h0_18 h0_19 h0_20 h0_21 h0_22 h0_23 h0_24 h0_25 h0_f26 h0_f27 h0_f28 h0_f29 h0_f30 h0_f31 h0_32 h0_33 h0_f34 h0_35 h0_36 h0_37 h0_38 h0_39 h0_40 h0_f41 h0_f42 h0_f43 h0_f44 h0_45 h0_46 h0_47 h0_48 h0_49 h0_50 h0_f51 h0_52 h0_f53 h2 h2k j45b_h2c h0_5 h0_5k tN h0_5c) H := hP
            have hD : va_D A (wd_c_X12_readItems h0 h0_f0 h0_1 h0_2 h0_3 h0_4 h0_5 h0_f6 h0_f7 h0_f8 h0_f9 x_93 (-1) h0_f12 h0_f13 h0_f14 h0_15 h0_16 h0_f17 h0_18 h0_19 h0_20 h0_21 h0_22 h0_23 h0_24 h0_25 h0_f26 h0_f27 h0_f28 h0_f29 h0_f30 h0_f31 h0_32 h0_33 h0_f34 h0_35 h0_36 h0_37 h0_38 h0_39 h0_40 h0_f41 h0_f42 h0_f43 h0_f44 h0_45 h0_46 h0_47 h0_48 h0_49 h0_50 h0_f51 h0_52 h0_f53 h2 h2k j45b_h2c h0_5 h0_5k tN h0_5c) := hD
            refine lv_aload_n hx hb dX12_readItems_94 rfl (lv_at hl 4 rfl) ?_
            refine lv_iload_n hx hb dX12_readItems_95 rfl (lv_at hl 5 rfl) ?_
            refine lv_iload hx hb dX12_readItems_96 (lv_at hl 1 rfl) ?_
            refine lv_iadd hx hb dX12_readItems_98 ?_
            refine lv_topi (fun x_96 ex_96 => ?_)
            as_aux_lemma =>
            have g_97 : RG x_96 1 9 := RG_add ex_96 g_p3 (RG_k 1 1 rfl) (by decide +kernel)
            refine lv_aload_n hx hb dX12_readItems_99 rfl (lv_at hl 2 rfl) ?_
            refine lv_iload_n hx hb dX12_readItems_100 rfl (lv_at hl 3 rfl) ?_
            refine lv_iload hx hb dX12_readItems_101 (lv_at hl 1 rfl) ?_
            obtain ⟨hPc, hDc, hFc, hqc⟩ := cl_cut (wc := []) hP hD hS hA [] (by decide +kernel) rfl
            have hKc := hK.sub (tys' := []) [] rfl
            refine va_calli (va_runS (As := [.int p1, .int 1]) (rest := [.ref h0, .int x_96, .ref h2]) ⟨hx, hb, hml, hown, hts⟩ (c_X12_leastOf_1 l dC dI H.size p1 1 g_p1 (RG_w (RG_k 1 1 rfl) (by decide +kernel))) (va_cwS 2 hts gf_c_X12_readItems_c_X12_leastOf_1 rfl rfl rfl md_X12_leastOf ⟨Nat.le_of_ble_eq_true rfl, Nat.le_of_ble_eq_true rfl⟩) ⟨fun a U g mk q => by obtain ⟨q0, q1, qP, qK, qD⟩ := q; exact ⟨q0, q1, qP, va_K.moved (u := U) (U := U.calling g mk a) (Vm.Alike.refl U.vm) qK, qD⟩, fun U hU hW => ⟨rfl, by rw [hU], by rw [hU]; exact hPc, va_K.moved hW.alike hKc, hDc.weaken (fun _ _ _ _ => trivial)⟩⟩ rfl rfl hl.1 rfl (lv_room (Nat.le_of_ble_eq_true rfl)) dX12_readItems_103 ⟨Nat.le_of_ble_eq_true rfl, Nat.le_of_ble_eq_true rfl⟩) hS (fun q _ h => hFc q h) hFc (fun r_98 u t H1 locs ht hvm hw hB hz1 hk1 hS => ?_)
            obtain ⟨hP1, hK1, hD1⟩ := hB
            rw [ht] at hP1
            have hP := bv_still hP hk1
            generalize H1 = H at hP hS ⊢
            as_aux_lemma =>
            have h_99 := hw
            rw [h_99]
            refine lv_iload_n hx hb dX12_readItems_106 rfl (lv_at hl 3 rfl) ?_
            refine lv_iload hx hb dX12_readItems_107 (lv_at hl 1 rfl) ?_
            obtain ⟨hPc, hDc, hFc, hqc⟩ := cl_cut (wc := []) hP hD hS hA [] (by decide +kernel) rfl
            have hKc := hK.sub (tys' := []) [] rfl
            refine va_calli (va_runS (As := [.int p1, .int 1]) (rest := [.int 0, .ref h0, .int x_96, .ref h2]) ⟨hx, hb, hml, hown, hts⟩ (c_X12_mostOf_1 l dC dI H.size p1 1 g_p1 (RG_w (RG_k 1 1 rfl) (by decide +kernel))) (va_cwS 2 hts gf_c_X12_readItems_c_X12_mostOf_1 rfl rfl rfl md_X12_mostOf ⟨Nat.le_of_ble_eq_true rfl, Nat.le_of_ble_eq_true rfl⟩) ⟨fun a U g mk q => by obtain ⟨q0, q1, qP, qK, qD⟩ := q; exact ⟨q0, q1, qP, va_K.moved (u := U) (U := U.calling g mk a) (Vm.Alike.refl U.vm) qK, qD⟩, fun U hU hW => ⟨rfl, by rw [hU], by rw [hU]; exact hPc, va_K.moved hW.alike hKc, hDc.weaken (fun _ _ _ _ => trivial)⟩⟩ rfl rfl hl.1 rfl (lv_room (Nat.le_of_ble_eq_true rfl)) dX12_readItems_109 ⟨Nat.le_of_ble_eq_true rfl, Nat.le_of_ble_eq_true rfl⟩) hS (fun q _ h => hFc q h) hFc (fun r_100 u t H1 locs ht hvm hw hB hz1 hk1 hS => ?_)
            obtain ⟨hP1, hK1, hD1⟩ := hB
            rw [ht] at hP1
            have hP := bv_still hP hk1
            generalize H1 = H at hP hS ⊢
            as_aux_lemma =>
            have h_101 := hw
            rw [h_101]
            obtain ⟨hPc, hDc, hFc, hqc⟩ := cl_cut (wc := (wd_c_X12_number h0 h0_f0 h0_1 h0_2 h0_3 h0_4 h0_5 h0_f6 h0_f7 h0_f8 h0_f9 x_93 (-1) h0_f12 h0_f13 h0_f14 h0_15 h0_16 h0_f17 h0_18 h0_19 h0_20 h0_21 h0_22 h0_23 h0_24 h0_25 h0_f26 h0_f27 h0_f28 h0_f29 h0_f30 h0_f31 h0_32 h0_33 h0_f34 h0_35 h0_36 h0_37 h0_38 h0_39 h0_40 h0_f41 h0_f42 h0_f43 h0_f44 h0_45 h0_46 h0_47 h0_48 h0_49 h0_50 h0_f51 h0_52 h0_f53 h0_5 h0_5k tN h0_5c)) hP hD hS hA [0, 2] (by decide +kernel) rfl
            have hKc := hK.sub (tys' := [(h0_5k, .byte)]) [1] rfl
            have hrv := va_recv hKc hPc (ci := 12) (q0 := 0) rfl rfl
            refine va_calli (va_runV (As := [.int 0, .int 9]) (rest := [.int x_96, .ref h2]) ⟨hx, hb, hml, hown, hts⟩ (c_X12_number l dC dI H.size h0 h0_f0 h0_1 h0_2 h0_3 h0_4 h0_5 h0_f6 h0_f7 h0_f8 h0_f9 x_93 h0_f12 h0_f13 h0_f14 h0_15 h0_16 h0_f17 h0_18 h0_19 h0_20 h0_21 h0_22 h0_23 h0_24 h0_25 h0_f26 h0_f27 h0_f28 h0_f29 h0_f30 h0_f31 h0_32 h0_33 h0_f34 h0_35 h0_36 h0_37 h0_38 h0_39 h0_40 h0_f41 h0_f42 h0_f43 h0_f44 h0_45 h0_46 h0_47 h0_48 h0_49 h0_50 h0_f51 h0_52 h0_f53 h0_5k h0_5c tN g_h0_f6 g_h0_f7 g_h0_f8 (RG_w g_h0_f9 (by decide +kernel)) (RG_w g_94 (by decide +kernel)) g_h0_f17 g_h0_f26 g_h0_f27 g_h0_f28 g_h0_f29 g_h0_f30 g_h0_f31 g_h0_f34 g_h0_f41 g_h0_f51 g_h0_f53 htN) (cwV 2 hts gf_c_X12_readItems_c_X12_number rfl rfl rfl mdV_X12_number ⟨Nat.le_of_ble_eq_true rfl, Nat.le_of_ble_eq_true rfl⟩) ⟨fun a U g mk q => by obtain ⟨q0, q1, qP, qK, qD⟩ := q; exact ⟨q0, q1, qP, va_K.moved (u := U) (U := U.calling g mk a) (Vm.Alike.refl U.vm) qK, qD⟩, hrv, fun U hU hW => ⟨rfl, by rw [hU], by rw [hU]; exact hPc, va_K.moved hW.alike hKc, hDc.weaken (fun _ _ _ _ => trivial)⟩⟩ rfl rfl hl.1 rfl (lv_room (Nat.le_of_ble_eq_true rfl)) dX12_readItems_112 ⟨Nat.le_of_ble_eq_true rfl, Nat.le_of_ble_eq_true rfl⟩) hS (fun q _ h => hFc q h) hFc (fun r_102 u t H1 locs ht hvm hw hB hz1 hk1 hS => ?_)
            obtain ⟨x_103, x_104⟩ := u
            obtain ⟨hP1, hK1, hD1⟩ := hB
            rw [ht] at hP1
            obtain ⟨hP, hD⟩ := cl_put (w1 := (wd_c_X12_number h0 h0_f0 h0_1 h0_2 h0_3 h0_4 h0_5 h0_f6 h0_f7 h0_f8 h0_f9 x_103 x_104 h0_f12 h0_f13 h0_f14 h0_15 h0_16 h0_f17 h0_18 h0_19 h0_20 h0_21 h0_22 h0_23 h0_24 h0_25 h0_f26 h0_f27 h0_f28 h0_f29 h0_f30 h0_f31 h0_32 h0_33 h0_f34 h0_35 h0_36 h0_37 h0_38 h0_39 h0_40 h0_f41 h0_f42 h0_f43 h0_f44 h0_45 h0_46 h0_47 h0_48 h0_49 h0_50 h0_f51 h0_52 h0_f53 h0_5 h0_5k tN h0_5c)) (nw := (wd_c_X12_readItems h0 h0_f0 h0_1 h0_2 h0_3 h0_4 h0_5 h0_f6 h0_f7 h0_f8 h0_f9 x_103 x_104 h0_f12 h0_f13 h0_f14 h0_15 h0_16 h0_f17 h0_18 h0_19 h0_20 h0_21 h0_22 h0_23 h0_24 h0_25 h0_f26 h0_f27 h0_f28 h0_f29 h0_f30 h0_f31 h0_32 h0_33 h0_f34 h0_35 h0_36 h0_37 h0_38 h0_39 h0_40 h0_f41 h0_f42 h0_f43 h0_f44 h0_45 h0_46 h0_47 h0_48 h0_49 h0_50 h0_f51 h0_52 h0_f53 h2 h2k j45b_h2c h0_5 h0_5k tN h0_5c)) hP hD [0, 2] [3, 1, 4] 3 rfl hqc (by decide +kernel) rfl hk1 hFc hP1 hD1
            generalize H1 = H at hP hS ⊢
            as_aux_lemma =>
            rcases hw with ⟨h_105, h_106, h_107, h_108⟩ | ⟨h_109, h_110, h_111, h_112⟩ | ⟨h_113, h_114, h_115, h_116, h_117⟩
            · rw [h_105]
              have h_108 : x_93.toInt + 0 ≤ x_103.toInt := h_108
              refine va_iast hx hb hK hP hD hS 1 0 rfl rfl (RG_in g_97 (by decide +kernel)) dX12_readItems_115 (fun H locs hP hD hS => ?_)
              have hP : va_P (dC, dI) vwCl (wd_c_X12_readItems h0 h0_f0 h0_1 h0_2 h0_3 h0_4 h0_5 h0_f6 h0_f7 h0_f8 h0_f9 x_103 x_104 h0_f12 h0_f13 h0_f14 h0_15 h0_16 h0_f17 h0_18 h0_19 h0_20 h0_21 h0_22 h0_23 h0_24 h0_25 h0_f26 h0_f27 h0_f28 h0_f29 h0_f30 h0_f31 h0_32 h0_33 h0_f34 h0_35 h0_36 h0_37 h0_38 h0_39 h0_40 h0_f41 h0_f42 h0_f43 h0_f44 h0_45 h0_46 h0_47 h0_48 h0_49 h0_50 h0_f51 h0_52 h0_f53 h2 h2k (upd j45b_h2c (x_96 : Int32).toNatClampNeg 0) h0_5 h0_5k tN h0_5c) H := hP
              have hD : va_D A (wd_c_X12_readItems h0 h0_f0 h0_1 h0_2 h0_3 h0_4 h0_5 h0_f6 h0_f7 h0_f8 h0_f9 x_103 x_104 h0_f12 h0_f13 h0_f14 h0_15 h0_16 h0_f17 h0_18 h0_19 h0_20 h0_21 h0_22 h0_23 h0_24 h0_25 h0_f26 h0_f27 h0_f28 h0_f29 h0_f30 h0_f31 h0_32 h0_33 h0_f34 h0_35 h0_36 h0_37 h0_38 h0_39 h0_40 h0_f41 h0_f42 h0_f43 h0_f44 h0_45 h0_46 h0_47 h0_48 h0_49 h0_50 h0_f51 h0_52 h0_f53 h2 h2k (upd j45b_h2c (x_96 : Int32).toNatClampNeg 0) h0_5 h0_5k tN h0_5c) := hD
              have l_119 : (upd j45b_h2c (x_96 : Int32).toNatClampNeg 0) (x_96 : Int32).toNatClampNeg = 0 := pk_us
              have i_120 : BOi (p3.toInt + 4) (upd j45b_h2c (x_96 : Int32).toNatClampNeg 0) := BOi_keep i_45b_h2 g_97 (by decide +kernel) (Or.inr (Or.inl (by have := hrow; have := eq_add ex_96 g_p3 (q := 1) rfl (by decide +kernel); omega)))
              have a_121 : AI (upd j45b_h2c (x_96 : Int32).toNatClampNeg 0) 0 99 := AI_up a_j45b_h2c (RG_k 0 0 rfl) (by decide +kernel)
              generalize (upd j45b_h2c (x_96 : Int32).toNatClampNeg 0) = w_118 at hP hD a_121 l_119 i_120
              have hP : va_P (dC, dI) vwCl (wd_c_X12_readItems h0 h0_f0 h0_1 h0_2 h0_3 h0_4 h0_5 h0_f6 h0_f7 h0_f8 h0_f9 x_103 x_104 h0_f12 h0_f13 h0_f14 h0_15 h0_16 h0_f17 h0_18 h0_19 h0_20 h0_21 h0_22 h0_23 h0_24 h0_25 h0_f26 h0_f27 h0_f28 h0_f29 h0_f30 h0_f31 h0_32 h0_33 h0_f34 h0_35 h0_36 h0_37 h0_38 h0_39 h0_40 h0_f41 h0_f42 h0_f43 h0_f44 h0_45 h0_46 h0_47 h0_48 h0_49 h0_50 h0_f51 h0_52 h0_f53 h2 h2k w_118 h0_5 h0_5k tN h0_5c) H := hP
              have hD : va_D A (wd_c_X12_readItems h0 h0_f0 h0_1 h0_2 h0_3 h0_4 h0_5 h0_f6 h0_f7 h0_f8 h0_f9 x_103 x_104 h0_f12 h0_f13 h0_f14 h0_15 h0_16 h0_f17 h0_18 h0_19 h0_20 h0_21 h0_22 h0_23 h0_24 h0_25 h0_f26 h0_f27 h0_f28 h0_f29 h0_f30 h0_f31 h0_32 h0_33 h0_f34 h0_35 h0_36 h0_37 h0_38 h0_39 h0_40 h0_f41 h0_f42 h0_f43 h0_f44 h0_45 h0_46 h0_47 h0_48 h0_49 h0_50 h0_f51 h0_52 h0_f53 h2 h2k w_118 h0_5 h0_5k tN h0_5c) := hD
              refine lv_aload_n hx hb dX12_readItems_116 rfl (lv_at hl 2 rfl) ?_
              refine va_get (D := (dC, dI)) (ci := 12) (v := .int x_104) (C := RX12) (T := TX12) (N := 54) hx hb hts iw_c_X12_readItems_X12 hown hK hP 0 rfl rfl 11 (by decide +kernel) (hts (.fieldLink RX12 143 "BuoyVoteModel" "fault" "I") (List.mem_of_getElem? (i := 48) rfl)) (fun _ h9 => h9) rfl dX12_readItems_117 ?_
              as_aux_lemma =>
              refine lv_iconst (v := (-1)) hx hb dX12_readItems_120 kc_iconst_m1 ?_
              refine lv_icmp_ne (tgt := 45) hx hb dX12_readItems_121 rfl (fun c_122 => ?_) (fun c_122 => ?_)
              · exact hU _ _ _ (J45c x_92 1 x_103 x_104 w_118 g_h0_f10 g_h0_f17 g_h0_f26 g_h0_f27 g_h0_f28 g_h0_f29 g_h0_f30 g_h0_f31 g_h0_f34 g_h0_f41 g_h0_f51 g_h0_f53 g_h0_f6 g_h0_f7 g_h0_f8 g_h0_f9 h_106 h_107 (RG_w (RG_k 1 1 rfl) (by decide +kernel)) g_p1 g_p3 a_121 _ _ _ hP hD hS (lv_sub hl [0, 1, 2, 3, 4, 5, 6] rfl))
              · exact RG_dead (RG_eq1 h_107 (RG_k (-1) (-1) rfl) c_122 (a' := 0) (b' := (-1)) (by decide +kernel)) (by decide +kernel)
            · refine va_iast hx hb hK hP hD hS 1 0 rfl rfl (RG_in g_97 (by decide +kernel)) dX12_readItems_115 (fun H locs hP hD hS => ?_)
              have hP : va_P (dC, dI) vwCl (wd_c_X12_readItems h0 h0_f0 h0_1 h0_2 h0_3 h0_4 h0_5 h0_f6 h0_f7 h0_f8 h0_f9 x_103 x_104 h0_f12 h0_f13 h0_f14 h0_15 h0_16 h0_f17 h0_18 h0_19 h0_20 h0_21 h0_22 h0_23 h0_24 h0_25 h0_f26 h0_f27 h0_f28 h0_f29 h0_f30 h0_f31 h0_32 h0_33 h0_f34 h0_35 h0_36 h0_37 h0_38 h0_39 h0_40 h0_f41 h0_f42 h0_f43 h0_f44 h0_45 h0_46 h0_47 h0_48 h0_49 h0_50 h0_f51 h0_52 h0_f53 h2 h2k (upd j45b_h2c (x_96 : Int32).toNatClampNeg r_102) h0_5 h0_5k tN h0_5c) H := hP
              have hD : va_D A (wd_c_X12_readItems h0 h0_f0 h0_1 h0_2 h0_3 h0_4 h0_5 h0_f6 h0_f7 h0_f8 h0_f9 x_103 x_104 h0_f12 h0_f13 h0_f14 h0_15 h0_16 h0_f17 h0_18 h0_19 h0_20 h0_21 h0_22 h0_23 h0_24 h0_25 h0_f26 h0_f27 h0_f28 h0_f29 h0_f30 h0_f31 h0_32 h0_33 h0_f34 h0_35 h0_36 h0_37 h0_38 h0_39 h0_40 h0_f41 h0_f42 h0_f43 h0_f44 h0_45 h0_46 h0_47 h0_48 h0_49 h0_50 h0_f51 h0_52 h0_f53 h2 h2k (upd j45b_h2c (x_96 : Int32).toNatClampNeg r_102) h0_5 h0_5k tN h0_5c) := hD
              have l_124 : (upd j45b_h2c (x_96 : Int32).toNatClampNeg r_102) (x_96 : Int32).toNatClampNeg = r_102 := pk_us
              have i_125 : BOi (p3.toInt + 4) (upd j45b_h2c (x_96 : Int32).toNatClampNeg r_102) := BOi_keep i_45b_h2 g_97 (by decide +kernel) (Or.inl (RG_w h_109 (by decide +kernel)))
              have a_126 : AI (upd j45b_h2c (x_96 : Int32).toNatClampNeg r_102) 0 99 := AI_up a_j45b_h2c h_109 (by decide +kernel)
              generalize (upd j45b_h2c (x_96 : Int32).toNatClampNeg r_102) = w_123 at hP hD a_126 l_124 i_125
              have hP : va_P (dC, dI) vwCl (wd_c_X12_readItems h0 h0_f0 h0_1 h0_2 h0_3 h0_4 h0_5 h0_f6 h0_f7 h0_f8 h0_f9 x_103 x_104 h0_f12 h0_f13 h0_f14 h0_15 h0_16 h0_f17 h0_18 h0_19 h0_20 h0_21 h0_22 h0_23 h0_24 h0_25 h0_f26 h0_f27 h0_f28 h0_f29 h0_f30 h0_f31 h0_32 h0_33 h0_f34 h0_35 h0_36 h0_37 h0_38 h0_39 h0_40 h0_f41 h0_f42 h0_f43 h0_f44 h0_45 h0_46 h0_47 h0_48 h0_49 h0_50 h0_f51 h0_52 h0_f53 h2 h2k w_123 h0_5 h0_5k tN h0_5c) H := hP
              have hD : va_D A (wd_c_X12_readItems h0 h0_f0 h0_1 h0_2 h0_3 h0_4 h0_5 h0_f6 h0_f7 h0_f8 h0_f9 x_103 x_104 h0_f12 h0_f13 h0_f14 h0_15 h0_16 h0_f17 h0_18 h0_19 h0_20 h0_21 h0_22 h0_23 h0_24 h0_25 h0_f26 h0_f27 h0_f28 h0_f29 h0_f30 h0_f31 h0_32 h0_33 h0_f34 h0_35 h0_36 h0_37 h0_38 h0_39 h0_40 h0_f41 h0_f42 h0_f43 h0_f44 h0_45 h0_46 h0_47 h0_48 h0_49 h0_50 h0_f51 h0_52 h0_f53 h2 h2k w_123 h0_5 h0_5k tN h0_5c) := hD
              refine lv_aload_n hx hb dX12_readItems_116 rfl (lv_at hl 2 rfl) ?_
              as_aux_lemma =>
              refine va_get (D := (dC, dI)) (ci := 12) (v := .int x_104) (C := RX12) (T := TX12) (N := 54) hx hb hts iw_c_X12_readItems_X12 hown hK hP 0 rfl rfl 11 (by decide +kernel) (hts (.fieldLink RX12 143 "BuoyVoteModel" "fault" "I") (List.mem_of_getElem? (i := 48) rfl)) (fun _ h9 => h9) rfl dX12_readItems_117 ?_
              refine lv_iconst (v := (-1)) hx hb dX12_readItems_120 kc_iconst_m1 ?_
              refine lv_icmp_ne (tgt := 45) hx hb dX12_readItems_121 rfl (fun c_127 => ?_) (fun c_127 => ?_)
              · exact hU _ _ _ (J45c x_92 1 x_103 x_104 w_123 g_h0_f10 g_h0_f17 g_h0_f26 g_h0_f27 g_h0_f28 g_h0_f29 g_h0_f30 g_h0_f31 g_h0_f34 g_h0_f41 g_h0_f51 g_h0_f53 g_h0_f6 g_h0_f7 g_h0_f8 g_h0_f9 (RG_w h_110 (by decide +kernel)) (RG_w h_111 (by decide +kernel)) (RG_w (RG_k 1 1 rfl) (by decide +kernel)) g_p1 g_p3 a_126 _ _ _ hP hD hS (lv_sub hl [0, 1, 2, 3, 4, 5, 6] rfl))
              · exact RG_dead (RG_eq1 h_111 (RG_k (-1) (-1) rfl) c_127 (a' := 0) (b' := (-1)) (by decide +kernel)) (by decide +kernel)
            · subst h_115
              have h_117 : x_93.toInt + 1 ≤ x_103.toInt := h_117
              refine va_iast hx hb hK hP hD hS 1 0 rfl rfl (RG_in g_97 (by decide +kernel)) dX12_readItems_115 (fun H locs hP hD hS => ?_)
              have hP : va_P (dC, dI) vwCl (wd_c_X12_readItems h0 h0_f0 h0_1 h0_2 h0_3 h0_4 h0_5 h0_f6 h0_f7 h0_f8 h0_f9 x_103 (-1) h0_f12 h0_f13 h0_f14 h0_15 h0_16 h0_f17 h0_18 h0_19 h0_20 h0_21 h0_22 h0_23 h0_24 h0_25 h0_f26 h0_f27 h0_f28 h0_f29 h0_f30 h0_f31 h0_32 h0_33 h0_f34 h0_35 h0_36 h0_37 h0_38 h0_39 h0_40 h0_f41 h0_f42 h0_f43 h0_f44 h0_45 h0_46 h0_47 h0_48 h0_49 h0_50 h0_f51 h0_52 h0_f53 h2 h2k (upd j45b_h2c (x_96 : Int32).toNatClampNeg r_102) h0_5 h0_5k tN h0_5c) H := hP
              have hD : va_D A (wd_c_X12_readItems h0 h0_f0 h0_1 h0_2 h0_3 h0_4 h0_5 h0_f6 h0_f7 h0_f8 h0_f9 x_103 (-1) h0_f12 h0_f13 h0_f14 h0_15 h0_16 h0_f17 h0_18 h0_19 h0_20 h0_21 h0_22 h0_23 h0_24 h0_25 h0_f26 h0_f27 h0_f28 h0_f29 h0_f30 h0_f31 h0_32 h0_33 h0_f34 h0_35 h0_36 h0_37 h0_38 h0_39 h0_40 h0_f41 h0_f42 h0_f43 h0_f44 h0_45 h0_46 h0_47 h0_48 h0_49 h0_50 h0_f51 h0_52 h0_f53 h2 h2k (upd j45b_h2c (x_96 : Int32).toNatClampNeg r_102) h0_5 h0_5k tN h0_5c) := hD
              have l_129 : (upd j45b_h2c (x_96 : Int32).toNatClampNeg r_102) (x_96 : Int32).toNatClampNeg = r_102 := pk_us
              have i_130 : BOi (p3.toInt + 4) (upd j45b_h2c (x_96 : Int32).toNatClampNeg r_102) := BOi_keep i_45b_h2 g_97 (by decide +kernel) (Or.inr (Or.inl (by have := hrow; have := eq_add ex_96 g_p3 (q := 1) rfl (by decide +kernel); omega)))
              have a_131 : AI (upd j45b_h2c (x_96 : Int32).toNatClampNeg r_102) 0 99 := AI_up a_j45b_h2c h_113 (by decide +kernel)
              generalize (upd j45b_h2c (x_96 : Int32).toNatClampNeg r_102) = w_128 at hP hD a_131 l_129 i_130
              have hP : va_P (dC, dI) vwCl (wd_c_X12_readItems h0 h0_f0 h0_1 h0_2 h0_3 h0_4 h0_5 h0_f6 h0_f7 h0_f8 h0_f9 x_103 (-1) h0_f12 h0_f13 h0_f14 h0_15 h0_16 h0_f17 h0_18 h0_19 h0_20 h0_21 h0_22 h0_23 h0_24 h0_25 h0_f26 h0_f27 h0_f28 h0_f29 h0_f30 h0_f31 h0_32 h0_33 h0_f34 h0_35 h0_36 h0_37 h0_38 h0_39 h0_40 h0_f41 h0_f42 h0_f43 h0_f44 h0_45 h0_46 h0_47 h0_48 h0_49 h0_50 h0_f51 h0_52 h0_f53 h2 h2k w_128 h0_5 h0_5k tN h0_5c) H := hP
              have hD : va_D A (wd_c_X12_readItems h0 h0_f0 h0_1 h0_2 h0_3 h0_4 h0_5 h0_f6 h0_f7 h0_f8 h0_f9 x_103 (-1) h0_f12 h0_f13 h0_f14 h0_15 h0_16 h0_f17 h0_18 h0_19 h0_20 h0_21 h0_22 h0_23 h0_24 h0_25 h0_f26 h0_f27 h0_f28 h0_f29 h0_f30 h0_f31 h0_32 h0_33 h0_f34 h0_35 h0_36 h0_37 h0_38 h0_39 h0_40 h0_f41 h0_f42 h0_f43 h0_f44 h0_45 h0_46 h0_47 h0_48 h0_49 h0_50 h0_f51 h0_52 h0_f53 h2 h2k w_128 h0_5 h0_5k tN h0_5c) := hD
              refine lv_aload_n hx hb dX12_readItems_116 rfl (lv_at hl 2 rfl) ?_
              as_aux_lemma =>
              refine va_get (D := (dC, dI)) (ci := 12) (v := .int (-1)) (C := RX12) (T := TX12) (N := 54) hx hb hts iw_c_X12_readItems_X12 hown hK hP 0 rfl rfl 11 (by decide +kernel) (hts (.fieldLink RX12 143 "BuoyVoteModel" "fault" "I") (List.mem_of_getElem? (i := 48) rfl)) (fun _ h9 => h9) rfl dX12_readItems_117 ?_
              refine lv_iconst (v := (-1)) hx hb dX12_readItems_120 kc_iconst_m1 ?_
              refine lv_icmp_ne (tgt := 45) hx hb dX12_readItems_121 rfl (fun c_132 => absurd c_132 (by decide +kernel)) (fun c_132 => ?_)
              refine lv_aload hx hb dX12_readItems_124 (lv_at hl 6 rfl) ?_
              refine lv_aload_n hx hb dX12_readItems_126 rfl (lv_at hl 2 rfl) ?_
              obtain ⟨hPc, hDc, hFc, hqc⟩ := cl_cut (wc := (wd_c_X12_look h0 h0_f0 h0_1 h0_2 h0_3 h0_4 h0_5 h0_f6 h0_f7 h0_f8 h0_f9 x_103 (-1) h0_f12 h0_f13 h0_f14 h0_15 h0_16 h0_f17 h0_18 h0_19 h0_20 h0_21 h0_22 h0_23 h0_24 h0_25 h0_f26 h0_f27 h0_f28 h0_f29 h0_f30 h0_f31 h0_32 h0_33 h0_f34 h0_35 h0_36 h0_37 h0_38 h0_39 h0_40 h0_f41 h0_f42 h0_f43 h0_f44 h0_45 h0_46 h0_47 h0_48 h0_49 h0_50 h0_f51 h0_52 h0_f53 h0_5 h0_5k tN h0_5c)) hP hD hS hA [0, 2] (by decide +kernel) rfl
              have hKc := hK.sub (tys' := [(h0_5k, .byte)]) [1] rfl
              have hrv := va_recv hKc hPc (ci := 12) (q0 := 0) rfl rfl
              refine va_calli (va_runV (As := []) (rest := [.ref ts10]) ⟨hx, hb, hml, hown, hts⟩ (c_X12_look l dC dI H.size h0 h0_f0 h0_1 h0_2 h0_3 h0_4 h0_5 h0_f6 h0_f7 h0_f8 h0_f9 x_103 h0_f12 h0_f13 h0_f14 h0_15 h0_16 h0_f17 h0_18 h0_19 h0_20 h0_21 h0_22 h0_23 h0_24 h0_25 h0_f26 h0_f27 h0_f28 h0_f29 h0_f30 h0_f31 h0_32 h0_33 h0_f34 h0_35 h0_36 h0_37 h0_38 h0_39 h0_40 h0_f41 h0_f42 h0_f43 h0_f44 h0_45 h0_46 h0_47 h0_48 h0_49 h0_50 h0_f51 h0_52 h0_f53 h0_5k h0_5c tN g_h0_f6 g_h0_f7 g_h0_f8 (RG_w g_h0_f9 (by decide +kernel)) (RG_w h_114 (by decide +kernel)) g_h0_f17 g_h0_f26 g_h0_f27 g_h0_f28 g_h0_f29 g_h0_f30 g_h0_f31 g_h0_f34 g_h0_f41 g_h0_f51 g_h0_f53 htN) (cwV 0 hts gf_c_X12_readItems_c_X12_look rfl rfl rfl mdV_X12_look ⟨Nat.le_of_ble_eq_true rfl, Nat.le_of_ble_eq_true rfl⟩) ⟨fun a U g mk q => by obtain ⟨q0, q1, qP, qK, qD⟩ := q; exact ⟨q0, q1, qP, va_K.moved (u := U) (U := U.calling g mk a) (Vm.Alike.refl U.vm) qK, qD⟩, hrv, fun U hU hW => ⟨rfl, by rw [hU], by rw [hU]; exact hPc, va_K.moved hW.alike hKc, hDc.weaken (fun _ _ _ _ => trivial)⟩⟩ rfl rfl hl.1 rfl (lv_room (Nat.le_of_ble_eq_true rfl)) dX12_readItems_127 ⟨Nat.le_of_ble_eq_true rfl, Nat.le_of_ble_eq_true rfl⟩) hS (fun q _ h => hFc q h) hFc (fun r_133 x_134 t H1 locs ht hvm hw hB hz1 hk1 hS => ?_)
              obtain ⟨hP1, hK1, hD1⟩ := hB
              rw [ht] at hP1
              obtain ⟨hP, hD⟩ := cl_put (w1 := (wd_c_X12_look h0 h0_f0 h0_1 h0_2 h0_3 h0_4 h0_5 h0_f6 h0_f7 h0_f8 h0_f9 x_134 (-1) h0_f12 h0_f13 h0_f14 h0_15 h0_16 h0_f17 h0_18 h0_19 h0_20 h0_21 h0_22 h0_23 h0_24 h0_25 h0_f26 h0_f27 h0_f28 h0_f29 h0_f30 h0_f31 h0_32 h0_33 h0_f34 h0_35 h0_36 h0_37 h0_38 h0_39 h0_40 h0_f41 h0_f42 h0_f43 h0_f44 h0_45 h0_46 h0_47 h0_48 h0_49 h0_50 h0_f51 h0_52 h0_f53 h0_5 h0_5k tN h0_5c)) (nw := (wd_c_X12_readItems h0 h0_f0 h0_1 h0_2 h0_3 h0_4 h0_5 h0_f6 h0_f7 h0_f8 h0_f9 x_134 (-1) h0_f12 h0_f13 h0_f14 h0_15 h0_16 h0_f17 h0_18 h0_19 h0_20 h0_21 h0_22 h0_23 h0_24 h0_25 h0_f26 h0_f27 h0_f28 h0_f29 h0_f30 h0_f31 h0_32 h0_33 h0_f34 h0_35 h0_36 h0_37 h0_38 h0_39 h0_40 h0_f41 h0_f42 h0_f43 h0_f44 h0_45 h0_46 h0_47 h0_48 h0_49 h0_50 h0_f51 h0_52 h0_f53 h2 h2k w_128 h0_5 h0_5k tN h0_5c)) hP hD [0, 2] [3, 1, 4] 3 rfl hqc (by decide +kernel) rfl hk1 hFc hP1 hD1
              generalize H1 = H at hP hS ⊢
              as_aux_lemma =>
              rcases hw with ⟨h_135, h_136, h_137, h_138, h_139⟩ | ⟨h_140, h_141, h_142, h_143, h_144, h_145⟩
              · rw [h_135]
                obtain ⟨hPc, hDc, hFc, hqc⟩ := cl_cut (wc := []) hP hD hS hA [] (by decide +kernel) rfl
                have hKc := hK.sub (tys' := []) [] rfl
                refine va_calli (va_runS (As := [.ref ts10, .int (-1)]) (rest := []) ⟨hx, hb, hml, hown, hts⟩ (c_X12_spotOf l dC dI H.size ts10 tv10) (va_cwS 2 hts gf_c_X12_readItems_c_X12_spotOf rfl rfl rfl md_X12_spotOf ⟨Nat.le_of_ble_eq_true rfl, Nat.le_of_ble_eq_true rfl⟩) ⟨fun a U g mk q => by obtain ⟨q0, q1, qP, qK, qD, qE0, qE1, qE2, qE3, qE4, qE5⟩ := q; exact ⟨q0, q1, qP, va_K.moved (u := U) (U := U.calling g mk a) (Vm.Alike.refl U.vm) qK, qD, va_OF.moved (u := U) (U := U.calling g mk a) (Vm.Alike.refl U.vm) qE0, va_T.moved (u := U) (U := U.calling g mk a) (Vm.Alike.refl U.vm) qE1, va_Z.moved (u := U) (U := U.calling g mk a) (Vm.Alike.refl U.vm) qE2, va_OF.moved (u := U) (U := U.calling g mk a) (Vm.Alike.refl U.vm) qE3, va_O.moved (u := U) (U := U.calling g mk a) (Vm.Alike.refl U.vm) qE4, va_Zq.moved (u := U) (U := U.calling g mk a) (Vm.Alike.refl U.vm) qE5⟩, fun U hU hW => ⟨rfl, by rw [hU], by rw [hU]; exact hPc, va_K.moved hW.alike hKc, hDc.weaken (fun _ _ _ _ => trivial), va_OF.moved hW.alike (by rw [hU]; exact (hE_65.kept hS.2.1).narrow hFc), va_T.moved hW.alike (by rw [hU]; exact (hE_66.kept hS.2.1).narrow hFc), va_Z.moved hW.alike (by rw [hU]; exact (hE_10.kept hS.2.1).narrow hFc), va_OF.moved hW.alike (by rw [hU]; exact (hE_64.kept hS.2.1).narrow hFc), va_O.moved hW.alike (by rw [hU]; exact (hE_63.kept hS.2.1).narrow hFc), va_Zq.moved hW.alike (by rw [hU]; exact (hE_11.kept hS.2.1).narrow hFc)⟩⟩ rfl rfl hl.1 rfl (lv_room (Nat.le_of_ble_eq_true rfl)) dX12_readItems_130 ⟨Nat.le_of_ble_eq_true rfl, Nat.le_of_ble_eq_true rfl⟩) hS (fun q _ h => hFc q h) hFc (fun r_146 u t H1 locs ht hvm hw hB hz1 hk1 hS => ?_)
                obtain ⟨hP1, hK1, hD1⟩ := hB
                rw [ht] at hP1
                have hP := bv_still hP hk1
                generalize H1 = H at hP hS ⊢
                as_aux_lemma =>
                have h_147 := hw
                rw [h_147]
                refine lv_istore (lv' := [(6, .int (-1)), (5, .int x_92), (0, .ref h0), (1, .int p1), (2, .ref h2), (3, .int p3), (4, .ref ts10)]) hx hb dX12_readItems_133 hl (Nat.le_of_ble_eq_true rfl) rfl (fun ls hl => ?_)
                refine lv_goto (tgt := 45) hx hb dX12_readItems_135 rfl ?_
                exact hU _ _ _ (J45 x_92 x_134 w_128 g_h0_f10 g_h0_f17 g_h0_f26 g_h0_f27 g_h0_f28 g_h0_f29 g_h0_f30 g_h0_f31 g_h0_f34 g_h0_f41 g_h0_f51 g_h0_f53 g_h0_f6 g_h0_f7 g_h0_f8 (RG_w g_h0_f9 (by decide +kernel)) h_136 g_p1 g_p3 a_131 i_130 (by have := r_h0_f10_j45b_h0_f10; have := q_95; have := h_117; have := h_137; omega) _ _ _ hP hD hS (lv_sub hl [0, 1, 2, 3, 4, 5, 6] rfl))
              · have nb_148 := h_145.2.resolve_left (fun q => by have g9 := h_140; rw [q] at g9; exact absurd g9.1 (by decide +kernel))
                obtain ⟨hPc, hDc, hFc, hqc⟩ := cl_cut (wc := []) hP hD hS hA [] (by decide +kernel) rfl
                have hKc := hK.sub (tys' := []) [] rfl
                refine va_calli (va_runS (As := [.ref ts10, .int r_133]) (rest := []) ⟨hx, hb, hml, hown, hts⟩ (c_X12_spotOf_1 l dC dI H.size ts10 r_133 tv10 h_140) (va_cwS 2 hts gf_c_X12_readItems_c_X12_spotOf_1 rfl rfl rfl md_X12_spotOf ⟨Nat.le_of_ble_eq_true rfl, Nat.le_of_ble_eq_true rfl⟩) ⟨fun a U g mk q => by obtain ⟨q0, q1, qP, qK, qD, qE0, qE1, qE2, qE3, qE4, qE5⟩ := q; exact ⟨q0, q1, qP, va_K.moved (u := U) (U := U.calling g mk a) (Vm.Alike.refl U.vm) qK, qD, va_OF.moved (u := U) (U := U.calling g mk a) (Vm.Alike.refl U.vm) qE0, va_T.moved (u := U) (U := U.calling g mk a) (Vm.Alike.refl U.vm) qE1, va_Z.moved (u := U) (U := U.calling g mk a) (Vm.Alike.refl U.vm) qE2, va_OF.moved (u := U) (U := U.calling g mk a) (Vm.Alike.refl U.vm) qE3, va_O.moved (u := U) (U := U.calling g mk a) (Vm.Alike.refl U.vm) qE4, va_Zq.moved (u := U) (U := U.calling g mk a) (Vm.Alike.refl U.vm) qE5⟩, fun U hU hW => ⟨rfl, by rw [hU], by rw [hU]; exact hPc, va_K.moved hW.alike hKc, hDc.weaken (fun _ _ _ _ => trivial), va_OF.moved hW.alike (by rw [hU]; exact (hE_65.kept hS.2.1).narrow hFc), va_T.moved hW.alike (by rw [hU]; exact (hE_66.kept hS.2.1).narrow hFc), va_Z.moved hW.alike (by rw [hU]; exact (hE_10.kept hS.2.1).narrow hFc), va_OF.moved hW.alike (by rw [hU]; exact (hE_64.kept hS.2.1).narrow hFc), va_O.moved hW.alike (by rw [hU]; exact (hE_63.kept hS.2.1).narrow hFc), va_Zq.moved hW.alike (by rw [hU]; exact (hE_11.kept hS.2.1).narrow hFc)⟩⟩ rfl rfl hl.1 rfl (lv_room (Nat.le_of_ble_eq_true rfl)) dX12_readItems_130 ⟨Nat.le_of_ble_eq_true rfl, Nat.le_of_ble_eq_true rfl⟩) hS (fun q _ h => hFc q h) hFc (fun r_149 u t H1 locs ht hvm hw hB hz1 hk1 hS => ?_)
                obtain ⟨hP1, hK1, hD1⟩ := hB
                rw [ht] at hP1
                have hP := bv_still hP hk1
                generalize H1 = H at hP hS ⊢
                as_aux_lemma =>
                rcases hw with h_150 | ⟨h_151, h_152⟩ | ⟨h_153, h_154⟩ | ⟨h_155, h_156⟩ | ⟨h_157, h_158⟩
                · rw [h_150]
                  refine lv_istore (lv' := [(6, .int (-1)), (5, .int x_92), (0, .ref h0), (1, .int p1), (2, .ref h2), (3, .int p3), (4, .ref ts10)]) hx hb dX12_readItems_133 hl (Nat.le_of_ble_eq_true rfl) rfl (fun ls hl => ?_)
                  refine lv_goto (tgt := 45) hx hb dX12_readItems_135 rfl ?_
                  exact hU _ _ _ (J45 x_92 x_134 w_128 g_h0_f10 g_h0_f17 g_h0_f26 g_h0_f27 g_h0_f28 g_h0_f29 g_h0_f30 g_h0_f31 g_h0_f34 g_h0_f41 g_h0_f51 g_h0_f53 g_h0_f6 g_h0_f7 g_h0_f8 (RG_w g_h0_f9 (by decide +kernel)) (RG_w h_141 (by decide +kernel)) g_p1 g_p3 a_131 i_130 (by have := r_h0_f10_j45b_h0_f10; have := q_95; have := h_117; have := h_143; omega) _ _ _ hP hD hS (lv_sub hl [0, 1, 2, 3, 4, 5, 6] rfl))
                · rw [h_151]
                  refine lv_istore (lv' := [(6, .int 3), (5, .int x_92), (0, .ref h0), (1, .int p1), (2, .ref h2), (3, .int p3), (4, .ref ts10)]) hx hb dX12_readItems_133 hl (Nat.le_of_ble_eq_true rfl) rfl (fun ls hl => ?_)
                  refine lv_goto (tgt := 45) hx hb dX12_readItems_135 rfl ?_
                  exact hU _ _ _ (ih45b 3 x_92 x_134 w_128 (mu_s (MU_lt (by have := q_95; have := h_117; have := h_143; omega)) hM45b) g_h0_f10 g_h0_f17 g_h0_f26 g_h0_f27 g_h0_f28 g_h0_f29 g_h0_f30 g_h0_f31 g_h0_f34 g_h0_f41 g_h0_f51 g_h0_f53 g_h0_f6 g_h0_f7 g_h0_f8 g_h0_f9 h_141 (RG_w (RG_k 3 3 rfl) (by decide +kernel)) g_p1 g_p3 a_131 i_130 (by have := r_h0_f10_j45b_h0_f10; have := q_95; have := h_117; have := h_143; omega) _ _ _ hP hD hS (lv_sub hl [0, 1, 2, 3, 4, 5, 6] rfl))
                · rw [h_153]
                  refine lv_istore (lv' := [(6, .int 2), (5, .int x_92), (0, .ref h0), (1, .int p1), (2, .ref h2), (3, .int p3), (4, .ref ts10)]) hx hb dX12_readItems_133 hl (Nat.le_of_ble_eq_true rfl) rfl (fun ls hl => ?_)
                  refine lv_goto (tgt := 45) hx hb dX12_readItems_135 rfl ?_
                  exact hU _ _ _ (ih45b 2 x_92 x_134 w_128 (mu_s (MU_lt (by have := q_95; have := h_117; have := h_143; omega)) hM45b) g_h0_f10 g_h0_f17 g_h0_f26 g_h0_f27 g_h0_f28 g_h0_f29 g_h0_f30 g_h0_f31 g_h0_f34 g_h0_f41 g_h0_f51 g_h0_f53 g_h0_f6 g_h0_f7 g_h0_f8 g_h0_f9 h_141 (RG_w (RG_k 2 2 rfl) (by decide +kernel)) g_p1 g_p3 a_131 i_130 (by have := r_h0_f10_j45b_h0_f10; have := q_95; have := h_117; have := h_143; omega) _ _ _ hP hD hS (lv_sub hl [0, 1, 2, 3, 4, 5, 6] rfl))
                · rw [h_155]
                  refine lv_istore (lv' := [(6, .int 1), (5, .int x_92), (0, .ref h0), (1, .int p1), (2, .ref h2), (3, .int p3), (4, .ref ts10)]) hx hb dX12_readItems_133 hl (Nat.le_of_ble_eq_true rfl) rfl (fun ls hl => ?_)
                  as_aux_lemma =>
                  refine lv_goto (tgt := 45) hx hb dX12_readItems_135 rfl ?_
                  exact hU _ _ _ (ih45b 1 x_92 x_134 w_128 (mu_s (MU_lt (by have := q_95; have := h_117; have := h_143; omega)) hM45b) g_h0_f10 g_h0_f17 g_h0_f26 g_h0_f27 g_h0_f28 g_h0_f29 g_h0_f30 g_h0_f31 g_h0_f34 g_h0_f41 g_h0_f51 g_h0_f53 g_h0_f6 g_h0_f7 g_h0_f8 g_h0_f9 h_141 (RG_w (RG_k 1 1 rfl) (by decide +kernel)) g_p1 g_p3 a_131 i_130 (by have := r_h0_f10_j45b_h0_f10; have := q_95; have := h_117; have := h_143; omega) _ _ _ hP hD hS (lv_sub hl [0, 1, 2, 3, 4, 5, 6] rfl))
                · rw [h_157]
                  refine lv_istore (lv' := [(6, .int 0), (5, .int x_92), (0, .ref h0), (1, .int p1), (2, .ref h2), (3, .int p3), (4, .ref ts10)]) hx hb dX12_readItems_133 hl (Nat.le_of_ble_eq_true rfl) rfl (fun ls hl => ?_)
                  refine lv_goto (tgt := 45) hx hb dX12_readItems_135 rfl ?_
                  exact hU _ _ _ (ih45b 0 x_92 x_134 w_128 (mu_s (MU_lt (by have := q_95; have := h_117; have := h_143; omega)) hM45b) g_h0_f10 g_h0_f17 g_h0_f26 g_h0_f27 g_h0_f28 g_h0_f29 g_h0_f30 g_h0_f31 g_h0_f34 g_h0_f41 g_h0_f51 g_h0_f53 g_h0_f6 g_h0_f7 g_h0_f8 g_h0_f9 h_141 (RG_w (RG_k 0 0 rfl) (by decide +kernel)) g_p1 g_p3 a_131 i_130 (by have := r_h0_f10_j45b_h0_f10; have := q_95; have := h_117; have := h_143; omega) _ _ _ hP hD hS (lv_sub hl [0, 1, 2, 3, 4, 5, 6] rfl))
          · rw [h_88]
            refine lv_if_eq (tgt := 75) hx hb dX12_readItems_66 rfl (fun c_159 => absurd c_159 (by decide +kernel)) (fun c_159 => ?_)
            refine lv_aload_n hx hb dX12_readItems_69 rfl (lv_at hl 2 rfl) ?_
            obtain ⟨hPc, hDc, hFc, hqc⟩ := cl_cut (wc := (wd_c_X12_fails h0 h0_f0 h0_1 h0_2 h0_3 h0_4 h0_5 h0_f6 h0_f7 h0_f8 h0_f9 j45b_h0_f10 (-1) h0_f12 h0_f13 h0_f14 h0_15 h0_16 h0_f17 h0_18 h0_19 h0_20 h0_21 h0_22 h0_23 h0_24 h0_25 h0_f26 h0_f27 h0_f28 h0_f29 h0_f30 h0_f31 h0_32 h0_33 h0_f34 h0_35 h0_36 h0_37 h0_38 h0_39 h0_40 h0_f41 h0_f42 h0_f43 h0_f44 h0_45 h0_46 h0_47 h0_48 h0_49 h0_50 h0_f51 h0_52 h0_f53)) hP hD hS hA [0] (by decide +kernel) rfl
            have hKc := hK.sub (tys' := []) [] rfl
            have hrv := va_recv hKc hPc (ci := 12) (q0 := 0) rfl rfl
            refine va_calli (va_runV (As := []) (rest := []) ⟨hx, hb, hml, hown, hts⟩ (c_X12_fails l dC dI H.size h0 h0_f0 h0_1 h0_2 h0_3 h0_4 h0_5 h0_f6 h0_f7 h0_f8 h0_f9 j45b_h0_f10 h0_f12 h0_f13 h0_f14 h0_15 h0_16 h0_f17 h0_18 h0_19 h0_20 h0_21 h0_22 h0_23 h0_24 h0_25 h0_f26 h0_f27 h0_f28 h0_f29 h0_f30 h0_f31 h0_32 h0_33 h0_f34 h0_35 h0_36 h0_37 h0_38 h0_39 h0_40 h0_f41 h0_f42 h0_f43 h0_f44 h0_45 h0_46 h0_47 h0_48 h0_49 h0_50 h0_f51 h0_52 h0_f53 g_h0_f6 g_h0_f7 g_h0_f8 (RG_w g_h0_f9 (by decide +kernel)) (RG_w g_j45b_h0_f10 (by decide +kernel)) g_h0_f17 g_h0_f26 g_h0_f27 g_h0_f28 g_h0_f29 g_h0_f30 g_h0_f31 g_h0_f34 g_h0_f41 g_h0_f51 g_h0_f53) (cwV 0 hts gf_c_X12_readItems_c_X12_fails rfl rfl rfl mdV_X12_fails ⟨Nat.le_of_ble_eq_true rfl, Nat.le_of_ble_eq_true rfl⟩) ⟨fun a U g mk q => by obtain ⟨q0, q1, qP, qK, qD⟩ := q; exact ⟨q0, q1, qP, va_K.moved (u := U) (U := U.calling g mk a) (Vm.Alike.refl U.vm) qK, qD⟩, hrv, fun U hU hW => ⟨rfl, by rw [hU], by rw [hU]; exact hPc, va_K.moved hW.alike hKc, hDc.weaken (fun _ _ _ _ => trivial)⟩⟩ rfl rfl hl.1 rfl (lv_room (Nat.le_of_ble_eq_true rfl)) dX12_readItems_70 ⟨Nat.le_of_ble_eq_true rfl, Nat.le_of_ble_eq_true rfl⟩) hS (fun q _ h => hFc q h) hFc (fun r_160 u t H1 locs ht hvm hw hB hz1 hk1 hS => ?_)
            obtain ⟨hP1, hK1, hD1⟩ := hB
            rw [ht] at hP1
            obtain ⟨hP, hD⟩ := cl_put (w1 := (wd_c_X12_fails h0 h0_f0 h0_1 h0_2 h0_3 h0_4 h0_5 h0_f6 h0_f7 h0_f8 h0_f9 j45b_h0_f10 j45b_h0_f10 h0_f12 h0_f13 h0_f14 h0_15 h0_16 h0_f17 h0_18 h0_19 h0_20 h0_21 h0_22 h0_23 h0_24 h0_25 h0_f26 h0_f27 h0_f28 h0_f29 h0_f30 h0_f31 h0_32 h0_33 h0_f34 h0_35 h0_36 h0_37 h0_38 h0_39 h0_40 h0_f41 h0_f42 h0_f43 h0_f44 h0_45 h0_46 h0_47 h0_48 h0_49 h0_50 h0_f51 h0_52 h0_f53)) (nw := (wd_c_X12_readItems h0 h0_f0 h0_1 h0_2 h0_3 h0_4 h0_5 h0_f6 h0_f7 h0_f8 h0_f9 j45b_h0_f10 j45b_h0_f10 h0_f12 h0_f13 h0_f14 h0_15 h0_16 h0_f17 h0_18 h0_19 h0_20 h0_21 h0_22 h0_23 h0_24 h0_25 h0_f26 h0_f27 h0_f28 h0_f29 h0_f30 h0_f31 h0_32 h0_33 h0_f34 h0_35 h0_36 h0_37 h0_38 h0_39 h0_40 h0_f41 h0_f42 h0_f43 h0_f44 h0_45 h0_46 h0_47 h0_48 h0_49 h0_50 h0_f51 h0_52 h0_f53 h2 h2k j45b_h2c h0_5 h0_5k tN h0_5c)) hP hD [0] [3, 1, 2] 3 rfl hqc (by decide +kernel) rfl hk1 hFc hP1 hD1
            generalize H1 = H at hP hS ⊢
            as_aux_lemma =>
            have h_161 := hw
            rw [h_161]
            refine lv_pop hx hb dX12_readItems_73 rfl ?_
            have hK9 := hK.sub (tys' := []) [] rfl
            exact W.vret hx hb hr (fun t ht hW => ⟨⟨(j45b_h0_f10, j45b_h0_f10, j45b_h2c), rfl, (Or.inr ⟨(RG_w g_j45b_h0_f10 (by decide +kernel)), (RG_w g_j45b_h0_f10 (by decide +kernel)), a_j45b_h2c, g_h0_f9⟩), by rw [ht]; exact hP, va_K.moved hW.alike hK9, hD⟩, hS.F ht⟩) hS.2.2 dX12_readItems_74
        by_cases c_162 : j45b_l6 = 2
        · subst c_162
          refine lv_iload hx hb dX12_readItems_59 (lv_at hl 1 rfl) ?_
          refine lv_iload hx hb dX12_readItems_61 (lv_at hl 0 rfl) ?_
          obtain ⟨hPc, hDc, hFc, hqc⟩ := cl_cut (wc := []) hP hD hS hA [] (by decide +kernel) rfl
          have hKc := hK.sub (tys' := []) [] rfl
          refine va_calli (va_runS (As := [.int j45b_l5, .int 2]) (rest := []) ⟨hx, hb, hml, hown, hts⟩ (c_X12_has_2 l dC dI H.size j45b_l5 2 (RG_w (RG_k 2 2 rfl) (by decide +kernel))) (va_cwS 2 hts gf_c_X12_readItems_c_X12_has_2 rfl rfl rfl md_X12_has ⟨Nat.le_of_ble_eq_true rfl, Nat.le_of_ble_eq_true rfl⟩) ⟨fun a U g mk q => by obtain ⟨q0, q1, qP, qK, qD⟩ := q; exact ⟨q0, q1, qP, va_K.moved (u := U) (U := U.calling g mk a) (Vm.Alike.refl U.vm) qK, qD⟩, fun U hU hW => ⟨rfl, by rw [hU], by rw [hU]; exact hPc, va_K.moved hW.alike hKc, hDc.weaken (fun _ _ _ _ => trivial)⟩⟩ rfl rfl hl.1 rfl (lv_room (Nat.le_of_ble_eq_true rfl)) dX12_readItems_63 ⟨Nat.le_of_ble_eq_true rfl, Nat.le_of_ble_eq_true rfl⟩) hS (fun q _ h => hFc q h) hFc (fun r_163 u t H1 locs ht hvm hw hB hz1 hk1 hS => ?_)
          obtain ⟨hP1, hK1, hD1⟩ := hB
          rw [ht] at hP1
          have hP := bv_still hP hk1
          generalize H1 = H at hP hS ⊢
          as_aux_lemma =>
          rcases hw with ⟨h_164, h_165⟩ | ⟨h_166, h_167⟩
          · rw [h_164]
            refine lv_if_eq (tgt := 75) hx hb dX12_readItems_66 rfl (fun c_168 => ?_) (fun c_168 => absurd c_168 (by decide +kernel))
            refine lv_iload hx hb dX12_readItems_75 (lv_at hl 1 rfl) ?_
            refine lv_iconst (v := 1) hx hb dX12_readItems_77 kc_iconst_1 ?_
            refine lv_iload hx hb dX12_readItems_78 (lv_at hl 0 rfl) ?_
            refine lv_ishl hx hb dX12_readItems_80 ?_
            refine lv_topi (fun x_169 ex_169 => ?_)
            obtain rfl : x_169 = 4 := ex_169.trans (by decide +kernel)
            refine lv_ior hx hb dX12_readItems_81 ?_
            refine lv_topi (fun x_170 ex_170 => ?_)
            refine lv_istore (lv' := [(5, .int x_170), (6, .int 2), (0, .ref h0), (1, .int p1), (2, .ref h2), (3, .int p3), (4, .ref ts10)]) hx hb dX12_readItems_82 hl (Nat.le_of_ble_eq_true rfl) rfl (fun ls hl => ?_)
            refine lv_aload_n hx hb dX12_readItems_84 rfl (lv_at hl 2 rfl) ?_
            refine lv_dup hx hb dX12_readItems_85 rfl ?_
            as_aux_lemma =>
            refine va_get (D := (dC, dI)) (ci := 12) (v := .int j45b_h0_f10) (C := RX12) (T := TX12) (N := 54) hx hb hts iw_c_X12_readItems_X12 hown hK hP 0 rfl rfl 10 (by decide +kernel) (hts (.fieldLink RX12 134 "BuoyVoteModel" "at" "I") (List.mem_of_getElem? (i := 21) rfl)) (fun _ h9 => h9) rfl dX12_readItems_86 ?_
            refine lv_iconst (v := 1) hx hb dX12_readItems_89 kc_iconst_1 ?_
            refine lv_iadd hx hb dX12_readItems_90 ?_
            refine lv_topi (fun x_171 ex_171 => ?_)
            have g_172 : RG x_171 1 240 := RG_add ex_171 g_j45b_h0_f10 (RG_k 1 1 rfl) (by decide +kernel)
            have q_173 : x_171.toInt = j45b_h0_f10.toInt + 1 := eq_add ex_171 g_j45b_h0_f10 (q := 1) rfl (by decide +kernel)
            refine va_put (D := (dC, dI)) (ci := 12) (v := .int x_171) (ty := .int) (C := RX12) (T := TX12) (N := 54) hx hb hts iw_c_X12_readItems_X12 tyX12 tyX12_ok nmX12 hown hK hP hD hS 0 rfl rfl 10 (by decide +kernel) (hts (.fieldLink RX12 134 "BuoyVoteModel" "at" "I") (List.mem_of_getElem? (i := 21) rfl)) (fun _ h9 => h9) rfl (by decide +kernel) rfl rfl (Nat.le_of_ble_eq_true rfl) dX12_readItems_91 (fun H locs hP hD hS => ?_)
            have hP : va_P (dC, dI) vwCl (wd_c_X12_readItems h0 h0_f0 h0_1 h0_2 h0_3 h0_4 h0_5 h0_f6 h0_f7 h0_f8 h0_f9 x_171 (-1) h0_f12 h0_f13 h0_f14 h0_15 h0_16 h0_f17 h0_18 h0_19 h0_20 h0_21 h0_22 h0_23 h0_24 h0_25 h0_f26 h0_f27 h0_f28 h0_f29 h0_f30 h0_f31 h0_32 h0_33 h0_f34 h0_35 h0_36 h0_37 h0_38 h0_39 h0_40 h0_f41 h0_f42 h0_f43 h0_f44 h0_45 h0_46 h0_47 h0_48 h0_49 h0_50 h0_f51 h0_52 h0_f53 h2 h2k j45b_h2c h0_5 h0_5k tN h0_5c) H := hP
            have hD : va_D A (wd_c_X12_readItems h0 h0_f0 h0_1 h0_2 h0_3 h0_4 h0_5 h0_f6 h0_f7 h0_f8 h0_f9 x_171 (-1) h0_f12 h0_f13 h0_f14 h0_15 h0_16 h0_f17 h0_18 h0_19 h0_20 h0_21 h0_22 h0_23 h0_24 h0_25 h0_f26 h0_f27 h0_f28 h0_f29 h0_f30 h0_f31 h0_32 h0_33 h0_f34 h0_35 h0_36 h0_37 h0_38 h0_39 h0_40 h0_f41 h0_f42 h0_f43 h0_f44 h0_45 h0_46 h0_47 h0_48 h0_49 h0_50 h0_f51 h0_52 h0_f53 h2 h2k j45b_h2c h0_5 h0_5k tN h0_5c) := hD
            refine lv_aload_n hx hb dX12_readItems_94 rfl (lv_at hl 4 rfl) ?_
            refine lv_iload_n hx hb dX12_readItems_95 rfl (lv_at hl 5 rfl) ?_
            refine lv_iload hx hb dX12_readItems_96 (lv_at hl 1 rfl) ?_
            refine lv_iadd hx hb dX12_readItems_98 ?_
            refine lv_topi (fun x_174 ex_174 => ?_)
            as_aux_lemma =>
            have g_175 : RG x_174 2 10 := RG_add ex_174 g_p3 (RG_k 2 2 rfl) (by decide +kernel)
            refine lv_aload_n hx hb dX12_readItems_99 rfl (lv_at hl 2 rfl) ?_
            refine lv_iload_n hx hb dX12_readItems_100 rfl (lv_at hl 3 rfl) ?_
            refine lv_iload hx hb dX12_readItems_101 (lv_at hl 1 rfl) ?_
            obtain ⟨hPc, hDc, hFc, hqc⟩ := cl_cut (wc := []) hP hD hS hA [] (by decide +kernel) rfl
            have hKc := hK.sub (tys' := []) [] rfl
            refine va_calli (va_runS (As := [.int p1, .int 2]) (rest := [.ref h0, .int x_174, .ref h2]) ⟨hx, hb, hml, hown, hts⟩ (c_X12_leastOf_2 l dC dI H.size p1 2 g_p1 (RG_w (RG_k 2 2 rfl) (by decide +kernel))) (va_cwS 2 hts gf_c_X12_readItems_c_X12_leastOf_2 rfl rfl rfl md_X12_leastOf ⟨Nat.le_of_ble_eq_true rfl, Nat.le_of_ble_eq_true rfl⟩) ⟨fun a U g mk q => by obtain ⟨q0, q1, qP, qK, qD⟩ := q; exact ⟨q0, q1, qP, va_K.moved (u := U) (U := U.calling g mk a) (Vm.Alike.refl U.vm) qK, qD⟩, fun U hU hW => ⟨rfl, by rw [hU], by rw [hU]; exact hPc, va_K.moved hW.alike hKc, hDc.weaken (fun _ _ _ _ => trivial)⟩⟩ rfl rfl hl.1 rfl (lv_room (Nat.le_of_ble_eq_true rfl)) dX12_readItems_103 ⟨Nat.le_of_ble_eq_true rfl, Nat.le_of_ble_eq_true rfl⟩) hS (fun q _ h => hFc q h) hFc (fun r_176 u t H1 locs ht hvm hw hB hz1 hk1 hS => ?_)
            obtain ⟨hP1, hK1, hD1⟩ := hB
            rw [ht] at hP1
            have hP := bv_still hP hk1
            generalize H1 = H at hP hS ⊢
            as_aux_lemma =>
            rcases hw with ⟨h_177, h_178⟩ | ⟨h_179, h_180⟩
            · rw [h_177]
              exact RG_dead (RG_eq1 (RG_k 2 2 rfl) h_178 rfl (a' := 2) (b' := 1) (by decide +kernel)) (by decide +kernel)
            · rw [h_179]
              refine lv_iload_n hx hb dX12_readItems_106 rfl (lv_at hl 3 rfl) ?_
              refine lv_iload hx hb dX12_readItems_107 (lv_at hl 1 rfl) ?_
              obtain ⟨hPc, hDc, hFc, hqc⟩ := cl_cut (wc := []) hP hD hS hA [] (by decide +kernel) rfl
              have hKc := hK.sub (tys' := []) [] rfl
              refine va_calli (va_runS (As := [.int p1, .int 2]) (rest := [.int 1, .ref h0, .int x_174, .ref h2]) ⟨hx, hb, hml, hown, hts⟩ (c_X12_mostOf_2 l dC dI H.size p1 2 g_p1 (RG_w (RG_k 2 2 rfl) (by decide +kernel))) (va_cwS 2 hts gf_c_X12_readItems_c_X12_mostOf_2 rfl rfl rfl md_X12_mostOf ⟨Nat.le_of_ble_eq_true rfl, Nat.le_of_ble_eq_true rfl⟩) ⟨fun a U g mk q => by obtain ⟨q0, q1, qP, qK, qD⟩ := q; exact ⟨q0, q1, qP, va_K.moved (u := U) (U := U.calling g mk a) (Vm.Alike.refl U.vm) qK, qD⟩, fun U hU hW => ⟨rfl, by rw [hU], by rw [hU]; exact hPc, va_K.moved hW.alike hKc, hDc.weaken (fun _ _ _ _ => trivial)⟩⟩ rfl rfl hl.1 rfl (lv_room (Nat.le_of_ble_eq_true rfl)) dX12_readItems_109 ⟨Nat.le_of_ble_eq_true rfl, Nat.le_of_ble_eq_true rfl⟩) hS (fun q _ h => hFc q h) hFc (fun r_181 u t H1 locs ht hvm hw hB hz1 hk1 hS => ?_)
              obtain ⟨hP1, hK1, hD1⟩ := hB
              rw [ht] at hP1
              have hP := bv_still hP hk1
              generalize H1 = H at hP hS ⊢
              as_aux_lemma =>
              rcases hw with ⟨h_182, h_183⟩ | ⟨h_184, h_185⟩
              · rw [h_182]
                exact RG_dead (RG_eq1 (RG_k 2 2 rfl) h_183 rfl (a' := 2) (b' := 1) (by decide +kernel)) (by decide +kernel)
              · rw [h_184]
                obtain ⟨hPc, hDc, hFc, hqc⟩ := cl_cut (wc := (wd_c_X12_number_1 h0 h0_f0 h0_1 h0_2 h0_3 h0_4 h0_5 h0_f6 h0_f7 h0_f8 h0_f9 x_171 (-1) h0_f12 h0_f13 h0_f14 h0_15 h0_16 h0_f17 h0_18 h0_19 h0_20 h0_21 h0_22 h0_23 h0_24 h0_25 h0_f26 h0_f27 h0_f28 h0_f29 h0_f30 h0_f31 h0_32 h0_33 h0_f34 h0_35 h0_36 h0_37 h0_38 h0_39 h0_40 h0_f41 h0_f42 h0_f43 h0_f44 h0_45 h0_46 h0_47 h0_48 h0_49 h0_50 h0_f51 h0_52 h0_f53 h0_5 h0_5k tN h0_5c)) hP hD hS hA [0, 2] (by decide +kernel) rfl
                have hKc := hK.sub (tys' := [(h0_5k, .byte)]) [1] rfl
                have hrv := va_recv hKc hPc (ci := 12) (q0 := 0) rfl rfl
                refine va_calli (va_runV (As := [.int 1, .int 4]) (rest := [.int x_174, .ref h2]) ⟨hx, hb, hml, hown, hts⟩ (c_X12_number_1 l dC dI H.size h0 h0_f0 h0_1 h0_2 h0_3 h0_4 h0_5 h0_f6 h0_f7 h0_f8 h0_f9 x_171 h0_f12 h0_f13 h0_f14 h0_15 h0_16 h0_f17 h0_18 h0_19 h0_20 h0_21 h0_22 h0_23 h0_24 h0_25 h0_f26 h0_f27 h0_f28 h0_f29 h0_f30 h0_f31 h0_32 h0_33 h0_f34 h0_35 h0_36 h0_37 h0_38 h0_39 h0_40 h0_f41 h0_f42 h0_f43 h0_f44 h0_45 h0_46 h0_47 h0_48 h0_49 h0_50 h0_f51 h0_52 h0_f53 h0_5k h0_5c tN g_h0_f6 g_h0_f7 g_h0_f8 (RG_w g_h0_f9 (by decide +kernel)) (RG_w g_172 (by decide +kernel)) g_h0_f17 g_h0_f26 g_h0_f27 g_h0_f28 g_h0_f29 g_h0_f30 g_h0_f31 g_h0_f34 g_h0_f41 g_h0_f51 g_h0_f53 htN) (cwV 2 hts gf_c_X12_readItems_c_X12_number_1 rfl rfl rfl mdV_X12_number ⟨Nat.le_of_ble_eq_true rfl, Nat.le_of_ble_eq_true rfl⟩) ⟨fun a U g mk q => by obtain ⟨q0, q1, qP, qK, qD⟩ := q; exact ⟨q0, q1, qP, va_K.moved (u := U) (U := U.calling g mk a) (Vm.Alike.refl U.vm) qK, qD⟩, hrv, fun U hU hW => ⟨rfl, by rw [hU], by rw [hU]; exact hPc, va_K.moved hW.alike hKc, hDc.weaken (fun _ _ _ _ => trivial)⟩⟩ rfl rfl hl.1 rfl (lv_room (Nat.le_of_ble_eq_true rfl)) dX12_readItems_112 ⟨Nat.le_of_ble_eq_true rfl, Nat.le_of_ble_eq_true rfl⟩) hS (fun q _ h => hFc q h) hFc (fun r_186 u t H1 locs ht hvm hw hB hz1 hk1 hS => ?_)
                obtain ⟨x_187, x_188⟩ := u
                obtain ⟨hP1, hK1, hD1⟩ := hB
                rw [ht] at hP1
                obtain ⟨hP, hD⟩ := cl_put (w1 := (wd_c_X12_number_1 h0 h0_f0 h0_1 h0_2 h0_3 h0_4 h0_5 h0_f6 h0_f7 h0_f8 h0_f9 x_187 x_188 h0_f12 h0_f13 h0_f14 h0_15 h0_16 h0_f17 h0_18 h0_19 h0_20 h0_21 h0_22 h0_23 h0_24 h0_25 h0_f26 h0_f27 h0_f28 h0_f29 h0_f30 h0_f31 h0_32 h0_33 h0_f34 h0_35 h0_36 h0_37 h0_38 h0_39 h0_40 h0_f41 h0_f42 h0_f43 h0_f44 h0_45 h0_46 h0_47 h0_48 h0_49 h0_50 h0_f51 h0_52 h0_f53 h0_5 h0_5k tN h0_5c)) (nw := (wd_c_X12_readItems h0 h0_f0 h0_1 h0_2 h0_3 h0_4 h0_5 h0_f6 h0_f7 h0_f8 h0_f9 x_187 x_188 h0_f12 h0_f13 h0_f14 h0_15 h0_16 h0_f17 h0_18 h0_19 h0_20 h0_21 h0_22 h0_23 h0_24 h0_25 h0_f26 h0_f27 h0_f28 h0_f29 h0_f30 h0_f31 h0_32 h0_33 h0_f34 h0_35 h0_36 h0_37 h0_38 h0_39 h0_40 h0_f41 h0_f42 h0_f43 h0_f44 h0_45 h0_46 h0_47 h0_48 h0_49 h0_50 h0_f51 h0_52 h0_f53 h2 h2k j45b_h2c h0_5 h0_5k tN h0_5c)) hP hD [0, 2] [3, 1, 4] 3 rfl hqc (by decide +kernel) rfl hk1 hFc hP1 hD1
                generalize H1 = H at hP hS ⊢
                as_aux_lemma =>
                rcases hw with ⟨h_189, h_190, h_191, h_192⟩ | ⟨h_193, h_194, h_195, h_196⟩ | ⟨h_197, h_198, h_199, h_200, h_201⟩
                · rw [h_189]
                  have h_192 : x_171.toInt + 0 ≤ x_187.toInt := h_192
                  refine va_iast hx hb hK hP hD hS 1 0 rfl rfl (RG_in g_175 (by decide +kernel)) dX12_readItems_115 (fun H locs hP hD hS => ?_)
                  have hP : va_P (dC, dI) vwCl (wd_c_X12_readItems h0 h0_f0 h0_1 h0_2 h0_3 h0_4 h0_5 h0_f6 h0_f7 h0_f8 h0_f9 x_187 x_188 h0_f12 h0_f13 h0_f14 h0_15 h0_16 h0_f17 h0_18 h0_19 h0_20 h0_21 h0_22 h0_23 h0_24 h0_25 h0_f26 h0_f27 h0_f28 h0_f29 h0_f30 h0_f31 h0_32 h0_33 h0_f34 h0_35 h0_36 h0_37 h0_38 h0_39 h0_40 h0_f41 h0_f42 h0_f43 h0_f44 h0_45 h0_46 h0_47 h0_48 h0_49 h0_50 h0_f51 h0_52 h0_f53 h2 h2k (upd j45b_h2c (x_174 : Int32).toNatClampNeg 0) h0_5 h0_5k tN h0_5c) H := hP
                  have hD : va_D A (wd_c_X12_readItems h0 h0_f0 h0_1 h0_2 h0_3 h0_4 h0_5 h0_f6 h0_f7 h0_f8 h0_f9 x_187 x_188 h0_f12 h0_f13 h0_f14 h0_15 h0_16 h0_f17 h0_18 h0_19 h0_20 h0_21 h0_22 h0_23 h0_24 h0_25 h0_f26 h0_f27 h0_f28 h0_f29 h0_f30 h0_f31 h0_32 h0_33 h0_f34 h0_35 h0_36 h0_37 h0_38 h0_39 h0_40 h0_f41 h0_f42 h0_f43 h0_f44 h0_45 h0_46 h0_47 h0_48 h0_49 h0_50 h0_f51 h0_52 h0_f53 h2 h2k (upd j45b_h2c (x_174 : Int32).toNatClampNeg 0) h0_5 h0_5k tN h0_5c) := hD
                  have l_203 : (upd j45b_h2c (x_174 : Int32).toNatClampNeg 0) (x_174 : Int32).toNatClampNeg = 0 := pk_us
                  have a_204 : AI (upd j45b_h2c (x_174 : Int32).toNatClampNeg 0) 0 99 := AI_up a_j45b_h2c (RG_k 0 0 rfl) (by decide +kernel)
                  generalize (upd j45b_h2c (x_174 : Int32).toNatClampNeg 0) = w_202 at hP hD a_204 l_203
                  have hP : va_P (dC, dI) vwCl (wd_c_X12_readItems h0 h0_f0 h0_1 h0_2 h0_3 h0_4 h0_5 h0_f6 h0_f7 h0_f8 h0_f9 x_187 x_188 h0_f12 h0_f13 h0_f14 h0_15 h0_16 h0_f17 h0_18 h0_19 h0_20 h0_21 h0_22 h0_23 h0_24 h0_25 h0_f26 h0_f27 h0_f28 h0_f29 h0_f30 h0_f31 h0_32 h0_33 h0_f34 h0_35 h0_36 h0_37 h0_38 h0_39 h0_40 h0_f41 h0_f42 h0_f43 h0_f44 h0_45 h0_46 h0_47 h0_48 h0_49 h0_50 h0_f51 h0_52 h0_f53 h2 h2k w_202 h0_5 h0_5k tN h0_5c) H := hP
                  have hD : va_D A (wd_c_X12_readItems h0 h0_f0 h0_1 h0_2 h0_3 h0_4 h0_5 h0_f6 h0_f7 h0_f8 h0_f9 x_187 x_188 h0_f12 h0_f13 h0_f14 h0_15 h0_16 h0_f17 h0_18 h0_19 h0_20 h0_21 h0_22 h0_23 h0_24 h0_25 h0_f26 h0_f27 h0_f28 h0_f29 h0_f30 h0_f31 h0_32 h0_33 h0_f34 h0_35 h0_36 h0_37 h0_38 h0_39 h0_40 h0_f41 h0_f42 h0_f43 h0_f44 h0_45 h0_46 h0_47 h0_48 h0_49 h0_50 h0_f51 h0_52 h0_f53 h2 h2k w_202 h0_5 h0_5k tN h0_5c) := hD
                  refine lv_aload_n hx hb dX12_readItems_116 rfl (lv_at hl 2 rfl) ?_
                  refine va_get (D := (dC, dI)) (ci := 12) (v := .int x_188) (C := RX12) (T := TX12) (N := 54) hx hb hts iw_c_X12_readItems_X12 hown hK hP 0 rfl rfl 11 (by decide +kernel) (hts (.fieldLink RX12 143 "BuoyVoteModel" "fault" "I") (List.mem_of_getElem? (i := 48) rfl)) (fun _ h9 => h9) rfl dX12_readItems_117 ?_
                  refine lv_iconst (v := (-1)) hx hb dX12_readItems_120 kc_iconst_m1 ?_
                  as_aux_lemma =>
                  refine lv_icmp_ne (tgt := 45) hx hb dX12_readItems_121 rfl (fun c_205 => ?_) (fun c_205 => ?_)
                  · exact hU _ _ _ (J45c x_170 2 x_187 x_188 w_202 g_h0_f10 g_h0_f17 g_h0_f26 g_h0_f27 g_h0_f28 g_h0_f29 g_h0_f30 g_h0_f31 g_h0_f34 g_h0_f41 g_h0_f51 g_h0_f53 g_h0_f6 g_h0_f7 g_h0_f8 g_h0_f9 h_190 h_191 (RG_w (RG_k 2 2 rfl) (by decide +kernel)) g_p1 g_p3 a_204 _ _ _ hP hD hS (lv_sub hl [0, 1, 2, 3, 4, 5, 6] rfl))
                  · exact RG_dead (RG_eq1 h_191 (RG_k (-1) (-1) rfl) c_205 (a' := 0) (b' := (-1)) (by decide +kernel)) (by decide +kernel)
                · refine va_iast hx hb hK hP hD hS 1 0 rfl rfl (RG_in g_175 (by decide +kernel)) dX12_readItems_115 (fun H locs hP hD hS => ?_)
                  have hP : va_P (dC, dI) vwCl (wd_c_X12_readItems h0 h0_f0 h0_1 h0_2 h0_3 h0_4 h0_5 h0_f6 h0_f7 h0_f8 h0_f9 x_187 x_188 h0_f12 h0_f13 h0_f14 h0_15 h0_16 h0_f17 h0_18 h0_19 h0_20 h0_21 h0_22 h0_23 h0_24 h0_25 h0_f26 h0_f27 h0_f28 h0_f29 h0_f30 h0_f31 h0_32 h0_33 h0_f34 h0_35 h0_36 h0_37 h0_38 h0_39 h0_40 h0_f41 h0_f42 h0_f43 h0_f44 h0_45 h0_46 h0_47 h0_48 h0_49 h0_50 h0_f51 h0_52 h0_f53 h2 h2k (upd j45b_h2c (x_174 : Int32).toNatClampNeg r_186) h0_5 h0_5k tN h0_5c) H := hP
                  have hD : va_D A (wd_c_X12_readItems h0 h0_f0 h0_1 h0_2 h0_3 h0_4 h0_5 h0_f6 h0_f7 h0_f8 h0_f9 x_187 x_188 h0_f12 h0_f13 h0_f14 h0_15 h0_16 h0_f17 h0_18 h0_19 h0_20 h0_21 h0_22 h0_23 h0_24 h0_25 h0_f26 h0_f27 h0_f28 h0_f29 h0_f30 h0_f31 h0_32 h0_33 h0_f34 h0_35 h0_36 h0_37 h0_38 h0_39 h0_40 h0_f41 h0_f42 h0_f43 h0_f44 h0_45 h0_46 h0_47 h0_48 h0_49 h0_50 h0_f51 h0_52 h0_f53 h2 h2k (upd j45b_h2c (x_174 : Int32).toNatClampNeg r_186) h0_5 h0_5k tN h0_5c) := hD
                  have l_207 : (upd j45b_h2c (x_174 : Int32).toNatClampNeg r_186) (x_174 : Int32).toNatClampNeg = r_186 := pk_us
                  have a_208 : AI (upd j45b_h2c (x_174 : Int32).toNatClampNeg r_186) 0 99 := AI_up a_j45b_h2c h_193 (by decide +kernel)
                  generalize (upd j45b_h2c (x_174 : Int32).toNatClampNeg r_186) = w_206 at hP hD a_208 l_207
                  have hP : va_P (dC, dI) vwCl (wd_c_X12_readItems h0 h0_f0 h0_1 h0_2 h0_3 h0_4 h0_5 h0_f6 h0_f7 h0_f8 h0_f9 x_187 x_188 h0_f12 h0_f13 h0_f14 h0_15 h0_16 h0_f17 h0_18 h0_19 h0_20 h0_21 h0_22 h0_23 h0_24 h0_25 h0_f26 h0_f27 h0_f28 h0_f29 h0_f30 h0_f31 h0_32 h0_33 h0_f34 h0_35 h0_36 h0_37 h0_38 h0_39 h0_40 h0_f41 h0_f42 h0_f43 h0_f44 h0_45 h0_46 h0_47 h0_48 h0_49 h0_50 h0_f51 h0_52 h0_f53 h2 h2k w_206 h0_5 h0_5k tN h0_5c) H := hP
                  have hD : va_D A (wd_c_X12_readItems h0 h0_f0 h0_1 h0_2 h0_3 h0_4 h0_5 h0_f6 h0_f7 h0_f8 h0_f9 x_187 x_188 h0_f12 h0_f13 h0_f14 h0_15 h0_16 h0_f17 h0_18 h0_19 h0_20 h0_21 h0_22 h0_23 h0_24 h0_25 h0_f26 h0_f27 h0_f28 h0_f29 h0_f30 h0_f31 h0_32 h0_33 h0_f34 h0_35 h0_36 h0_37 h0_38 h0_39 h0_40 h0_f41 h0_f42 h0_f43 h0_f44 h0_45 h0_46 h0_47 h0_48 h0_49 h0_50 h0_f51 h0_52 h0_f53 h2 h2k w_206 h0_5 h0_5k tN h0_5c) := hD
                  refine lv_aload_n hx hb dX12_readItems_116 rfl (lv_at hl 2 rfl) ?_
                  refine va_get (D := (dC, dI)) (ci := 12) (v := .int x_188) (C := RX12) (T := TX12) (N := 54) hx hb hts iw_c_X12_readItems_X12 hown hK hP 0 rfl rfl 11 (by decide +kernel) (hts (.fieldLink RX12 143 "BuoyVoteModel" "fault" "I") (List.mem_of_getElem? (i := 48) rfl)) (fun _ h9 => h9) rfl dX12_readItems_117 ?_
                  refine lv_iconst (v := (-1)) hx hb dX12_readItems_120 kc_iconst_m1 ?_
                  as_aux_lemma =>
                  refine lv_icmp_ne (tgt := 45) hx hb dX12_readItems_121 rfl (fun c_209 => ?_) (fun c_209 => ?_)
                  · exact hU _ _ _ (J45c x_170 2 x_187 x_188 w_206 g_h0_f10 g_h0_f17 g_h0_f26 g_h0_f27 g_h0_f28 g_h0_f29 g_h0_f30 g_h0_f31 g_h0_f34 g_h0_f41 g_h0_f51 g_h0_f53 g_h0_f6 g_h0_f7 g_h0_f8 g_h0_f9 (RG_w h_194 (by decide +kernel)) (RG_w h_195 (by decide +kernel)) (RG_w (RG_k 2 2 rfl) (by decide +kernel)) g_p1 g_p3 a_208 _ _ _ hP hD hS (lv_sub hl [0, 1, 2, 3, 4, 5, 6] rfl))
                  · exact RG_dead (RG_eq1 h_195 (RG_k (-1) (-1) rfl) c_209 (a' := 0) (b' := (-1)) (by decide +kernel)) (by decide +kernel)
                · subst h_199
                  have h_201 : x_171.toInt + 1 ≤ x_187.toInt := h_201
                  refine va_iast hx hb hK hP hD hS 1 0 rfl rfl (RG_in g_175 (by decide +kernel)) dX12_readItems_115 (fun H locs hP hD hS => ?_)
                  have hP : va_P (dC, dI) vwCl (wd_c_X12_readItems h0 h0_f0 h0_1 h0_2 h0_3 h0_4 h0_5 h0_f6 h0_f7 h0_f8 h0_f9 x_187 (-1) h0_f12 h0_f13 h0_f14 h0_15 h0_16 h0_f17 h0_18 h0_19 h0_20 h0_21 h0_22 h0_23 h0_24 h0_25 h0_f26 h0_f27 h0_f28 h0_f29 h0_f30 h0_f31 h0_32 h0_33 h0_f34 h0_35 h0_36 h0_37 h0_38 h0_39 h0_40 h0_f41 h0_f42 h0_f43 h0_f44 h0_45 h0_46 h0_47 h0_48 h0_49 h0_50 h0_f51 h0_52 h0_f53 h2 h2k (upd j45b_h2c (x_174 : Int32).toNatClampNeg r_186) h0_5 h0_5k tN h0_5c) H := hP
                  have hD : va_D A (wd_c_X12_readItems h0 h0_f0 h0_1 h0_2 h0_3 h0_4 h0_5 h0_f6 h0_f7 h0_f8 h0_f9 x_187 (-1) h0_f12 h0_f13 h0_f14 h0_15 h0_16 h0_f17 h0_18 h0_19 h0_20 h0_21 h0_22 h0_23 h0_24 h0_25 h0_f26 h0_f27 h0_f28 h0_f29 h0_f30 h0_f31 h0_32 h0_33 h0_f34 h0_35 h0_36 h0_37 h0_38 h0_39 h0_40 h0_f41 h0_f42 h0_f43 h0_f44 h0_45 h0_46 h0_47 h0_48 h0_49 h0_50 h0_f51 h0_52 h0_f53 h2 h2k (upd j45b_h2c (x_174 : Int32).toNatClampNeg r_186) h0_5 h0_5k tN h0_5c) := hD
                  have l_211 : (upd j45b_h2c (x_174 : Int32).toNatClampNeg r_186) (x_174 : Int32).toNatClampNeg = r_186 := pk_us
                  have i_212 : BOi (p3.toInt + 4) (upd j45b_h2c (x_174 : Int32).toNatClampNeg r_186) := BOi_keep i_45b_h2 g_175 (by decide +kernel) (Or.inl (RG_w h_197 (by decide +kernel)))
                  have a_213 : AI (upd j45b_h2c (x_174 : Int32).toNatClampNeg r_186) 0 99 := AI_up a_j45b_h2c h_197 (by decide +kernel)
                  generalize (upd j45b_h2c (x_174 : Int32).toNatClampNeg r_186) = w_210 at hP hD a_213 l_211 i_212
                  have hP : va_P (dC, dI) vwCl (wd_c_X12_readItems h0 h0_f0 h0_1 h0_2 h0_3 h0_4 h0_5 h0_f6 h0_f7 h0_f8 h0_f9 x_187 (-1) h0_f12 h0_f13 h0_f14 h0_15 h0_16 h0_f17 h0_18 h0_19 h0_20 h0_21 h0_22 h0_23 h0_24 h0_25 h0_f26 h0_f27 h0_f28 h0_f29 h0_f30 h0_f31 h0_32 h0_33 h0_f34 h0_35 h0_36 h0_37 h0_38 h0_39 h0_40 h0_f41 h0_f42 h0_f43 h0_f44 h0_45 h0_46 h0_47 h0_48 h0_49 h0_50 h0_f51 h0_52 h0_f53 h2 h2k w_210 h0_5 h0_5k tN h0_5c) H := hP
                  have hD : va_D A (wd_c_X12_readItems h0 h0_f0 h0_1 h0_2 h0_3 h0_4 h0_5 h0_f6 h0_f7 h0_f8 h0_f9 x_187 (-1) h0_f12 h0_f13 h0_f14 h0_15 h0_16 h0_f17 h0_18 h0_19 h0_20 h0_21 h0_22 h0_23 h0_24 h0_25 h0_f26 h0_f27 h0_f28 h0_f29 h0_f30 h0_f31 h0_32 h0_33 h0_f34 h0_35 h0_36 h0_37 h0_38 h0_39 h0_40 h0_f41 h0_f42 h0_f43 h0_f44 h0_45 h0_46 h0_47 h0_48 h0_49 h0_50 h0_f51 h0_52 h0_f53 h2 h2k w_210 h0_5 h0_5k tN h0_5c) := hD
                  refine lv_aload_n hx hb dX12_readItems_116 rfl (lv_at hl 2 rfl) ?_
                  as_aux_lemma =>
                  refine va_get (D := (dC, dI)) (ci := 12) (v := .int (-1)) (C := RX12) (T := TX12) (N := 54) hx hb hts iw_c_X12_readItems_X12 hown hK hP 0 rfl rfl 11 (by decide +kernel) (hts (.fieldLink RX12 143 "BuoyVoteModel" "fault" "I") (List.mem_of_getElem? (i := 48) rfl)) (fun _ h9 => h9) rfl dX12_readItems_117 ?_
                  refine lv_iconst (v := (-1)) hx hb dX12_readItems_120 kc_iconst_m1 ?_
                  refine lv_icmp_ne (tgt := 45) hx hb dX12_readItems_121 rfl (fun c_214 => absurd c_214 (by decide +kernel)) (fun c_214 => ?_)
                  refine lv_aload hx hb dX12_readItems_124 (lv_at hl 6 rfl) ?_
                  refine lv_aload_n hx hb dX12_readItems_126 rfl (lv_at hl 2 rfl) ?_
                  obtain ⟨hPc, hDc, hFc, hqc⟩ := cl_cut (wc := (wd_c_X12_look h0 h0_f0 h0_1 h0_2 h0_3 h0_4 h0_5 h0_f6 h0_f7 h0_f8 h0_f9 x_187 (-1) h0_f12 h0_f13 h0_f14 h0_15 h0_16 h0_f17 h0_18 h0_19 h0_20 h0_21 h0_22 h0_23 h0_24 h0_25 h0_f26 h0_f27 h0_f28 h0_f29 h0_f30 h0_f31 h0_32 h0_33 h0_f34 h0_35 h0_36 h0_37 h0_38 h0_39 h0_40 h0_f41 h0_f42 h0_f43 h0_f44 h0_45 h0_46 h0_47 h0_48 h0_49 h0_50 h0_f51 h0_52 h0_f53 h0_5 h0_5k tN h0_5c)) hP hD hS hA [0, 2] (by decide +kernel) rfl
                  have hKc := hK.sub (tys' := [(h0_5k, .byte)]) [1] rfl
                  have hrv := va_recv hKc hPc (ci := 12) (q0 := 0) rfl rfl
                  refine va_calli (va_runV (As := []) (rest := [.ref ts10]) ⟨hx, hb, hml, hown, hts⟩ (c_X12_look l dC dI H.size h0 h0_f0 h0_1 h0_2 h0_3 h0_4 h0_5 h0_f6 h0_f7 h0_f8 h0_f9 x_187 h0_f12 h0_f13 h0_f14 h0_15 h0_16 h0_f17 h0_18 h0_19 h0_20 h0_21 h0_22 h0_23 h0_24 h0_25 h0_f26 h0_f27 h0_f28 h0_f29 h0_f30 h0_f31 h0_32 h0_33 h0_f34 h0_35 h0_36 h0_37 h0_38 h0_39 h0_40 h0_f41 h0_f42 h0_f43 h0_f44 h0_45 h0_46 h0_47 h0_48 h0_49 h0_50 h0_f51 h0_52 h0_f53 h0_5k h0_5c tN g_h0_f6 g_h0_f7 g_h0_f8 (RG_w g_h0_f9 (by decide +kernel)) (RG_w h_198 (by decide +kernel)) g_h0_f17 g_h0_f26 g_h0_f27 g_h0_f28 g_h0_f29 g_h0_f30 g_h0_f31 g_h0_f34 g_h0_f41 g_h0_f51 g_h0_f53 htN) (cwV 0 hts gf_c_X12_readItems_c_X12_look rfl rfl rfl mdV_X12_look ⟨Nat.le_of_ble_eq_true rfl, Nat.le_of_ble_eq_true rfl⟩) ⟨fun a U g mk q => by obtain ⟨q0, q1, qP, qK, qD⟩ := q; exact ⟨q0, q1, qP, va_K.moved (u := U) (U := U.calling g mk a) (Vm.Alike.refl U.vm) qK, qD⟩, hrv, fun U hU hW => ⟨rfl, by rw [hU], by rw [hU]; exact hPc, va_K.moved hW.alike hKc, hDc.weaken (fun _ _ _ _ => trivial)⟩⟩ rfl rfl hl.1 rfl (lv_room (Nat.le_of_ble_eq_true rfl)) dX12_readItems_127 ⟨Nat.le_of_ble_eq_true rfl, Nat.le_of_ble_eq_true rfl⟩) hS (fun q _ h => hFc q h) hFc (fun r_215 x_216 t H1 locs ht hvm hw hB hz1 hk1 hS => ?_)
                  obtain ⟨hP1, hK1, hD1⟩ := hB
                  rw [ht] at hP1
                  obtain ⟨hP, hD⟩ := cl_put (w1 := (wd_c_X12_look h0 h0_f0 h0_1 h0_2 h0_3 h0_4 h0_5 h0_f6 h0_f7 h0_f8 h0_f9 x_216 (-1) h0_f12 h0_f13 h0_f14 h0_15 h0_16 h0_f17 h0_18 h0_19 h0_20 h0_21 h0_22 h0_23 h0_24 h0_25 h0_f26 h0_f27 h0_f28 h0_f29 h0_f30 h0_f31 h0_32 h0_33 h0_f34 h0_35 h0_36 h0_37 h0_38 h0_39 h0_40 h0_f41 h0_f42 h0_f43 h0_f44 h0_45 h0_46 h0_47 h0_48 h0_49 h0_50 h0_f51 h0_52 h0_f53 h0_5 h0_5k tN h0_5c)) (nw := (wd_c_X12_readItems h0 h0_f0 h0_1 h0_2 h0_3 h0_4 h0_5 h0_f6 h0_f7 h0_f8 h0_f9 x_216 (-1) h0_f12 h0_f13 h0_f14 h0_15 h0_16 h0_f17 h0_18 h0_19 h0_20 h0_21 h0_22 h0_23 h0_24 h0_25 h0_f26 h0_f27 h0_f28 h0_f29 h0_f30 h0_f31 h0_32 h0_33 h0_f34 h0_35 h0_36 h0_37 h0_38 h0_39 h0_40 h0_f41 h0_f42 h0_f43 h0_f44 h0_45 h0_46 h0_47 h0_48 h0_49 h0_50 h0_f51 h0_52 h0_f53 h2 h2k w_210 h0_5 h0_5k tN h0_5c)) hP hD [0, 2] [3, 1, 4] 3 rfl hqc (by decide +kernel) rfl hk1 hFc hP1 hD1
                  generalize H1 = H at hP hS ⊢
                  as_aux_lemma =>
                  rcases hw with ⟨h_217, h_218, h_219, h_220, h_221⟩ | ⟨h_222, h_223, h_224, h_225, h_226, h_227⟩
                  · rw [h_217]
                    obtain ⟨hPc, hDc, hFc, hqc⟩ := cl_cut (wc := []) hP hD hS hA [] (by decide +kernel) rfl
                    have hKc := hK.sub (tys' := []) [] rfl
                    refine va_calli (va_runS (As := [.ref ts10, .int (-1)]) (rest := []) ⟨hx, hb, hml, hown, hts⟩ (c_X12_spotOf l dC dI H.size ts10 tv10) (va_cwS 2 hts gf_c_X12_readItems_c_X12_spotOf rfl rfl rfl md_X12_spotOf ⟨Nat.le_of_ble_eq_true rfl, Nat.le_of_ble_eq_true rfl⟩) ⟨fun a U g mk q => by obtain ⟨q0, q1, qP, qK, qD, qE0, qE1, qE2, qE3, qE4, qE5⟩ := q; exact ⟨q0, q1, qP, va_K.moved (u := U) (U := U.calling g mk a) (Vm.Alike.refl U.vm) qK, qD, va_OF.moved (u := U) (U := U.calling g mk a) (Vm.Alike.refl U.vm) qE0, va_T.moved (u := U) (U := U.calling g mk a) (Vm.Alike.refl U.vm) qE1, va_Z.moved (u := U) (U := U.calling g mk a) (Vm.Alike.refl U.vm) qE2, va_OF.moved (u := U) (U := U.calling g mk a) (Vm.Alike.refl U.vm) qE3, va_O.moved (u := U) (U := U.calling g mk a) (Vm.Alike.refl U.vm) qE4, va_Zq.moved (u := U) (U := U.calling g mk a) (Vm.Alike.refl U.vm) qE5⟩, fun U hU hW => ⟨rfl, by rw [hU], by rw [hU]; exact hPc, va_K.moved hW.alike hKc, hDc.weaken (fun _ _ _ _ => trivial), va_OF.moved hW.alike (by rw [hU]; exact (hE_65.kept hS.2.1).narrow hFc), va_T.moved hW.alike (by rw [hU]; exact (hE_66.kept hS.2.1).narrow hFc), va_Z.moved hW.alike (by rw [hU]; exact (hE_10.kept hS.2.1).narrow hFc), va_OF.moved hW.alike (by rw [hU]; exact (hE_64.kept hS.2.1).narrow hFc), va_O.moved hW.alike (by rw [hU]; exact (hE_63.kept hS.2.1).narrow hFc), va_Zq.moved hW.alike (by rw [hU]; exact (hE_11.kept hS.2.1).narrow hFc)⟩⟩ rfl rfl hl.1 rfl (lv_room (Nat.le_of_ble_eq_true rfl)) dX12_readItems_130 ⟨Nat.le_of_ble_eq_true rfl, Nat.le_of_ble_eq_true rfl⟩) hS (fun q _ h => hFc q h) hFc (fun r_228 u t H1 locs ht hvm hw hB hz1 hk1 hS => ?_)
                    obtain ⟨hP1, hK1, hD1⟩ := hB
                    rw [ht] at hP1
                    have hP := bv_still hP hk1
                    generalize H1 = H at hP hS ⊢
                    as_aux_lemma =>
                    have h_229 := hw
                    rw [h_229]
                    refine lv_istore (lv' := [(6, .int (-1)), (5, .int x_170), (0, .ref h0), (1, .int p1), (2, .ref h2), (3, .int p3), (4, .ref ts10)]) hx hb dX12_readItems_133 hl (Nat.le_of_ble_eq_true rfl) rfl (fun ls hl => ?_)
                    refine lv_goto (tgt := 45) hx hb dX12_readItems_135 rfl ?_
                    exact hU _ _ _ (J45 x_170 x_216 w_210 g_h0_f10 g_h0_f17 g_h0_f26 g_h0_f27 g_h0_f28 g_h0_f29 g_h0_f30 g_h0_f31 g_h0_f34 g_h0_f41 g_h0_f51 g_h0_f53 g_h0_f6 g_h0_f7 g_h0_f8 (RG_w g_h0_f9 (by decide +kernel)) h_218 g_p1 g_p3 a_213 i_212 (by have := r_h0_f10_j45b_h0_f10; have := q_173; have := h_201; have := h_219; omega) _ _ _ hP hD hS (lv_sub hl [0, 1, 2, 3, 4, 5, 6] rfl))
                  · have nb_230 := h_227.2.resolve_left (fun q => by have g9 := h_222; rw [q] at g9; exact absurd g9.1 (by decide +kernel))
                    obtain ⟨hPc, hDc, hFc, hqc⟩ := cl_cut (wc := []) hP hD hS hA [] (by decide +kernel) rfl
                    have hKc := hK.sub (tys' := []) [] rfl
                    refine va_calli (va_runS (As := [.ref ts10, .int r_215]) (rest := []) ⟨hx, hb, hml, hown, hts⟩ (c_X12_spotOf_1 l dC dI H.size ts10 r_215 tv10 h_222) (va_cwS 2 hts gf_c_X12_readItems_c_X12_spotOf_1 rfl rfl rfl md_X12_spotOf ⟨Nat.le_of_ble_eq_true rfl, Nat.le_of_ble_eq_true rfl⟩) ⟨fun a U g mk q => by obtain ⟨q0, q1, qP, qK, qD, qE0, qE1, qE2, qE3, qE4, qE5⟩ := q; exact ⟨q0, q1, qP, va_K.moved (u := U) (U := U.calling g mk a) (Vm.Alike.refl U.vm) qK, qD, va_OF.moved (u := U) (U := U.calling g mk a) (Vm.Alike.refl U.vm) qE0, va_T.moved (u := U) (U := U.calling g mk a) (Vm.Alike.refl U.vm) qE1, va_Z.moved (u := U) (U := U.calling g mk a) (Vm.Alike.refl U.vm) qE2, va_OF.moved (u := U) (U := U.calling g mk a) (Vm.Alike.refl U.vm) qE3, va_O.moved (u := U) (U := U.calling g mk a) (Vm.Alike.refl U.vm) qE4, va_Zq.moved (u := U) (U := U.calling g mk a) (Vm.Alike.refl U.vm) qE5⟩, fun U hU hW => ⟨rfl, by rw [hU], by rw [hU]; exact hPc, va_K.moved hW.alike hKc, hDc.weaken (fun _ _ _ _ => trivial), va_OF.moved hW.alike (by rw [hU]; exact (hE_65.kept hS.2.1).narrow hFc), va_T.moved hW.alike (by rw [hU]; exact (hE_66.kept hS.2.1).narrow hFc), va_Z.moved hW.alike (by rw [hU]; exact (hE_10.kept hS.2.1).narrow hFc), va_OF.moved hW.alike (by rw [hU]; exact (hE_64.kept hS.2.1).narrow hFc), va_O.moved hW.alike (by rw [hU]; exact (hE_63.kept hS.2.1).narrow hFc), va_Zq.moved hW.alike (by rw [hU]; exact (hE_11.kept hS.2.1).narrow hFc)⟩⟩ rfl rfl hl.1 rfl (lv_room (Nat.le_of_ble_eq_true rfl)) dX12_readItems_130 ⟨Nat.le_of_ble_eq_true rfl, Nat.le_of_ble_eq_true rfl⟩) hS (fun q _ h => hFc q h) hFc (fun r_231 u t H1 locs ht hvm hw hB hz1 hk1 hS => ?_)
                    obtain ⟨hP1, hK1, hD1⟩ := hB
                    rw [ht] at hP1
                    have hP := bv_still hP hk1
                    generalize H1 = H at hP hS ⊢
                    as_aux_lemma =>
                    rcases hw with h_232 | ⟨h_233, h_234⟩ | ⟨h_235, h_236⟩ | ⟨h_237, h_238⟩ | ⟨h_239, h_240⟩
                    · rw [h_232]
                      refine lv_istore (lv' := [(6, .int (-1)), (5, .int x_170), (0, .ref h0), (1, .int p1), (2, .ref h2), (3, .int p3), (4, .ref ts10)]) hx hb dX12_readItems_133 hl (Nat.le_of_ble_eq_true rfl) rfl (fun ls hl => ?_)
                      refine lv_goto (tgt := 45) hx hb dX12_readItems_135 rfl ?_
                      exact hU _ _ _ (J45 x_170 x_216 w_210 g_h0_f10 g_h0_f17 g_h0_f26 g_h0_f27 g_h0_f28 g_h0_f29 g_h0_f30 g_h0_f31 g_h0_f34 g_h0_f41 g_h0_f51 g_h0_f53 g_h0_f6 g_h0_f7 g_h0_f8 (RG_w g_h0_f9 (by decide +kernel)) (RG_w h_223 (by decide +kernel)) g_p1 g_p3 a_213 i_212 (by have := r_h0_f10_j45b_h0_f10; have := q_173; have := h_201; have := h_225; omega) _ _ _ hP hD hS (lv_sub hl [0, 1, 2, 3, 4, 5, 6] rfl))
                    · rw [h_233]
                      refine lv_istore (lv' := [(6, .int 3), (5, .int x_170), (0, .ref h0), (1, .int p1), (2, .ref h2), (3, .int p3), (4, .ref ts10)]) hx hb dX12_readItems_133 hl (Nat.le_of_ble_eq_true rfl) rfl (fun ls hl => ?_)
                      refine lv_goto (tgt := 45) hx hb dX12_readItems_135 rfl ?_
                      exact hU _ _ _ (ih45b 3 x_170 x_216 w_210 (mu_s (MU_lt (by have := q_173; have := h_201; have := h_225; omega)) hM45b) g_h0_f10 g_h0_f17 g_h0_f26 g_h0_f27 g_h0_f28 g_h0_f29 g_h0_f30 g_h0_f31 g_h0_f34 g_h0_f41 g_h0_f51 g_h0_f53 g_h0_f6 g_h0_f7 g_h0_f8 g_h0_f9 h_223 (RG_w (RG_k 3 3 rfl) (by decide +kernel)) g_p1 g_p3 a_213 i_212 (by have := r_h0_f10_j45b_h0_f10; have := q_173; have := h_201; have := h_225; omega) _ _ _ hP hD hS (lv_sub hl [0, 1, 2, 3, 4, 5, 6] rfl))
                    · rw [h_235]
                      refine lv_istore (lv' := [(6, .int 2), (5, .int x_170), (0, .ref h0), (1, .int p1), (2, .ref h2), (3, .int p3), (4, .ref ts10)]) hx hb dX12_readItems_133 hl (Nat.le_of_ble_eq_true rfl) rfl (fun ls hl => ?_)
                      refine lv_goto (tgt := 45) hx hb dX12_readItems_135 rfl ?_
                      exact hU _ _ _ (ih45b 2 x_170 x_216 w_210 (mu_s (MU_lt (by have := q_173; have := h_201; have := h_225; omega)) hM45b) g_h0_f10 g_h0_f17 g_h0_f26 g_h0_f27 g_h0_f28 g_h0_f29 g_h0_f30 g_h0_f31 g_h0_f34 g_h0_f41 g_h0_f51 g_h0_f53 g_h0_f6 g_h0_f7 g_h0_f8 g_h0_f9 h_223 (RG_w (RG_k 2 2 rfl) (by decide +kernel)) g_p1 g_p3 a_213 i_212 (by have := r_h0_f10_j45b_h0_f10; have := q_173; have := h_201; have := h_225; omega) _ _ _ hP hD hS (lv_sub hl [0, 1, 2, 3, 4, 5, 6] rfl))
                    · rw [h_237]
                      refine lv_istore (lv' := [(6, .int 1), (5, .int x_170), (0, .ref h0), (1, .int p1), (2, .ref h2), (3, .int p3), (4, .ref ts10)]) hx hb dX12_readItems_133 hl (Nat.le_of_ble_eq_true rfl) rfl (fun ls hl => ?_)
                      as_aux_lemma =>
                      refine lv_goto (tgt := 45) hx hb dX12_readItems_135 rfl ?_
                      exact hU _ _ _ (ih45b 1 x_170 x_216 w_210 (mu_s (MU_lt (by have := q_173; have := h_201; have := h_225; omega)) hM45b) g_h0_f10 g_h0_f17 g_h0_f26 g_h0_f27 g_h0_f28 g_h0_f29 g_h0_f30 g_h0_f31 g_h0_f34 g_h0_f41 g_h0_f51 g_h0_f53 g_h0_f6 g_h0_f7 g_h0_f8 g_h0_f9 h_223 (RG_w (RG_k 1 1 rfl) (by decide +kernel)) g_p1 g_p3 a_213 i_212 (by have := r_h0_f10_j45b_h0_f10; have := q_173; have := h_201; have := h_225; omega) _ _ _ hP hD hS (lv_sub hl [0, 1, 2, 3, 4, 5, 6] rfl))
                    · rw [h_239]
                      refine lv_istore (lv' := [(6, .int 0), (5, .int x_170), (0, .ref h0), (1, .int p1), (2, .ref h2), (3, .int p3), (4, .ref ts10)]) hx hb dX12_readItems_133 hl (Nat.le_of_ble_eq_true rfl) rfl (fun ls hl => ?_)
                      refine lv_goto (tgt := 45) hx hb dX12_readItems_135 rfl ?_
                      exact hU _ _ _ (ih45b 0 x_170 x_216 w_210 (mu_s (MU_lt (by have := q_173; have := h_201; have := h_225; omega)) hM45b) g_h0_f10 g_h0_f17 g_h0_f26 g_h0_f27 g_h0_f28 g_h0_f29 g_h0_f30 g_h0_f31 g_h0_f34 g_h0_f41 g_h0_f51 g_h0_f53 g_h0_f6 g_h0_f7 g_h0_f8 g_h0_f9 h_223 (RG_w (RG_k 0 0 rfl) (by decide +kernel)) g_p1 g_p3 a_213 i_212 (by have := r_h0_f10_j45b_h0_f10; have := q_173; have := h_201; have := h_225; omega) _ _ _ hP hD hS (lv_sub hl [0, 1, 2, 3, 4, 5, 6] rfl))
          · rw [h_166]
            refine lv_if_eq (tgt := 75) hx hb dX12_readItems_66 rfl (fun c_241 => absurd c_241 (by decide +kernel)) (fun c_241 => ?_)
            refine lv_aload_n hx hb dX12_readItems_69 rfl (lv_at hl 2 rfl) ?_
            obtain ⟨hPc, hDc, hFc, hqc⟩ := cl_cut (wc := (wd_c_X12_fails h0 h0_f0 h0_1 h0_2 h0_3 h0_4 h0_5 h0_f6 h0_f7 h0_f8 h0_f9 j45b_h0_f10 (-1) h0_f12 h0_f13 h0_f14 h0_15 h0_16 h0_f17 h0_18 h0_19 h0_20 h0_21 h0_22 h0_23 h0_24 h0_25 h0_f26 h0_f27 h0_f28 h0_f29 h0_f30 h0_f31 h0_32 h0_33 h0_f34 h0_35 h0_36 h0_37 h0_38 h0_39 h0_40 h0_f41 h0_f42 h0_f43 h0_f44 h0_45 h0_46 h0_47 h0_48 h0_49 h0_50 h0_f51 h0_52 h0_f53)) hP hD hS hA [0] (by decide +kernel) rfl
            have hKc := hK.sub (tys' := []) [] rfl
            have hrv := va_recv hKc hPc (ci := 12) (q0 := 0) rfl rfl
            refine va_calli (va_runV (As := []) (rest := []) ⟨hx, hb, hml, hown, hts⟩ (c_X12_fails l dC dI H.size h0 h0_f0 h0_1 h0_2 h0_3 h0_4 h0_5 h0_f6 h0_f7 h0_f8 h0_f9 j45b_h0_f10 h0_f12 h0_f13 h0_f14 h0_15 h0_16 h0_f17 h0_18 h0_19 h0_20 h0_21 h0_22 h0_23 h0_24 h0_25 h0_f26 h0_f27 h0_f28 h0_f29 h0_f30 h0_f31 h0_32 h0_33 h0_f34 h0_35 h0_36 h0_37 h0_38 h0_39 h0_40 h0_f41 h0_f42 h0_f43 h0_f44 h0_45 h0_46 h0_47 h0_48 h0_49 h0_50 h0_f51 h0_52 h0_f53 g_h0_f6 g_h0_f7 g_h0_f8 (RG_w g_h0_f9 (by decide +kernel)) (RG_w g_j45b_h0_f10 (by decide +kernel)) g_h0_f17 g_h0_f26 g_h0_f27 g_h0_f28 g_h0_f29 g_h0_f30 g_h0_f31 g_h0_f34 g_h0_f41 g_h0_f51 g_h0_f53) (cwV 0 hts gf_c_X12_readItems_c_X12_fails rfl rfl rfl mdV_X12_fails ⟨Nat.le_of_ble_eq_true rfl, Nat.le_of_ble_eq_true rfl⟩) ⟨fun a U g mk q => by obtain ⟨q0, q1, qP, qK, qD⟩ := q; exact ⟨q0, q1, qP, va_K.moved (u := U) (U := U.calling g mk a) (Vm.Alike.refl U.vm) qK, qD⟩, hrv, fun U hU hW => ⟨rfl, by rw [hU], by rw [hU]; exact hPc, va_K.moved hW.alike hKc, hDc.weaken (fun _ _ _ _ => trivial)⟩⟩ rfl rfl hl.1 rfl (lv_room (Nat.le_of_ble_eq_true rfl)) dX12_readItems_70 ⟨Nat.le_of_ble_eq_true rfl, Nat.le_of_ble_eq_true rfl⟩) hS (fun q _ h => hFc q h) hFc (fun r_242 u t H1 locs ht hvm hw hB hz1 hk1 hS => ?_)
            obtain ⟨hP1, hK1, hD1⟩ := hB
            rw [ht] at hP1
            obtain ⟨hP, hD⟩ := cl_put (w1 := (wd_c_X12_fails h0 h0_f0 h0_1 h0_2 h0_3 h0_4 h0_5 h0_f6 h0_f7 h0_f8 h0_f9 j45b_h0_f10 j45b_h0_f10 h0_f12 h0_f13 h0_f14 h0_15 h0_16 h0_f17 h0_18 h0_19 h0_20 h0_21 h0_22 h0_23 h0_24 h0_25 h0_f26 h0_f27 h0_f28 h0_f29 h0_f30 h0_f31 h0_32 h0_33 h0_f34 h0_35 h0_36 h0_37 h0_38 h0_39 h0_40 h0_f41 h0_f42 h0_f43 h0_f44 h0_45 h0_46 h0_47 h0_48 h0_49 h0_50 h0_f51 h0_52 h0_f53)) (nw := (wd_c_X12_readItems h0 h0_f0 h0_1 h0_2 h0_3 h0_4 h0_5 h0_f6 h0_f7 h0_f8 h0_f9 j45b_h0_f10 j45b_h0_f10 h0_f12 h0_f13 h0_f14 h0_15 h0_16 h0_f17 h0_18 h0_19 h0_20 h0_21 h0_22 h0_23 h0_24 h0_25 h0_f26 h0_f27 h0_f28 h0_f29 h0_f30 h0_f31 h0_32 h0_33 h0_f34 h0_35 h0_36 h0_37 h0_38 h0_39 h0_40 h0_f41 h0_f42 h0_f43 h0_f44 h0_45 h0_46 h0_47 h0_48 h0_49 h0_50 h0_f51 h0_52 h0_f53 h2 h2k j45b_h2c h0_5 h0_5k tN h0_5c)) hP hD [0] [3, 1, 2] 3 rfl hqc (by decide +kernel) rfl hk1 hFc hP1 hD1
            generalize H1 = H at hP hS ⊢
            as_aux_lemma =>
            have h_243 := hw
            rw [h_243]
            refine lv_pop hx hb dX12_readItems_73 rfl ?_
            have hK9 := hK.sub (tys' := []) [] rfl
            exact W.vret hx hb hr (fun t ht hW => ⟨⟨(j45b_h0_f10, j45b_h0_f10, j45b_h2c), rfl, (Or.inr ⟨(RG_w g_j45b_h0_f10 (by decide +kernel)), (RG_w g_j45b_h0_f10 (by decide +kernel)), a_j45b_h2c, g_h0_f9⟩), by rw [ht]; exact hP, va_K.moved hW.alike hK9, hD⟩, hS.F ht⟩) hS.2.2 dX12_readItems_74
        by_cases c_244 : j45b_l6 = 3
        · subst c_244
          refine lv_iload hx hb dX12_readItems_59 (lv_at hl 1 rfl) ?_
          refine lv_iload hx hb dX12_readItems_61 (lv_at hl 0 rfl) ?_
          obtain ⟨hPc, hDc, hFc, hqc⟩ := cl_cut (wc := []) hP hD hS hA [] (by decide +kernel) rfl
          have hKc := hK.sub (tys' := []) [] rfl
          refine va_calli (va_runS (As := [.int j45b_l5, .int 3]) (rest := []) ⟨hx, hb, hml, hown, hts⟩ (c_X12_has_2 l dC dI H.size j45b_l5 3 (RG_w (RG_k 3 3 rfl) (by decide +kernel))) (va_cwS 2 hts gf_c_X12_readItems_c_X12_has_2 rfl rfl rfl md_X12_has ⟨Nat.le_of_ble_eq_true rfl, Nat.le_of_ble_eq_true rfl⟩) ⟨fun a U g mk q => by obtain ⟨q0, q1, qP, qK, qD⟩ := q; exact ⟨q0, q1, qP, va_K.moved (u := U) (U := U.calling g mk a) (Vm.Alike.refl U.vm) qK, qD⟩, fun U hU hW => ⟨rfl, by rw [hU], by rw [hU]; exact hPc, va_K.moved hW.alike hKc, hDc.weaken (fun _ _ _ _ => trivial)⟩⟩ rfl rfl hl.1 rfl (lv_room (Nat.le_of_ble_eq_true rfl)) dX12_readItems_63 ⟨Nat.le_of_ble_eq_true rfl, Nat.le_of_ble_eq_true rfl⟩) hS (fun q _ h => hFc q h) hFc (fun r_245 u t H1 locs ht hvm hw hB hz1 hk1 hS => ?_)
          obtain ⟨hP1, hK1, hD1⟩ := hB
          rw [ht] at hP1
          have hP := bv_still hP hk1
          generalize H1 = H at hP hS ⊢
          as_aux_lemma =>
          rcases hw with ⟨h_246, h_247⟩ | ⟨h_248, h_249⟩
          · rw [h_246]
            refine lv_if_eq (tgt := 75) hx hb dX12_readItems_66 rfl (fun c_250 => ?_) (fun c_250 => absurd c_250 (by decide +kernel))
            refine lv_iload hx hb dX12_readItems_75 (lv_at hl 1 rfl) ?_
            refine lv_iconst (v := 1) hx hb dX12_readItems_77 kc_iconst_1 ?_
            refine lv_iload hx hb dX12_readItems_78 (lv_at hl 0 rfl) ?_
            refine lv_ishl hx hb dX12_readItems_80 ?_
            refine lv_topi (fun x_251 ex_251 => ?_)
            obtain rfl : x_251 = 8 := ex_251.trans (by decide +kernel)
            refine lv_ior hx hb dX12_readItems_81 ?_
            refine lv_topi (fun x_252 ex_252 => ?_)
            refine lv_istore (lv' := [(5, .int x_252), (6, .int 3), (0, .ref h0), (1, .int p1), (2, .ref h2), (3, .int p3), (4, .ref ts10)]) hx hb dX12_readItems_82 hl (Nat.le_of_ble_eq_true rfl) rfl (fun ls hl => ?_)
            refine lv_aload_n hx hb dX12_readItems_84 rfl (lv_at hl 2 rfl) ?_
            refine lv_dup hx hb dX12_readItems_85 rfl ?_
            as_aux_lemma =>
            refine va_get (D := (dC, dI)) (ci := 12) (v := .int j45b_h0_f10) (C := RX12) (T := TX12) (N := 54) hx hb hts iw_c_X12_readItems_X12 hown hK hP 0 rfl rfl 10 (by decide +kernel) (hts (.fieldLink RX12 134 "BuoyVoteModel" "at" "I") (List.mem_of_getElem? (i := 21) rfl)) (fun _ h9 => h9) rfl dX12_readItems_86 ?_
            refine lv_iconst (v := 1) hx hb dX12_readItems_89 kc_iconst_1 ?_
            refine lv_iadd hx hb dX12_readItems_90 ?_
            refine lv_topi (fun x_253 ex_253 => ?_)
            have g_254 : RG x_253 1 240 := RG_add ex_253 g_j45b_h0_f10 (RG_k 1 1 rfl) (by decide +kernel)
            have q_255 : x_253.toInt = j45b_h0_f10.toInt + 1 := eq_add ex_253 g_j45b_h0_f10 (q := 1) rfl (by decide +kernel)
            refine va_put (D := (dC, dI)) (ci := 12) (v := .int x_253) (ty := .int) (C := RX12) (T := TX12) (N := 54) hx hb hts iw_c_X12_readItems_X12 tyX12 tyX12_ok nmX12 hown hK hP hD hS 0 rfl rfl 10 (by decide +kernel) (hts (.fieldLink RX12 134 "BuoyVoteModel" "at" "I") (List.mem_of_getElem? (i := 21) rfl)) (fun _ h9 => h9) rfl (by decide +kernel) rfl rfl (Nat.le_of_ble_eq_true rfl) dX12_readItems_91 (fun H locs hP hD hS => ?_)
            have hP : va_P (dC, dI) vwCl (wd_c_X12_readItems h0 h0_f0 h0_1 h0_2 h0_3 h0_4 h0_5 h0_f6 h0_f7 h0_f8 h0_f9 x_253 (-1) h0_f12 h0_f13 h0_f14 h0_15 h0_16 h0_f17 h0_18 h0_19 h0_20 h0_21 h0_22 h0_23 h0_24 h0_25 h0_f26 h0_f27 h0_f28 h0_f29 h0_f30 h0_f31 h0_32 h0_33 h0_f34 h0_35 h0_36 h0_37 h0_38 h0_39 h0_40 h0_f41 h0_f42 h0_f43 h0_f44 h0_45 h0_46 h0_47 h0_48 h0_49 h0_50 h0_f51 h0_52 h0_f53 h2 h2k j45b_h2c h0_5 h0_5k tN h0_5c) H := hP
            have hD : va_D A (wd_c_X12_readItems h0 h0_f0 h0_1 h0_2 h0_3 h0_4 h0_5 h0_f6 h0_f7 h0_f8 h0_f9 x_253 (-1) h0_f12 h0_f13 h0_f14 h0_15 h0_16 h0_f17 h0_18 h0_19 h0_20 h0_21 h0_22 h0_23 h0_24 h0_25 h0_f26 h0_f27 h0_f28 h0_f29 h0_f30 h0_f31 h0_32 h0_33 h0_f34 h0_35 h0_36 h0_37 h0_38 h0_39 h0_40 h0_f41 h0_f42 h0_f43 h0_f44 h0_45 h0_46 h0_47 h0_48 h0_49 h0_50 h0_f51 h0_52 h0_f53 h2 h2k j45b_h2c h0_5 h0_5k tN h0_5c) := hD
            refine lv_aload_n hx hb dX12_readItems_94 rfl (lv_at hl 4 rfl) ?_
            refine lv_iload_n hx hb dX12_readItems_95 rfl (lv_at hl 5 rfl) ?_
            refine lv_iload hx hb dX12_readItems_96 (lv_at hl 1 rfl) ?_
            refine lv_iadd hx hb dX12_readItems_98 ?_
            refine lv_topi (fun x_256 ex_256 => ?_)
            as_aux_lemma =>
            have g_257 : RG x_256 3 11 := RG_add ex_256 g_p3 (RG_k 3 3 rfl) (by decide +kernel)
            refine lv_aload_n hx hb dX12_readItems_99 rfl (lv_at hl 2 rfl) ?_
            refine lv_iload_n hx hb dX12_readItems_100 rfl (lv_at hl 3 rfl) ?_
            refine lv_iload hx hb dX12_readItems_101 (lv_at hl 1 rfl) ?_
            obtain ⟨hPc, hDc, hFc, hqc⟩ := cl_cut (wc := []) hP hD hS hA [] (by decide +kernel) rfl
            have hKc := hK.sub (tys' := []) [] rfl
            refine va_calli (va_runS (As := [.int p1, .int 3]) (rest := [.ref h0, .int x_256, .ref h2]) ⟨hx, hb, hml, hown, hts⟩ (c_X12_leastOf_3 l dC dI H.size p1 3 g_p1 (RG_w (RG_k 3 3 rfl) (by decide +kernel))) (va_cwS 2 hts gf_c_X12_readItems_c_X12_leastOf_3 rfl rfl rfl md_X12_leastOf ⟨Nat.le_of_ble_eq_true rfl, Nat.le_of_ble_eq_true rfl⟩) ⟨fun a U g mk q => by obtain ⟨q0, q1, qP, qK, qD⟩ := q; exact ⟨q0, q1, qP, va_K.moved (u := U) (U := U.calling g mk a) (Vm.Alike.refl U.vm) qK, qD⟩, fun U hU hW => ⟨rfl, by rw [hU], by rw [hU]; exact hPc, va_K.moved hW.alike hKc, hDc.weaken (fun _ _ _ _ => trivial)⟩⟩ rfl rfl hl.1 rfl (lv_room (Nat.le_of_ble_eq_true rfl)) dX12_readItems_103 ⟨Nat.le_of_ble_eq_true rfl, Nat.le_of_ble_eq_true rfl⟩) hS (fun q _ h => hFc q h) hFc (fun r_258 u t H1 locs ht hvm hw hB hz1 hk1 hS => ?_)
            obtain ⟨hP1, hK1, hD1⟩ := hB
            rw [ht] at hP1
            have hP := bv_still hP hk1
            generalize H1 = H at hP hS ⊢
            as_aux_lemma =>
            rcases hw with h_259 | ⟨h_260, h_261⟩
            · rw [h_259]
              refine lv_iload_n hx hb dX12_readItems_106 rfl (lv_at hl 3 rfl) ?_
              refine lv_iload hx hb dX12_readItems_107 (lv_at hl 1 rfl) ?_
              obtain ⟨hPc, hDc, hFc, hqc⟩ := cl_cut (wc := []) hP hD hS hA [] (by decide +kernel) rfl
              have hKc := hK.sub (tys' := []) [] rfl
              refine va_calli (va_runS (As := [.int p1, .int 3]) (rest := [.int 0, .ref h0, .int x_256, .ref h2]) ⟨hx, hb, hml, hown, hts⟩ (c_X12_mostOf_3 l dC dI H.size p1 3 g_p1 (RG_w (RG_k 3 3 rfl) (by decide +kernel))) (va_cwS 2 hts gf_c_X12_readItems_c_X12_mostOf_3 rfl rfl rfl md_X12_mostOf ⟨Nat.le_of_ble_eq_true rfl, Nat.le_of_ble_eq_true rfl⟩) ⟨fun a U g mk q => by obtain ⟨q0, q1, qP, qK, qD⟩ := q; exact ⟨q0, q1, qP, va_K.moved (u := U) (U := U.calling g mk a) (Vm.Alike.refl U.vm) qK, qD⟩, fun U hU hW => ⟨rfl, by rw [hU], by rw [hU]; exact hPc, va_K.moved hW.alike hKc, hDc.weaken (fun _ _ _ _ => trivial)⟩⟩ rfl rfl hl.1 rfl (lv_room (Nat.le_of_ble_eq_true rfl)) dX12_readItems_109 ⟨Nat.le_of_ble_eq_true rfl, Nat.le_of_ble_eq_true rfl⟩) hS (fun q _ h => hFc q h) hFc (fun r_262 u t H1 locs ht hvm hw hB hz1 hk1 hS => ?_)
              obtain ⟨hP1, hK1, hD1⟩ := hB
              rw [ht] at hP1
              have hP := bv_still hP hk1
              generalize H1 = H at hP hS ⊢
              as_aux_lemma =>
              rcases hw with h_263 | ⟨h_264, h_265⟩
              · rw [h_263]
                obtain ⟨hPc, hDc, hFc, hqc⟩ := cl_cut (wc := (wd_c_X12_number h0 h0_f0 h0_1 h0_2 h0_3 h0_4 h0_5 h0_f6 h0_f7 h0_f8 h0_f9 x_253 (-1) h0_f12 h0_f13 h0_f14 h0_15 h0_16 h0_f17 h0_18 h0_19 h0_20 h0_21 h0_22 h0_23 h0_24 h0_25 h0_f26 h0_f27 h0_f28 h0_f29 h0_f30 h0_f31 h0_32 h0_33 h0_f34 h0_35 h0_36 h0_37 h0_38 h0_39 h0_40 h0_f41 h0_f42 h0_f43 h0_f44 h0_45 h0_46 h0_47 h0_48 h0_49 h0_50 h0_f51 h0_52 h0_f53 h0_5 h0_5k tN h0_5c)) hP hD hS hA [0, 2] (by decide +kernel) rfl
                have hKc := hK.sub (tys' := [(h0_5k, .byte)]) [1] rfl
                have hrv := va_recv hKc hPc (ci := 12) (q0 := 0) rfl rfl
                refine va_calli (va_runV (As := [.int 0, .int 9]) (rest := [.int x_256, .ref h2]) ⟨hx, hb, hml, hown, hts⟩ (c_X12_number l dC dI H.size h0 h0_f0 h0_1 h0_2 h0_3 h0_4 h0_5 h0_f6 h0_f7 h0_f8 h0_f9 x_253 h0_f12 h0_f13 h0_f14 h0_15 h0_16 h0_f17 h0_18 h0_19 h0_20 h0_21 h0_22 h0_23 h0_24 h0_25 h0_f26 h0_f27 h0_f28 h0_f29 h0_f30 h0_f31 h0_32 h0_33 h0_f34 h0_35 h0_36 h0_37 h0_38 h0_39 h0_40 h0_f41 h0_f42 h0_f43 h0_f44 h0_45 h0_46 h0_47 h0_48 h0_49 h0_50 h0_f51 h0_52 h0_f53 h0_5k h0_5c tN g_h0_f6 g_h0_f7 g_h0_f8 (RG_w g_h0_f9 (by decide +kernel)) (RG_w g_254 (by decide +kernel)) g_h0_f17 g_h0_f26 g_h0_f27 g_h0_f28 g_h0_f29 g_h0_f30 g_h0_f31 g_h0_f34 g_h0_f41 g_h0_f51 g_h0_f53 htN) (cwV 2 hts gf_c_X12_readItems_c_X12_number rfl rfl rfl mdV_X12_number ⟨Nat.le_of_ble_eq_true rfl, Nat.le_of_ble_eq_true rfl⟩) ⟨fun a U g mk q => by obtain ⟨q0, q1, qP, qK, qD⟩ := q; exact ⟨q0, q1, qP, va_K.moved (u := U) (U := U.calling g mk a) (Vm.Alike.refl U.vm) qK, qD⟩, hrv, fun U hU hW => ⟨rfl, by rw [hU], by rw [hU]; exact hPc, va_K.moved hW.alike hKc, hDc.weaken (fun _ _ _ _ => trivial)⟩⟩ rfl rfl hl.1 rfl (lv_room (Nat.le_of_ble_eq_true rfl)) dX12_readItems_112 ⟨Nat.le_of_ble_eq_true rfl, Nat.le_of_ble_eq_true rfl⟩) hS (fun q _ h => hFc q h) hFc (fun r_266 u t H1 locs ht hvm hw hB hz1 hk1 hS => ?_)
                obtain ⟨x_267, x_268⟩ := u
                obtain ⟨hP1, hK1, hD1⟩ := hB
                rw [ht] at hP1
                obtain ⟨hP, hD⟩ := cl_put (w1 := (wd_c_X12_number h0 h0_f0 h0_1 h0_2 h0_3 h0_4 h0_5 h0_f6 h0_f7 h0_f8 h0_f9 x_267 x_268 h0_f12 h0_f13 h0_f14 h0_15 h0_16 h0_f17 h0_18 h0_19 h0_20 h0_21 h0_22 h0_23 h0_24 h0_25 h0_f26 h0_f27 h0_f28 h0_f29 h0_f30 h0_f31 h0_32 h0_33 h0_f34 h0_35 h0_36 h0_37 h0_38 h0_39 h0_40 h0_f41 h0_f42 h0_f43 h0_f44 h0_45 h0_46 h0_47 h0_48 h0_49 h0_50 h0_f51 h0_52 h0_f53 h0_5 h0_5k tN h0_5c)) (nw := (wd_c_X12_readItems h0 h0_f0 h0_1 h0_2 h0_3 h0_4 h0_5 h0_f6 h0_f7 h0_f8 h0_f9 x_267 x_268 h0_f12 h0_f13 h0_f14 h0_15 h0_16 h0_f17 h0_18 h0_19 h0_20 h0_21 h0_22 h0_23 h0_24 h0_25 h0_f26 h0_f27 h0_f28 h0_f29 h0_f30 h0_f31 h0_32 h0_33 h0_f34 h0_35 h0_36 h0_37 h0_38 h0_39 h0_40 h0_f41 h0_f42 h0_f43 h0_f44 h0_45 h0_46 h0_47 h0_48 h0_49 h0_50 h0_f51 h0_52 h0_f53 h2 h2k j45b_h2c h0_5 h0_5k tN h0_5c)) hP hD [0, 2] [3, 1, 4] 3 rfl hqc (by decide +kernel) rfl hk1 hFc hP1 hD1
                generalize H1 = H at hP hS ⊢
                as_aux_lemma =>
                rcases hw with ⟨h_269, h_270, h_271, h_272⟩ | ⟨h_273, h_274, h_275, h_276⟩ | ⟨h_277, h_278, h_279, h_280, h_281⟩
                · rw [h_269]
                  have h_272 : x_253.toInt + 0 ≤ x_267.toInt := h_272
                  refine va_iast hx hb hK hP hD hS 1 0 rfl rfl (RG_in g_257 (by decide +kernel)) dX12_readItems_115 (fun H locs hP hD hS => ?_)
                  have hP : va_P (dC, dI) vwCl (wd_c_X12_readItems h0 h0_f0 h0_1 h0_2 h0_3 h0_4 h0_5 h0_f6 h0_f7 h0_f8 h0_f9 x_267 x_268 h0_f12 h0_f13 h0_f14 h0_15 h0_16 h0_f17 h0_18 h0_19 h0_20 h0_21 h0_22 h0_23 h0_24 h0_25 h0_f26 h0_f27 h0_f28 h0_f29 h0_f30 h0_f31 h0_32 h0_33 h0_f34 h0_35 h0_36 h0_37 h0_38 h0_39 h0_40 h0_f41 h0_f42 h0_f43 h0_f44 h0_45 h0_46 h0_47 h0_48 h0_49 h0_50 h0_f51 h0_52 h0_f53 h2 h2k (upd j45b_h2c (x_256 : Int32).toNatClampNeg 0) h0_5 h0_5k tN h0_5c) H := hP
                  have hD : va_D A (wd_c_X12_readItems h0 h0_f0 h0_1 h0_2 h0_3 h0_4 h0_5 h0_f6 h0_f7 h0_f8 h0_f9 x_267 x_268 h0_f12 h0_f13 h0_f14 h0_15 h0_16 h0_f17 h0_18 h0_19 h0_20 h0_21 h0_22 h0_23 h0_24 h0_25 h0_f26 h0_f27 h0_f28 h0_f29 h0_f30 h0_f31 h0_32 h0_33 h0_f34 h0_35 h0_36 h0_37 h0_38 h0_39 h0_40 h0_f41 h0_f42 h0_f43 h0_f44 h0_45 h0_46 h0_47 h0_48 h0_49 h0_50 h0_f51 h0_52 h0_f53 h2 h2k (upd j45b_h2c (x_256 : Int32).toNatClampNeg 0) h0_5 h0_5k tN h0_5c) := hD
                  have l_283 : (upd j45b_h2c (x_256 : Int32).toNatClampNeg 0) (x_256 : Int32).toNatClampNeg = 0 := pk_us
                  have i_284 : BOi (p3.toInt + 4) (upd j45b_h2c (x_256 : Int32).toNatClampNeg 0) := BOi_keep i_45b_h2 g_257 (by decide +kernel) (Or.inr (Or.inl (by have := hrow; have := eq_add ex_256 g_p3 (q := 3) rfl (by decide +kernel); omega)))
                  have a_285 : AI (upd j45b_h2c (x_256 : Int32).toNatClampNeg 0) 0 99 := AI_up a_j45b_h2c (RG_k 0 0 rfl) (by decide +kernel)
                  generalize (upd j45b_h2c (x_256 : Int32).toNatClampNeg 0) = w_282 at hP hD a_285 l_283 i_284
                  have hP : va_P (dC, dI) vwCl (wd_c_X12_readItems h0 h0_f0 h0_1 h0_2 h0_3 h0_4 h0_5 h0_f6 h0_f7 h0_f8 h0_f9 x_267 x_268 h0_f12 h0_f13 h0_f14 h0_15 h0_16 h0_f17 h0_18 h0_19 h0_20 h0_21 h0_22 h0_23 h0_24 h0_25 h0_f26 h0_f27 h0_f28 h0_f29 h0_f30 h0_f31 h0_32 h0_33 h0_f34 h0_35 h0_36 h0_37 h0_38 h0_39 h0_40 h0_f41 h0_f42 h0_f43 h0_f44 h0_45 h0_46 h0_47 h0_48 h0_49 h0_50 h0_f51 h0_52 h0_f53 h2 h2k w_282 h0_5 h0_5k tN h0_5c) H := hP
                  have hD : va_D A (wd_c_X12_readItems h0 h0_f0 h0_1 h0_2 h0_3 h0_4 h0_5 h0_f6 h0_f7 h0_f8 h0_f9 x_267 x_268 h0_f12 h0_f13 h0_f14 h0_15 h0_16 h0_f17 h0_18 h0_19 h0_20 h0_21 h0_22 h0_23 h0_24 h0_25 h0_f26 h0_f27 h0_f28 h0_f29 h0_f30 h0_f31 h0_32 h0_33 h0_f34 h0_35 h0_36 h0_37 h0_38 h0_39 h0_40 h0_f41 h0_f42 h0_f43 h0_f44 h0_45 h0_46 h0_47 h0_48 h0_49 h0_50 h0_f51 h0_52 h0_f53 h2 h2k w_282 h0_5 h0_5k tN h0_5c) := hD
                  refine lv_aload_n hx hb dX12_readItems_116 rfl (lv_at hl 2 rfl) ?_
                  refine va_get (D := (dC, dI)) (ci := 12) (v := .int x_268) (C := RX12) (T := TX12) (N := 54) hx hb hts iw_c_X12_readItems_X12 hown hK hP 0 rfl rfl 11 (by decide +kernel) (hts (.fieldLink RX12 143 "BuoyVoteModel" "fault" "I") (List.mem_of_getElem? (i := 48) rfl)) (fun _ h9 => h9) rfl dX12_readItems_117 ?_
                  as_aux_lemma =>
                  refine lv_iconst (v := (-1)) hx hb dX12_readItems_120 kc_iconst_m1 ?_
                  refine lv_icmp_ne (tgt := 45) hx hb dX12_readItems_121 rfl (fun c_286 => ?_) (fun c_286 => ?_)
                  · exact hU _ _ _ (J45c x_252 3 x_267 x_268 w_282 g_h0_f10 g_h0_f17 g_h0_f26 g_h0_f27 g_h0_f28 g_h0_f29 g_h0_f30 g_h0_f31 g_h0_f34 g_h0_f41 g_h0_f51 g_h0_f53 g_h0_f6 g_h0_f7 g_h0_f8 g_h0_f9 h_270 h_271 (RG_w (RG_k 3 3 rfl) (by decide +kernel)) g_p1 g_p3 a_285 _ _ _ hP hD hS (lv_sub hl [0, 1, 2, 3, 4, 5, 6] rfl))
                  · exact RG_dead (RG_eq1 h_271 (RG_k (-1) (-1) rfl) c_286 (a' := 0) (b' := (-1)) (by decide +kernel)) (by decide +kernel)
                · refine va_iast hx hb hK hP hD hS 1 0 rfl rfl (RG_in g_257 (by decide +kernel)) dX12_readItems_115 (fun H locs hP hD hS => ?_)
                  have hP : va_P (dC, dI) vwCl (wd_c_X12_readItems h0 h0_f0 h0_1 h0_2 h0_3 h0_4 h0_5 h0_f6 h0_f7 h0_f8 h0_f9 x_267 x_268 h0_f12 h0_f13 h0_f14 h0_15 h0_16 h0_f17 h0_18 h0_19 h0_20 h0_21 h0_22 h0_23 h0_24 h0_25 h0_f26 h0_f27 h0_f28 h0_f29 h0_f30 h0_f31 h0_32 h0_33 h0_f34 h0_35 h0_36 h0_37 h0_38 h0_39 h0_40 h0_f41 h0_f42 h0_f43 h0_f44 h0_45 h0_46 h0_47 h0_48 h0_49 h0_50 h0_f51 h0_52 h0_f53 h2 h2k (upd j45b_h2c (x_256 : Int32).toNatClampNeg r_266) h0_5 h0_5k tN h0_5c) H := hP
                  have hD : va_D A (wd_c_X12_readItems h0 h0_f0 h0_1 h0_2 h0_3 h0_4 h0_5 h0_f6 h0_f7 h0_f8 h0_f9 x_267 x_268 h0_f12 h0_f13 h0_f14 h0_15 h0_16 h0_f17 h0_18 h0_19 h0_20 h0_21 h0_22 h0_23 h0_24 h0_25 h0_f26 h0_f27 h0_f28 h0_f29 h0_f30 h0_f31 h0_32 h0_33 h0_f34 h0_35 h0_36 h0_37 h0_38 h0_39 h0_40 h0_f41 h0_f42 h0_f43 h0_f44 h0_45 h0_46 h0_47 h0_48 h0_49 h0_50 h0_f51 h0_52 h0_f53 h2 h2k (upd j45b_h2c (x_256 : Int32).toNatClampNeg r_266) h0_5 h0_5k tN h0_5c) := hD
                  have l_288 : (upd j45b_h2c (x_256 : Int32).toNatClampNeg r_266) (x_256 : Int32).toNatClampNeg = r_266 := pk_us
                  have i_289 : BOi (p3.toInt + 4) (upd j45b_h2c (x_256 : Int32).toNatClampNeg r_266) := BOi_keep i_45b_h2 g_257 (by decide +kernel) (Or.inl (RG_w h_273 (by decide +kernel)))
                  have a_290 : AI (upd j45b_h2c (x_256 : Int32).toNatClampNeg r_266) 0 99 := AI_up a_j45b_h2c h_273 (by decide +kernel)
                  generalize (upd j45b_h2c (x_256 : Int32).toNatClampNeg r_266) = w_287 at hP hD a_290 l_288 i_289
                  have hP : va_P (dC, dI) vwCl (wd_c_X12_readItems h0 h0_f0 h0_1 h0_2 h0_3 h0_4 h0_5 h0_f6 h0_f7 h0_f8 h0_f9 x_267 x_268 h0_f12 h0_f13 h0_f14 h0_15 h0_16 h0_f17 h0_18 h0_19 h0_20 h0_21 h0_22 h0_23 h0_24 h0_25 h0_f26 h0_f27 h0_f28 h0_f29 h0_f30 h0_f31 h0_32 h0_33 h0_f34 h0_35 h0_36 h0_37 h0_38 h0_39 h0_40 h0_f41 h0_f42 h0_f43 h0_f44 h0_45 h0_46 h0_47 h0_48 h0_49 h0_50 h0_f51 h0_52 h0_f53 h2 h2k w_287 h0_5 h0_5k tN h0_5c) H := hP
                  have hD : va_D A (wd_c_X12_readItems h0 h0_f0 h0_1 h0_2 h0_3 h0_4 h0_5 h0_f6 h0_f7 h0_f8 h0_f9 x_267 x_268 h0_f12 h0_f13 h0_f14 h0_15 h0_16 h0_f17 h0_18 h0_19 h0_20 h0_21 h0_22 h0_23 h0_24 h0_25 h0_f26 h0_f27 h0_f28 h0_f29 h0_f30 h0_f31 h0_32 h0_33 h0_f34 h0_35 h0_36 h0_37 h0_38 h0_39 h0_40 h0_f41 h0_f42 h0_f43 h0_f44 h0_45 h0_46 h0_47 h0_48 h0_49 h0_50 h0_f51 h0_52 h0_f53 h2 h2k w_287 h0_5 h0_5k tN h0_5c) := hD
                  refine lv_aload_n hx hb dX12_readItems_116 rfl (lv_at hl 2 rfl) ?_
                  as_aux_lemma =>
                  refine va_get (D := (dC, dI)) (ci := 12) (v := .int x_268) (C := RX12) (T := TX12) (N := 54) hx hb hts iw_c_X12_readItems_X12 hown hK hP 0 rfl rfl 11 (by decide +kernel) (hts (.fieldLink RX12 143 "BuoyVoteModel" "fault" "I") (List.mem_of_getElem? (i := 48) rfl)) (fun _ h9 => h9) rfl dX12_readItems_117 ?_
                  refine lv_iconst (v := (-1)) hx hb dX12_readItems_120 kc_iconst_m1 ?_
                  refine lv_icmp_ne (tgt := 45) hx hb dX12_readItems_121 rfl (fun c_291 => ?_) (fun c_291 => ?_)
                  · exact hU _ _ _ (J45c x_252 3 x_267 x_268 w_287 g_h0_f10 g_h0_f17 g_h0_f26 g_h0_f27 g_h0_f28 g_h0_f29 g_h0_f30 g_h0_f31 g_h0_f34 g_h0_f41 g_h0_f51 g_h0_f53 g_h0_f6 g_h0_f7 g_h0_f8 g_h0_f9 (RG_w h_274 (by decide +kernel)) (RG_w h_275 (by decide +kernel)) (RG_w (RG_k 3 3 rfl) (by decide +kernel)) g_p1 g_p3 a_290 _ _ _ hP hD hS (lv_sub hl [0, 1, 2, 3, 4, 5, 6] rfl))
                  · exact RG_dead (RG_eq1 h_275 (RG_k (-1) (-1) rfl) c_291 (a' := 0) (b' := (-1)) (by decide +kernel)) (by decide +kernel)
                · subst h_279
                  have h_281 : x_253.toInt + 1 ≤ x_267.toInt := h_281
                  refine va_iast hx hb hK hP hD hS 1 0 rfl rfl (RG_in g_257 (by decide +kernel)) dX12_readItems_115 (fun H locs hP hD hS => ?_)
                  have hP : va_P (dC, dI) vwCl (wd_c_X12_readItems h0 h0_f0 h0_1 h0_2 h0_3 h0_4 h0_5 h0_f6 h0_f7 h0_f8 h0_f9 x_267 (-1) h0_f12 h0_f13 h0_f14 h0_15 h0_16 h0_f17 h0_18 h0_19 h0_20 h0_21 h0_22 h0_23 h0_24 h0_25 h0_f26 h0_f27 h0_f28 h0_f29 h0_f30 h0_f31 h0_32 h0_33 h0_f34 h0_35 h0_36 h0_37 h0_38 h0_39 h0_40 h0_f41 h0_f42 h0_f43 h0_f44 h0_45 h0_46 h0_47 h0_48 h0_49 h0_50 h0_f51 h0_52 h0_f53 h2 h2k (upd j45b_h2c (x_256 : Int32).toNatClampNeg r_266) h0_5 h0_5k tN h0_5c) H := hP
                  have hD : va_D A (wd_c_X12_readItems h0 h0_f0 h0_1 h0_2 h0_3 h0_4 h0_5 h0_f6 h0_f7 h0_f8 h0_f9 x_267 (-1) h0_f12 h0_f13 h0_f14 h0_15 h0_16 h0_f17 h0_18 h0_19 h0_20 h0_21 h0_22 h0_23 h0_24 h0_25 h0_f26 h0_f27 h0_f28 h0_f29 h0_f30 h0_f31 h0_32 h0_33 h0_f34 h0_35 h0_36 h0_37 h0_38 h0_39 h0_40 h0_f41 h0_f42 h0_f43 h0_f44 h0_45 h0_46 h0_47 h0_48 h0_49 h0_50 h0_f51 h0_52 h0_f53 h2 h2k (upd j45b_h2c (x_256 : Int32).toNatClampNeg r_266) h0_5 h0_5k tN h0_5c) := hD
                  have l_293 : (upd j45b_h2c (x_256 : Int32).toNatClampNeg r_266) (x_256 : Int32).toNatClampNeg = r_266 := pk_us
                  have i_294 : BOi (p3.toInt + 4) (upd j45b_h2c (x_256 : Int32).toNatClampNeg r_266) := BOi_keep i_45b_h2 g_257 (by decide +kernel) (Or.inr (Or.inl (by have := hrow; have := eq_add ex_256 g_p3 (q := 3) rfl (by decide +kernel); omega)))
                  have a_295 : AI (upd j45b_h2c (x_256 : Int32).toNatClampNeg r_266) 0 99 := AI_up a_j45b_h2c h_277 (by decide +kernel)
                  generalize (upd j45b_h2c (x_256 : Int32).toNatClampNeg r_266) = w_292 at hP hD a_295 l_293 i_294
                  have hP : va_P (dC, dI) vwCl (wd_c_X12_readItems h0 h0_f0 h0_1 h0_2 h0_3 h0_4 h0_5 h0_f6 h0_f7 h0_f8 h0_f9 x_267 (-1) h0_f12 h0_f13 h0_f14 h0_15 h0_16 h0_f17 h0_18 h0_19 h0_20 h0_21 h0_22 h0_23 h0_24 h0_25 h0_f26 h0_f27 h0_f28 h0_f29 h0_f30 h0_f31 h0_32 h0_33 h0_f34 h0_35 h0_36 h0_37 h0_38 h0_39 h0_40 h0_f41 h0_f42 h0_f43 h0_f44 h0_45 h0_46 h0_47 h0_48 h0_49 h0_50 h0_f51 h0_52 h0_f53 h2 h2k w_292 h0_5 h0_5k tN h0_5c) H := hP
                  have hD : va_D A (wd_c_X12_readItems h0 h0_f0 h0_1 h0_2 h0_3 h0_4 h0_5 h0_f6 h0_f7 h0_f8 h0_f9 x_267 (-1) h0_f12 h0_f13 h0_f14 h0_15 h0_16 h0_f17 h0_18 h0_19 h0_20 h0_21 h0_22 h0_23 h0_24 h0_25 h0_f26 h0_f27 h0_f28 h0_f29 h0_f30 h0_f31 h0_32 h0_33 h0_f34 h0_35 h0_36 h0_37 h0_38 h0_39 h0_40 h0_f41 h0_f42 h0_f43 h0_f44 h0_45 h0_46 h0_47 h0_48 h0_49 h0_50 h0_f51 h0_52 h0_f53 h2 h2k w_292 h0_5 h0_5k tN h0_5c) := hD
                  refine lv_aload_n hx hb dX12_readItems_116 rfl (lv_at hl 2 rfl) ?_
                  as_aux_lemma =>
                  refine va_get (D := (dC, dI)) (ci := 12) (v := .int (-1)) (C := RX12) (T := TX12) (N := 54) hx hb hts iw_c_X12_readItems_X12 hown hK hP 0 rfl rfl 11 (by decide +kernel) (hts (.fieldLink RX12 143 "BuoyVoteModel" "fault" "I") (List.mem_of_getElem? (i := 48) rfl)) (fun _ h9 => h9) rfl dX12_readItems_117 ?_
                  refine lv_iconst (v := (-1)) hx hb dX12_readItems_120 kc_iconst_m1 ?_
                  refine lv_icmp_ne (tgt := 45) hx hb dX12_readItems_121 rfl (fun c_296 => absurd c_296 (by decide +kernel)) (fun c_296 => ?_)
                  refine lv_aload hx hb dX12_readItems_124 (lv_at hl 6 rfl) ?_
                  refine lv_aload_n hx hb dX12_readItems_126 rfl (lv_at hl 2 rfl) ?_
                  obtain ⟨hPc, hDc, hFc, hqc⟩ := cl_cut (wc := (wd_c_X12_look h0 h0_f0 h0_1 h0_2 h0_3 h0_4 h0_5 h0_f6 h0_f7 h0_f8 h0_f9 x_267 (-1) h0_f12 h0_f13 h0_f14 h0_15 h0_16 h0_f17 h0_18 h0_19 h0_20 h0_21 h0_22 h0_23 h0_24 h0_25 h0_f26 h0_f27 h0_f28 h0_f29 h0_f30 h0_f31 h0_32 h0_33 h0_f34 h0_35 h0_36 h0_37 h0_38 h0_39 h0_40 h0_f41 h0_f42 h0_f43 h0_f44 h0_45 h0_46 h0_47 h0_48 h0_49 h0_50 h0_f51 h0_52 h0_f53 h0_5 h0_5k tN h0_5c)) hP hD hS hA [0, 2] (by decide +kernel) rfl
                  have hKc := hK.sub (tys' := [(h0_5k, .byte)]) [1] rfl
                  have hrv := va_recv hKc hPc (ci := 12) (q0 := 0) rfl rfl
                  refine va_calli (va_runV (As := []) (rest := [.ref ts10]) ⟨hx, hb, hml, hown, hts⟩ (c_X12_look l dC dI H.size h0 h0_f0 h0_1 h0_2 h0_3 h0_4 h0_5 h0_f6 h0_f7 h0_f8 h0_f9 x_267 h0_f12 h0_f13 h0_f14 h0_15 h0_16 h0_f17 h0_18 h0_19 h0_20 h0_21 h0_22 h0_23 h0_24 h0_25 h0_f26 h0_f27 h0_f28 h0_f29 h0_f30 h0_f31 h0_32 h0_33 h0_f34 h0_35 h0_36 h0_37 h0_38 h0_39 h0_40 h0_f41 h0_f42 h0_f43 h0_f44 h0_45 h0_46 h0_47 h0_48 h0_49 h0_50 h0_f51 h0_52 h0_f53 h0_5k h0_5c tN g_h0_f6 g_h0_f7 g_h0_f8 (RG_w g_h0_f9 (by decide +kernel)) (RG_w h_278 (by decide +kernel)) g_h0_f17 g_h0_f26 g_h0_f27 g_h0_f28 g_h0_f29 g_h0_f30 g_h0_f31 g_h0_f34 g_h0_f41 g_h0_f51 g_h0_f53 htN) (cwV 0 hts gf_c_X12_readItems_c_X12_look rfl rfl rfl mdV_X12_look ⟨Nat.le_of_ble_eq_true rfl, Nat.le_of_ble_eq_true rfl⟩) ⟨fun a U g mk q => by obtain ⟨q0, q1, qP, qK, qD⟩ := q; exact ⟨q0, q1, qP, va_K.moved (u := U) (U := U.calling g mk a) (Vm.Alike.refl U.vm) qK, qD⟩, hrv, fun U hU hW => ⟨rfl, by rw [hU], by rw [hU]; exact hPc, va_K.moved hW.alike hKc, hDc.weaken (fun _ _ _ _ => trivial)⟩⟩ rfl rfl hl.1 rfl (lv_room (Nat.le_of_ble_eq_true rfl)) dX12_readItems_127 ⟨Nat.le_of_ble_eq_true rfl, Nat.le_of_ble_eq_true rfl⟩) hS (fun q _ h => hFc q h) hFc (fun r_297 x_298 t H1 locs ht hvm hw hB hz1 hk1 hS => ?_)
                  obtain ⟨hP1, hK1, hD1⟩ := hB
                  rw [ht] at hP1
                  obtain ⟨hP, hD⟩ := cl_put (w1 := (wd_c_X12_look h0 h0_f0 h0_1 h0_2 h0_3 h0_4 h0_5 h0_f6 h0_f7 h0_f8 h0_f9 x_298 (-1) h0_f12 h0_f13 h0_f14 h0_15 h0_16 h0_f17 h0_18 h0_19 h0_20 h0_21 h0_22 h0_23 h0_24 h0_25 h0_f26 h0_f27 h0_f28 h0_f29 h0_f30 h0_f31 h0_32 h0_33 h0_f34 h0_35 h0_36 h0_37 h0_38 h0_39 h0_40 h0_f41 h0_f42 h0_f43 h0_f44 h0_45 h0_46 h0_47 h0_48 h0_49 h0_50 h0_f51 h0_52 h0_f53 h0_5 h0_5k tN h0_5c)) (nw := (wd_c_X12_readItems h0 h0_f0 h0_1 h0_2 h0_3 h0_4 h0_5 h0_f6 h0_f7 h0_f8 h0_f9 x_298 (-1) h0_f12 h0_f13 h0_f14 h0_15 h0_16 h0_f17 h0_18 h0_19 h0_20 h0_21 h0_22 h0_23 h0_24 h0_25 h0_f26 h0_f27 h0_f28 h0_f29 h0_f30 h0_f31 h0_32 h0_33 h0_f34 h0_35 h0_36 h0_37 h0_38 h0_39 h0_40 h0_f41 h0_f42 h0_f43 h0_f44 h0_45 h0_46 h0_47 h0_48 h0_49 h0_50 h0_f51 h0_52 h0_f53 h2 h2k w_292 h0_5 h0_5k tN h0_5c)) hP hD [0, 2] [3, 1, 4] 3 rfl hqc (by decide +kernel) rfl hk1 hFc hP1 hD1
                  generalize H1 = H at hP hS ⊢
                  as_aux_lemma =>
                  rcases hw with ⟨h_299, h_300, h_301, h_302, h_303⟩ | ⟨h_304, h_305, h_306, h_307, h_308, h_309⟩
                  · rw [h_299]
                    obtain ⟨hPc, hDc, hFc, hqc⟩ := cl_cut (wc := []) hP hD hS hA [] (by decide +kernel) rfl
                    have hKc := hK.sub (tys' := []) [] rfl
                    refine va_calli (va_runS (As := [.ref ts10, .int (-1)]) (rest := []) ⟨hx, hb, hml, hown, hts⟩ (c_X12_spotOf l dC dI H.size ts10 tv10) (va_cwS 2 hts gf_c_X12_readItems_c_X12_spotOf rfl rfl rfl md_X12_spotOf ⟨Nat.le_of_ble_eq_true rfl, Nat.le_of_ble_eq_true rfl⟩) ⟨fun a U g mk q => by obtain ⟨q0, q1, qP, qK, qD, qE0, qE1, qE2, qE3, qE4, qE5⟩ := q; exact ⟨q0, q1, qP, va_K.moved (u := U) (U := U.calling g mk a) (Vm.Alike.refl U.vm) qK, qD, va_OF.moved (u := U) (U := U.calling g mk a) (Vm.Alike.refl U.vm) qE0, va_T.moved (u := U) (U := U.calling g mk a) (Vm.Alike.refl U.vm) qE1, va_Z.moved (u := U) (U := U.calling g mk a) (Vm.Alike.refl U.vm) qE2, va_OF.moved (u := U) (U := U.calling g mk a) (Vm.Alike.refl U.vm) qE3, va_O.moved (u := U) (U := U.calling g mk a) (Vm.Alike.refl U.vm) qE4, va_Zq.moved (u := U) (U := U.calling g mk a) (Vm.Alike.refl U.vm) qE5⟩, fun U hU hW => ⟨rfl, by rw [hU], by rw [hU]; exact hPc, va_K.moved hW.alike hKc, hDc.weaken (fun _ _ _ _ => trivial), va_OF.moved hW.alike (by rw [hU]; exact (hE_65.kept hS.2.1).narrow hFc), va_T.moved hW.alike (by rw [hU]; exact (hE_66.kept hS.2.1).narrow hFc), va_Z.moved hW.alike (by rw [hU]; exact (hE_10.kept hS.2.1).narrow hFc), va_OF.moved hW.alike (by rw [hU]; exact (hE_64.kept hS.2.1).narrow hFc), va_O.moved hW.alike (by rw [hU]; exact (hE_63.kept hS.2.1).narrow hFc), va_Zq.moved hW.alike (by rw [hU]; exact (hE_11.kept hS.2.1).narrow hFc)⟩⟩ rfl rfl hl.1 rfl (lv_room (Nat.le_of_ble_eq_true rfl)) dX12_readItems_130 ⟨Nat.le_of_ble_eq_true rfl, Nat.le_of_ble_eq_true rfl⟩) hS (fun q _ h => hFc q h) hFc (fun r_310 u t H1 locs ht hvm hw hB hz1 hk1 hS => ?_)
                    obtain ⟨hP1, hK1, hD1⟩ := hB
                    rw [ht] at hP1
                    have hP := bv_still hP hk1
                    generalize H1 = H at hP hS ⊢
                    as_aux_lemma =>
                    have h_311 := hw
                    rw [h_311]
                    refine lv_istore (lv' := [(6, .int (-1)), (5, .int x_252), (0, .ref h0), (1, .int p1), (2, .ref h2), (3, .int p3), (4, .ref ts10)]) hx hb dX12_readItems_133 hl (Nat.le_of_ble_eq_true rfl) rfl (fun ls hl => ?_)
                    refine lv_goto (tgt := 45) hx hb dX12_readItems_135 rfl ?_
                    exact hU _ _ _ (J45 x_252 x_298 w_292 g_h0_f10 g_h0_f17 g_h0_f26 g_h0_f27 g_h0_f28 g_h0_f29 g_h0_f30 g_h0_f31 g_h0_f34 g_h0_f41 g_h0_f51 g_h0_f53 g_h0_f6 g_h0_f7 g_h0_f8 (RG_w g_h0_f9 (by decide +kernel)) h_300 g_p1 g_p3 a_295 i_294 (by have := r_h0_f10_j45b_h0_f10; have := q_255; have := h_281; have := h_301; omega) _ _ _ hP hD hS (lv_sub hl [0, 1, 2, 3, 4, 5, 6] rfl))
                  · have nb_312 := h_309.2.resolve_left (fun q => by have g9 := h_304; rw [q] at g9; exact absurd g9.1 (by decide +kernel))
                    obtain ⟨hPc, hDc, hFc, hqc⟩ := cl_cut (wc := []) hP hD hS hA [] (by decide +kernel) rfl
                    have hKc := hK.sub (tys' := []) [] rfl
                    refine va_calli (va_runS (As := [.ref ts10, .int r_297]) (rest := []) ⟨hx, hb, hml, hown, hts⟩ (c_X12_spotOf_1 l dC dI H.size ts10 r_297 tv10 h_304) (va_cwS 2 hts gf_c_X12_readItems_c_X12_spotOf_1 rfl rfl rfl md_X12_spotOf ⟨Nat.le_of_ble_eq_true rfl, Nat.le_of_ble_eq_true rfl⟩) ⟨fun a U g mk q => by obtain ⟨q0, q1, qP, qK, qD, qE0, qE1, qE2, qE3, qE4, qE5⟩ := q; exact ⟨q0, q1, qP, va_K.moved (u := U) (U := U.calling g mk a) (Vm.Alike.refl U.vm) qK, qD, va_OF.moved (u := U) (U := U.calling g mk a) (Vm.Alike.refl U.vm) qE0, va_T.moved (u := U) (U := U.calling g mk a) (Vm.Alike.refl U.vm) qE1, va_Z.moved (u := U) (U := U.calling g mk a) (Vm.Alike.refl U.vm) qE2, va_OF.moved (u := U) (U := U.calling g mk a) (Vm.Alike.refl U.vm) qE3, va_O.moved (u := U) (U := U.calling g mk a) (Vm.Alike.refl U.vm) qE4, va_Zq.moved (u := U) (U := U.calling g mk a) (Vm.Alike.refl U.vm) qE5⟩, fun U hU hW => ⟨rfl, by rw [hU], by rw [hU]; exact hPc, va_K.moved hW.alike hKc, hDc.weaken (fun _ _ _ _ => trivial), va_OF.moved hW.alike (by rw [hU]; exact (hE_65.kept hS.2.1).narrow hFc), va_T.moved hW.alike (by rw [hU]; exact (hE_66.kept hS.2.1).narrow hFc), va_Z.moved hW.alike (by rw [hU]; exact (hE_10.kept hS.2.1).narrow hFc), va_OF.moved hW.alike (by rw [hU]; exact (hE_64.kept hS.2.1).narrow hFc), va_O.moved hW.alike (by rw [hU]; exact (hE_63.kept hS.2.1).narrow hFc), va_Zq.moved hW.alike (by rw [hU]; exact (hE_11.kept hS.2.1).narrow hFc)⟩⟩ rfl rfl hl.1 rfl (lv_room (Nat.le_of_ble_eq_true rfl)) dX12_readItems_130 ⟨Nat.le_of_ble_eq_true rfl, Nat.le_of_ble_eq_true rfl⟩) hS (fun q _ h => hFc q h) hFc (fun r_313 u t H1 locs ht hvm hw hB hz1 hk1 hS => ?_)
                    obtain ⟨hP1, hK1, hD1⟩ := hB
                    rw [ht] at hP1
                    have hP := bv_still hP hk1
                    generalize H1 = H at hP hS ⊢
                    as_aux_lemma =>
                    rcases hw with h_314 | ⟨h_315, h_316⟩ | ⟨h_317, h_318⟩ | ⟨h_319, h_320⟩ | ⟨h_321, h_322⟩
                    · rw [h_314]
                      refine lv_istore (lv' := [(6, .int (-1)), (5, .int x_252), (0, .ref h0), (1, .int p1), (2, .ref h2), (3, .int p3), (4, .ref ts10)]) hx hb dX12_readItems_133 hl (Nat.le_of_ble_eq_true rfl) rfl (fun ls hl => ?_)
                      refine lv_goto (tgt := 45) hx hb dX12_readItems_135 rfl ?_
                      exact hU _ _ _ (J45 x_252 x_298 w_292 g_h0_f10 g_h0_f17 g_h0_f26 g_h0_f27 g_h0_f28 g_h0_f29 g_h0_f30 g_h0_f31 g_h0_f34 g_h0_f41 g_h0_f51 g_h0_f53 g_h0_f6 g_h0_f7 g_h0_f8 (RG_w g_h0_f9 (by decide +kernel)) (RG_w h_305 (by decide +kernel)) g_p1 g_p3 a_295 i_294 (by have := r_h0_f10_j45b_h0_f10; have := q_255; have := h_281; have := h_307; omega) _ _ _ hP hD hS (lv_sub hl [0, 1, 2, 3, 4, 5, 6] rfl))
                    · rw [h_315]
                      refine lv_istore (lv' := [(6, .int 3), (5, .int x_252), (0, .ref h0), (1, .int p1), (2, .ref h2), (3, .int p3), (4, .ref ts10)]) hx hb dX12_readItems_133 hl (Nat.le_of_ble_eq_true rfl) rfl (fun ls hl => ?_)
                      refine lv_goto (tgt := 45) hx hb dX12_readItems_135 rfl ?_
                      exact hU _ _ _ (ih45b 3 x_252 x_298 w_292 (mu_s (MU_lt (by have := q_255; have := h_281; have := h_307; omega)) hM45b) g_h0_f10 g_h0_f17 g_h0_f26 g_h0_f27 g_h0_f28 g_h0_f29 g_h0_f30 g_h0_f31 g_h0_f34 g_h0_f41 g_h0_f51 g_h0_f53 g_h0_f6 g_h0_f7 g_h0_f8 g_h0_f9 h_305 (RG_w (RG_k 3 3 rfl) (by decide +kernel)) g_p1 g_p3 a_295 i_294 (by have := r_h0_f10_j45b_h0_f10; have := q_255; have := h_281; have := h_307; omega) _ _ _ hP hD hS (lv_sub hl [0, 1, 2, 3, 4, 5, 6] rfl))
                    · rw [h_317]
                      refine lv_istore (lv' := [(6, .int 2), (5, .int x_252), (0, .ref h0), (1, .int p1), (2, .ref h2), (3, .int p3), (4, .ref ts10)]) hx hb dX12_readItems_133 hl (Nat.le_of_ble_eq_true rfl) rfl (fun ls hl => ?_)
                      refine lv_goto (tgt := 45) hx hb dX12_readItems_135 rfl ?_
                      exact hU _ _ _ (ih45b 2 x_252 x_298 w_292 (mu_s (MU_lt (by have := q_255; have := h_281; have := h_307; omega)) hM45b) g_h0_f10 g_h0_f17 g_h0_f26 g_h0_f27 g_h0_f28 g_h0_f29 g_h0_f30 g_h0_f31 g_h0_f34 g_h0_f41 g_h0_f51 g_h0_f53 g_h0_f6 g_h0_f7 g_h0_f8 g_h0_f9 h_305 (RG_w (RG_k 2 2 rfl) (by decide +kernel)) g_p1 g_p3 a_295 i_294 (by have := r_h0_f10_j45b_h0_f10; have := q_255; have := h_281; have := h_307; omega) _ _ _ hP hD hS (lv_sub hl [0, 1, 2, 3, 4, 5, 6] rfl))
                    · rw [h_319]
                      refine lv_istore (lv' := [(6, .int 1), (5, .int x_252), (0, .ref h0), (1, .int p1), (2, .ref h2), (3, .int p3), (4, .ref ts10)]) hx hb dX12_readItems_133 hl (Nat.le_of_ble_eq_true rfl) rfl (fun ls hl => ?_)
                      as_aux_lemma =>
                      refine lv_goto (tgt := 45) hx hb dX12_readItems_135 rfl ?_
                      exact hU _ _ _ (ih45b 1 x_252 x_298 w_292 (mu_s (MU_lt (by have := q_255; have := h_281; have := h_307; omega)) hM45b) g_h0_f10 g_h0_f17 g_h0_f26 g_h0_f27 g_h0_f28 g_h0_f29 g_h0_f30 g_h0_f31 g_h0_f34 g_h0_f41 g_h0_f51 g_h0_f53 g_h0_f6 g_h0_f7 g_h0_f8 g_h0_f9 h_305 (RG_w (RG_k 1 1 rfl) (by decide +kernel)) g_p1 g_p3 a_295 i_294 (by have := r_h0_f10_j45b_h0_f10; have := q_255; have := h_281; have := h_307; omega) _ _ _ hP hD hS (lv_sub hl [0, 1, 2, 3, 4, 5, 6] rfl))
                    · rw [h_321]
                      refine lv_istore (lv' := [(6, .int 0), (5, .int x_252), (0, .ref h0), (1, .int p1), (2, .ref h2), (3, .int p3), (4, .ref ts10)]) hx hb dX12_readItems_133 hl (Nat.le_of_ble_eq_true rfl) rfl (fun ls hl => ?_)
                      refine lv_goto (tgt := 45) hx hb dX12_readItems_135 rfl ?_
                      exact hU _ _ _ (ih45b 0 x_252 x_298 w_292 (mu_s (MU_lt (by have := q_255; have := h_281; have := h_307; omega)) hM45b) g_h0_f10 g_h0_f17 g_h0_f26 g_h0_f27 g_h0_f28 g_h0_f29 g_h0_f30 g_h0_f31 g_h0_f34 g_h0_f41 g_h0_f51 g_h0_f53 g_h0_f6 g_h0_f7 g_h0_f8 g_h0_f9 h_305 (RG_w (RG_k 0 0 rfl) (by decide +kernel)) g_p1 g_p3 a_295 i_294 (by have := r_h0_f10_j45b_h0_f10; have := q_255; have := h_281; have := h_307; omega) _ _ _ hP hD hS (lv_sub hl [0, 1, 2, 3, 4, 5, 6] rfl))
              · rw [h_264]
                exact RG_dead (RG_eq1 (RG_k 3 3 rfl) h_265 rfl (a' := 3) (b' := 2) (by decide +kernel)) (by decide +kernel)
            · rw [h_260]
              exact RG_dead (RG_eq1 (RG_k 3 3 rfl) h_261 rfl (a' := 3) (b' := 2) (by decide +kernel)) (by decide +kernel)
          · rw [h_248]
            refine lv_if_eq (tgt := 75) hx hb dX12_readItems_66 rfl (fun c_323 => absurd c_323 (by decide +kernel)) (fun c_323 => ?_)
            refine lv_aload_n hx hb dX12_readItems_69 rfl (lv_at hl 2 rfl) ?_
            obtain ⟨hPc, hDc, hFc, hqc⟩ := cl_cut (wc := (wd_c_X12_fails h0 h0_f0 h0_1 h0_2 h0_3 h0_4 h0_5 h0_f6 h0_f7 h0_f8 h0_f9 j45b_h0_f10 (-1) h0_f12 h0_f13 h0_f14 h0_15 h0_16 h0_f17 h0_18 h0_19 h0_20 h0_21 h0_22 h0_23 h0_24 h0_25 h0_f26 h0_f27 h0_f28 h0_f29 h0_f30 h0_f31 h0_32 h0_33 h0_f34 h0_35 h0_36 h0_37 h0_38 h0_39 h0_40 h0_f41 h0_f42 h0_f43 h0_f44 h0_45 h0_46 h0_47 h0_48 h0_49 h0_50 h0_f51 h0_52 h0_f53)) hP hD hS hA [0] (by decide +kernel) rfl
            have hKc := hK.sub (tys' := []) [] rfl
            have hrv := va_recv hKc hPc (ci := 12) (q0 := 0) rfl rfl
            refine va_calli (va_runV (As := []) (rest := []) ⟨hx, hb, hml, hown, hts⟩ (c_X12_fails l dC dI H.size h0 h0_f0 h0_1 h0_2 h0_3 h0_4 h0_5 h0_f6 h0_f7 h0_f8 h0_f9 j45b_h0_f10 h0_f12 h0_f13 h0_f14 h0_15 h0_16 h0_f17 h0_18 h0_19 h0_20 h0_21 h0_22 h0_23 h0_24 h0_25 h0_f26 h0_f27 h0_f28 h0_f29 h0_f30 h0_f31 h0_32 h0_33 h0_f34 h0_35 h0_36 h0_37 h0_38 h0_39 h0_40 h0_f41 h0_f42 h0_f43 h0_f44 h0_45 h0_46 h0_47 h0_48 h0_49 h0_50 h0_f51 h0_52 h0_f53 g_h0_f6 g_h0_f7 g_h0_f8 (RG_w g_h0_f9 (by decide +kernel)) (RG_w g_j45b_h0_f10 (by decide +kernel)) g_h0_f17 g_h0_f26 g_h0_f27 g_h0_f28 g_h0_f29 g_h0_f30 g_h0_f31 g_h0_f34 g_h0_f41 g_h0_f51 g_h0_f53) (cwV 0 hts gf_c_X12_readItems_c_X12_fails rfl rfl rfl mdV_X12_fails ⟨Nat.le_of_ble_eq_true rfl, Nat.le_of_ble_eq_true rfl⟩) ⟨fun a U g mk q => by obtain ⟨q0, q1, qP, qK, qD⟩ := q; exact ⟨q0, q1, qP, va_K.moved (u := U) (U := U.calling g mk a) (Vm.Alike.refl U.vm) qK, qD⟩, hrv, fun U hU hW => ⟨rfl, by rw [hU], by rw [hU]; exact hPc, va_K.moved hW.alike hKc, hDc.weaken (fun _ _ _ _ => trivial)⟩⟩ rfl rfl hl.1 rfl (lv_room (Nat.le_of_ble_eq_true rfl)) dX12_readItems_70 ⟨Nat.le_of_ble_eq_true rfl, Nat.le_of_ble_eq_true rfl⟩) hS (fun q _ h => hFc q h) hFc (fun r_324 u t H1 locs ht hvm hw hB hz1 hk1 hS => ?_)
            as_aux_lemma =>
            obtain ⟨hP1, hK1, hD1⟩ := hB
            rw [ht] at hP1
            obtain ⟨hP, hD⟩ := cl_put (w1 := (wd_c_X12_fails h0 h0_f0 h0_1 h0_2 h0_3 h0_4 h0_5 h0_f6 h0_f7 h0_f8 h0_f9 j45b_h0_f10 j45b_h0_f10 h0_f12 h0_f13 h0_f14 h0_15 h0_16 h0_f17 h0_18 h0_19 h0_20 h0_21 h0_22 h0_23 h0_24 h0_25 h0_f26 h0_f27 h0_f28 h0_f29 h0_f30 h0_f31 h0_32 h0_33 h0_f34 h0_35 h0_36 h0_37 h0_38 h0_39 h0_40 h0_f41 h0_f42 h0_f43 h0_f44 h0_45 h0_46 h0_47 h0_48 h0_49 h0_50 h0_f51 h0_52 h0_f53)) (nw := (wd_c_X12_readItems h0 h0_f0 h0_1 h0_2 h0_3 h0_4 h0_5 h0_f6 h0_f7 h0_f8 h0_f9 j45b_h0_f10 j45b_h0_f10 h0_f12 h0_f13 h0_f14 h0_15 h0_16 h0_f17 h0_18 h0_19 h0_20 h0_21 h0_22 h0_23 h0_24 h0_25 h0_f26 h0_f27 h0_f28 h0_f29 h0_f30 h0_f31 h0_32 h0_33 h0_f34 h0_35 h0_36 h0_37 h0_38 h0_39 h0_40 h0_f41 h0_f42 h0_f43 h0_f44 h0_45 h0_46 h0_47 h0_48 h0_49 h0_50 h0_f51 h0_52 h0_f53 h2 h2k j45b_h2c h0_5 h0_5k tN h0_5c)) hP hD [0] [3, 1, 2] 3 rfl hqc (by decide +kernel) rfl hk1 hFc hP1 hD1
            generalize H1 = H at hP hS ⊢
            as_aux_lemma =>
            have h_325 := hw
            rw [h_325]
            refine lv_pop hx hb dX12_readItems_73 rfl ?_
            have hK9 := hK.sub (tys' := []) [] rfl
            exact W.vret hx hb hr (fun t ht hW => ⟨⟨(j45b_h0_f10, j45b_h0_f10, j45b_h2c), rfl, (Or.inr ⟨(RG_w g_j45b_h0_f10 (by decide +kernel)), (RG_w g_j45b_h0_f10 (by decide +kernel)), a_j45b_h2c, g_h0_f9⟩), by rw [ht]; exact hP, va_K.moved hW.alike hK9, hD⟩, hS.F ht⟩) hS.2.2 dX12_readItems_74
        exfalso
        have zc_6 := lv_neT c_6 (a := 0) (by decide +kernel)
        have zc_84 := lv_neT c_84 (a := 1) (by decide +kernel)
        have zc_162 := lv_neT c_162 (a := 2) (by decide +kernel)
        have zc_244 := lv_neT c_244 (a := 3) (by decide +kernel)
        have zg1 := (g_j45b_l6).1
        have zg2 := (g_j45b_l6).2
        omega
  refine hG _ _ _ ?_
  as_aux_lemma =>
  refine lv_iconst (v := 0) hx hb dX12_readItems_0 kc_iconst_0 ?_
  refine lv_istore (lv' := [(5, .int 0), (0, .ref h0), (1, .int p1), (2, .ref h2), (3, .int p3), (4, .ref ts10)]) hx hb dX12_readItems_1 hl (Nat.le_of_ble_eq_true rfl) rfl (fun ls hl => ?_)
  refine lv_iload hx hb dX12_readItems_3 (lv_at hl 0 rfl) ?_
  refine lv_aload hx hb dX12_readItems_5 (lv_at hl 5 rfl) ?_
  obtain ⟨hPc, hDc, hFc, hqc⟩ := cl_cut (wc := []) hP hD hS hA [] (by decide +kernel) rfl
  have hKc := hK.sub (tys' := []) [] rfl
  have hrv := bv_Orecv hE_63 hS
  refine va_calli (va_runV (As := []) (rest := [.int 0]) ⟨hx, hb, hml, hown, hts⟩ (c_J0_length_8abf5_6 l dC dI H.size ts10 tv10) (cwV 0 hts gf_c_X12_readItems_c_J0_length_8abf5_6 rfl rfl rfl mdV_J0_length_8abf5 ⟨Nat.le_of_ble_eq_true rfl, Nat.le_of_ble_eq_true rfl⟩) ⟨fun a U g mk q => by obtain ⟨q0, q1, qP, qK, qD, qE0, qE1, qE2, qE3, qE4⟩ := q; exact ⟨q0, q1, qP, va_K.moved (u := U) (U := U.calling g mk a) (Vm.Alike.refl U.vm) qK, qD, va_OF.moved (u := U) (U := U.calling g mk a) (Vm.Alike.refl U.vm) qE0, va_T.moved (u := U) (U := U.calling g mk a) (Vm.Alike.refl U.vm) qE1, va_Z.moved (u := U) (U := U.calling g mk a) (Vm.Alike.refl U.vm) qE2, va_OF.moved (u := U) (U := U.calling g mk a) (Vm.Alike.refl U.vm) qE3, va_O.moved (u := U) (U := U.calling g mk a) (Vm.Alike.refl U.vm) qE4⟩, hrv, fun U hU hW => ⟨rfl, by rw [hU], by rw [hU]; exact hPc, va_K.moved hW.alike hKc, hDc.weaken (fun _ _ _ _ => trivial), va_OF.moved hW.alike (by rw [hU]; exact (hE_65.kept hS.2.1).narrow hFc), va_T.moved hW.alike (by rw [hU]; exact (hE_66.kept hS.2.1).narrow hFc), va_Z.moved hW.alike (by rw [hU]; exact (hE_10.kept hS.2.1).narrow hFc), va_OF.moved hW.alike (by rw [hU]; exact (hE_64.kept hS.2.1).narrow hFc), va_O.moved hW.alike (by rw [hU]; exact (hE_63.kept hS.2.1).narrow hFc)⟩⟩ rfl rfl hl.1 rfl (lv_room (Nat.le_of_ble_eq_true rfl)) dX12_readItems_7 ⟨Nat.le_of_ble_eq_true rfl, Nat.le_of_ble_eq_true rfl⟩) hS (fun q _ h => hFc q h) hFc (fun r_326 u t H1 locs ht hvm hw hB hz1 hk1 hS => ?_)
  obtain ⟨hP1, hK1, hD1⟩ := hB
  rw [ht] at hP1
  have hP := bv_still hP hk1
  generalize H1 = H at hP hS ⊢
  as_aux_lemma =>
  have h_327 := hw
  rw [h_327]
  refine lv_icmp_ge (tgt := 31) hx hb dX12_readItems_10 rfl (fun c_328 => absurd c_328 (by decide +kernel)) (fun c_328 => ?_)
  refine lv_aload_n hx hb dX12_readItems_13 rfl (lv_at hl 3 rfl) ?_
  refine lv_iload_n hx hb dX12_readItems_14 rfl (lv_at hl 4 rfl) ?_
  refine lv_iload hx hb dX12_readItems_15 (lv_at hl 0 rfl) ?_
  refine lv_iadd hx hb dX12_readItems_17 ?_
  refine lv_topi (fun x_329 ex_329 => ?_)
  have g_330 : RG x_329 0 8 := RG_add ex_329 g_p3 (RG_k 0 0 rfl) (by decide +kernel)
  refine lv_iload_n hx hb dX12_readItems_18 rfl (lv_at hl 2 rfl) ?_
  refine lv_iload hx hb dX12_readItems_19 (lv_at hl 0 rfl) ?_
  obtain ⟨hPc, hDc, hFc, hqc⟩ := cl_cut (wc := []) hP hD hS hA [] (by decide +kernel) rfl
  have hKc := hK.sub (tys' := []) [] rfl
  refine va_calli (va_runS (As := [.int p1, .int 0]) (rest := [.int x_329, .ref h2]) ⟨hx, hb, hml, hown, hts⟩ (c_X12_usual_4 l dC dI H.size p1 0 g_p1 (RG_k 0 0 rfl)) (va_cwS 2 hts gf_c_X12_readItems_c_X12_usual_4 rfl rfl rfl md_X12_usual ⟨Nat.le_of_ble_eq_true rfl, Nat.le_of_ble_eq_true rfl⟩) ⟨fun a U g mk q => by obtain ⟨q0, q1, qP, qK, qD⟩ := q; exact ⟨q0, q1, qP, va_K.moved (u := U) (U := U.calling g mk a) (Vm.Alike.refl U.vm) qK, qD⟩, fun U hU hW => ⟨rfl, by rw [hU], by rw [hU]; exact hPc, va_K.moved hW.alike hKc, hDc.weaken (fun _ _ _ _ => trivial)⟩⟩ rfl rfl hl.1 rfl (lv_room (Nat.le_of_ble_eq_true rfl)) dX12_readItems_21 ⟨Nat.le_of_ble_eq_true rfl, Nat.le_of_ble_eq_true rfl⟩) hS (fun q _ h => hFc q h) hFc (fun r_331 u t H1 locs ht hvm hw hB hz1 hk1 hS => ?_)
  as_aux_lemma =>
  obtain ⟨hP1, hK1, hD1⟩ := hB
  rw [ht] at hP1
  have hP := bv_still hP hk1
  generalize H1 = H at hP hS ⊢
  as_aux_lemma =>
  have h_332 := hw
  rw [h_332]
  refine va_iast hx hb hK hP hD hS 1 0 rfl rfl (RG_in g_330 (by decide +kernel)) dX12_readItems_24 (fun H locs hP hD hS => ?_)
  have hP : va_P (dC, dI) vwCl (wd_c_X12_readItems h0 h0_f0 h0_1 h0_2 h0_3 h0_4 h0_5 h0_f6 h0_f7 h0_f8 h0_f9 h0_f10 (-1) h0_f12 h0_f13 h0_f14 h0_15 h0_16 h0_f17 h0_18 h0_19 h0_20 h0_21 h0_22 h0_23 h0_24 h0_25 h0_f26 h0_f27 h0_f28 h0_f29 h0_f30 h0_f31 h0_32 h0_33 h0_f34 h0_35 h0_36 h0_37 h0_38 h0_39 h0_40 h0_f41 h0_f42 h0_f43 h0_f44 h0_45 h0_46 h0_47 h0_48 h0_49 h0_50 h0_f51 h0_52 h0_f53 h2 h2k (upd h2c (x_329 : Int32).toNatClampNeg 0) h0_5 h0_5k tN h0_5c) H := hP
  have hD : va_D A (wd_c_X12_readItems h0 h0_f0 h0_1 h0_2 h0_3 h0_4 h0_5 h0_f6 h0_f7 h0_f8 h0_f9 h0_f10 (-1) h0_f12 h0_f13 h0_f14 h0_15 h0_16 h0_f17 h0_18 h0_19 h0_20 h0_21 h0_22 h0_23 h0_24 h0_25 h0_f26 h0_f27 h0_f28 h0_f29 h0_f30 h0_f31 h0_32 h0_33 h0_f34 h0_35 h0_36 h0_37 h0_38 h0_39 h0_40 h0_f41 h0_f42 h0_f43 h0_f44 h0_45 h0_46 h0_47 h0_48 h0_49 h0_50 h0_f51 h0_52 h0_f53 h2 h2k (upd h2c (x_329 : Int32).toNatClampNeg 0) h0_5 h0_5k tN h0_5c) := hD
  have l_334 : (upd h2c (x_329 : Int32).toNatClampNeg 0) (x_329 : Int32).toNatClampNeg = 0 := pk_us
  have i_335 : BOi (p3.toInt) (upd h2c (x_329 : Int32).toNatClampNeg 0) := BOi_keep i_h2c g_330 (by decide +kernel) (Or.inr (Or.inl (by have := hrow; have := eq_add ex_329 g_p3 (q := 0) rfl (by decide +kernel); omega)))
  have a_336 : AI (upd h2c (x_329 : Int32).toNatClampNeg 0) 0 99 := AI_up a_h2c (RG_k 0 0 rfl) (by decide +kernel)
  generalize (upd h2c (x_329 : Int32).toNatClampNeg 0) = w_333 at hP hD a_336 l_334 i_335
  have hP : va_P (dC, dI) vwCl (wd_c_X12_readItems h0 h0_f0 h0_1 h0_2 h0_3 h0_4 h0_5 h0_f6 h0_f7 h0_f8 h0_f9 h0_f10 (-1) h0_f12 h0_f13 h0_f14 h0_15 h0_16 h0_f17 h0_18 h0_19 h0_20 h0_21 h0_22 h0_23 h0_24 h0_25 h0_f26 h0_f27 h0_f28 h0_f29 h0_f30 h0_f31 h0_32 h0_33 h0_f34 h0_35 h0_36 h0_37 h0_38 h0_39 h0_40 h0_f41 h0_f42 h0_f43 h0_f44 h0_45 h0_46 h0_47 h0_48 h0_49 h0_50 h0_f51 h0_52 h0_f53 h2 h2k w_333 h0_5 h0_5k tN h0_5c) H := hP
  have hD : va_D A (wd_c_X12_readItems h0 h0_f0 h0_1 h0_2 h0_3 h0_4 h0_5 h0_f6 h0_f7 h0_f8 h0_f9 h0_f10 (-1) h0_f12 h0_f13 h0_f14 h0_15 h0_16 h0_f17 h0_18 h0_19 h0_20 h0_21 h0_22 h0_23 h0_24 h0_25 h0_f26 h0_f27 h0_f28 h0_f29 h0_f30 h0_f31 h0_32 h0_33 h0_f34 h0_35 h0_36 h0_37 h0_38 h0_39 h0_40 h0_f41 h0_f42 h0_f43 h0_f44 h0_45 h0_46 h0_47 h0_48 h0_49 h0_50 h0_f51 h0_52 h0_f53 h2 h2k w_333 h0_5 h0_5k tN h0_5c) := hD
  refine lv_iinc (v := 1) (lv' := [(5, .int 1), (0, .ref h0), (1, .int p1), (2, .ref h2), (3, .int p3), (4, .ref ts10)]) hx hb dX12_readItems_25 hl (k := 0) rfl (by decide +kernel) (Nat.le_of_ble_eq_true rfl) rfl (fun ls hl => ?_)
  refine lv_goto (tgt := 3) hx hb dX12_readItems_28 rfl ?_
  refine lv_iload hx hb dX12_readItems_3 (lv_at hl 0 rfl) ?_
  as_aux_lemma =>
  refine lv_aload hx hb dX12_readItems_5 (lv_at hl 5 rfl) ?_
  obtain ⟨hPc, hDc, hFc, hqc⟩ := cl_cut (wc := []) hP hD hS hA [] (by decide +kernel) rfl
  have hKc := hK.sub (tys' := []) [] rfl
  have hrv := bv_Orecv hE_63 hS
  refine va_calli (va_runV (As := []) (rest := [.int 1]) ⟨hx, hb, hml, hown, hts⟩ (c_J0_length_8abf5_6 l dC dI H.size ts10 tv10) (cwV 0 hts gf_c_X12_readItems_c_J0_length_8abf5_6 rfl rfl rfl mdV_J0_length_8abf5 ⟨Nat.le_of_ble_eq_true rfl, Nat.le_of_ble_eq_true rfl⟩) ⟨fun a U g mk q => by obtain ⟨q0, q1, qP, qK, qD, qE0, qE1, qE2, qE3, qE4⟩ := q; exact ⟨q0, q1, qP, va_K.moved (u := U) (U := U.calling g mk a) (Vm.Alike.refl U.vm) qK, qD, va_OF.moved (u := U) (U := U.calling g mk a) (Vm.Alike.refl U.vm) qE0, va_T.moved (u := U) (U := U.calling g mk a) (Vm.Alike.refl U.vm) qE1, va_Z.moved (u := U) (U := U.calling g mk a) (Vm.Alike.refl U.vm) qE2, va_OF.moved (u := U) (U := U.calling g mk a) (Vm.Alike.refl U.vm) qE3, va_O.moved (u := U) (U := U.calling g mk a) (Vm.Alike.refl U.vm) qE4⟩, hrv, fun U hU hW => ⟨rfl, by rw [hU], by rw [hU]; exact hPc, va_K.moved hW.alike hKc, hDc.weaken (fun _ _ _ _ => trivial), va_OF.moved hW.alike (by rw [hU]; exact (hE_65.kept hS.2.1).narrow hFc), va_T.moved hW.alike (by rw [hU]; exact (hE_66.kept hS.2.1).narrow hFc), va_Z.moved hW.alike (by rw [hU]; exact (hE_10.kept hS.2.1).narrow hFc), va_OF.moved hW.alike (by rw [hU]; exact (hE_64.kept hS.2.1).narrow hFc), va_O.moved hW.alike (by rw [hU]; exact (hE_63.kept hS.2.1).narrow hFc)⟩⟩ rfl rfl hl.1 rfl (lv_room (Nat.le_of_ble_eq_true rfl)) dX12_readItems_7 ⟨Nat.le_of_ble_eq_true rfl, Nat.le_of_ble_eq_true rfl⟩) hS (fun q _ h => hFc q h) hFc (fun r_337 u t H1 locs ht hvm hw hB hz1 hk1 hS => ?_)
  obtain ⟨hP1, hK1, hD1⟩ := hB
  rw [ht] at hP1
  have hP := bv_still hP hk1
  generalize H1 = H at hP hS ⊢
  as_aux_lemma =>
  have h_338 := hw
  rw [h_338]
  refine lv_icmp_ge (tgt := 31) hx hb dX12_readItems_10 rfl (fun c_339 => absurd c_339 (by decide +kernel)) (fun c_339 => ?_)
  refine lv_aload_n hx hb dX12_readItems_13 rfl (lv_at hl 3 rfl) ?_
  refine lv_iload_n hx hb dX12_readItems_14 rfl (lv_at hl 4 rfl) ?_
  refine lv_iload hx hb dX12_readItems_15 (lv_at hl 0 rfl) ?_
  refine lv_iadd hx hb dX12_readItems_17 ?_
  refine lv_topi (fun x_340 ex_340 => ?_)
  have g_341 : RG x_340 1 9 := RG_add ex_340 g_p3 (RG_k 1 1 rfl) (by decide +kernel)
  refine lv_iload_n hx hb dX12_readItems_18 rfl (lv_at hl 2 rfl) ?_
  refine lv_iload hx hb dX12_readItems_19 (lv_at hl 0 rfl) ?_
  obtain ⟨hPc, hDc, hFc, hqc⟩ := cl_cut (wc := []) hP hD hS hA [] (by decide +kernel) rfl
  have hKc := hK.sub (tys' := []) [] rfl
  refine va_calli (va_runS (As := [.int p1, .int 1]) (rest := [.int x_340, .ref h2]) ⟨hx, hb, hml, hown, hts⟩ (c_X12_usual_5 l dC dI H.size p1 1 g_p1 (RG_w (RG_k 1 1 rfl) (by decide +kernel))) (va_cwS 2 hts gf_c_X12_readItems_c_X12_usual_5 rfl rfl rfl md_X12_usual ⟨Nat.le_of_ble_eq_true rfl, Nat.le_of_ble_eq_true rfl⟩) ⟨fun a U g mk q => by obtain ⟨q0, q1, qP, qK, qD⟩ := q; exact ⟨q0, q1, qP, va_K.moved (u := U) (U := U.calling g mk a) (Vm.Alike.refl U.vm) qK, qD⟩, fun U hU hW => ⟨rfl, by rw [hU], by rw [hU]; exact hPc, va_K.moved hW.alike hKc, hDc.weaken (fun _ _ _ _ => trivial)⟩⟩ rfl rfl hl.1 rfl (lv_room (Nat.le_of_ble_eq_true rfl)) dX12_readItems_21 ⟨Nat.le_of_ble_eq_true rfl, Nat.le_of_ble_eq_true rfl⟩) hS (fun q _ h => hFc q h) hFc (fun r_342 u t H1 locs ht hvm hw hB hz1 hk1 hS => ?_)
  as_aux_lemma =>
  obtain ⟨hP1, hK1, hD1⟩ := hB
  rw [ht] at hP1
  have hP := bv_still hP hk1
  generalize H1 = H at hP hS ⊢
  as_aux_lemma =>
  have h_343 := hw
  rw [h_343]
  refine va_iast hx hb hK hP hD hS 1 0 rfl rfl (RG_in g_341 (by decide +kernel)) dX12_readItems_24 (fun H locs hP hD hS => ?_)
  have hP : va_P (dC, dI) vwCl (wd_c_X12_readItems h0 h0_f0 h0_1 h0_2 h0_3 h0_4 h0_5 h0_f6 h0_f7 h0_f8 h0_f9 h0_f10 (-1) h0_f12 h0_f13 h0_f14 h0_15 h0_16 h0_f17 h0_18 h0_19 h0_20 h0_21 h0_22 h0_23 h0_24 h0_25 h0_f26 h0_f27 h0_f28 h0_f29 h0_f30 h0_f31 h0_32 h0_33 h0_f34 h0_35 h0_36 h0_37 h0_38 h0_39 h0_40 h0_f41 h0_f42 h0_f43 h0_f44 h0_45 h0_46 h0_47 h0_48 h0_49 h0_50 h0_f51 h0_52 h0_f53 h2 h2k (upd w_333 (x_340 : Int32).toNatClampNeg 0) h0_5 h0_5k tN h0_5c) H := hP
  have hD : va_D A (wd_c_X12_readItems h0 h0_f0 h0_1 h0_2 h0_3 h0_4 h0_5 h0_f6 h0_f7 h0_f8 h0_f9 h0_f10 (-1) h0_f12 h0_f13 h0_f14 h0_15 h0_16 h0_f17 h0_18 h0_19 h0_20 h0_21 h0_22 h0_23 h0_24 h0_25 h0_f26 h0_f27 h0_f28 h0_f29 h0_f30 h0_f31 h0_32 h0_33 h0_f34 h0_35 h0_36 h0_37 h0_38 h0_39 h0_40 h0_f41 h0_f42 h0_f43 h0_f44 h0_45 h0_46 h0_47 h0_48 h0_49 h0_50 h0_f51 h0_52 h0_f53 h2 h2k (upd w_333 (x_340 : Int32).toNatClampNeg 0) h0_5 h0_5k tN h0_5c) := hD
  have l_345 : (upd w_333 (x_340 : Int32).toNatClampNeg 0) (x_340 : Int32).toNatClampNeg = 0 := pk_us
  have i_346 : BOi (p3.toInt) (upd w_333 (x_340 : Int32).toNatClampNeg 0) := BOi_keep i_335 g_341 (by decide +kernel) (Or.inr (Or.inl (by have := hrow; have := eq_add ex_340 g_p3 (q := 1) rfl (by decide +kernel); omega)))
  have a_347 : AI (upd w_333 (x_340 : Int32).toNatClampNeg 0) 0 99 := AI_up a_336 (RG_k 0 0 rfl) (by decide +kernel)
  generalize (upd w_333 (x_340 : Int32).toNatClampNeg 0) = w_344 at hP hD a_347 l_345 i_346
  have hP : va_P (dC, dI) vwCl (wd_c_X12_readItems h0 h0_f0 h0_1 h0_2 h0_3 h0_4 h0_5 h0_f6 h0_f7 h0_f8 h0_f9 h0_f10 (-1) h0_f12 h0_f13 h0_f14 h0_15 h0_16 h0_f17 h0_18 h0_19 h0_20 h0_21 h0_22 h0_23 h0_24 h0_25 h0_f26 h0_f27 h0_f28 h0_f29 h0_f30 h0_f31 h0_32 h0_33 h0_f34 h0_35 h0_36 h0_37 h0_38 h0_39 h0_40 h0_f41 h0_f42 h0_f43 h0_f44 h0_45 h0_46 h0_47 h0_48 h0_49 h0_50 h0_f51 h0_52 h0_f53 h2 h2k w_344 h0_5 h0_5k tN h0_5c) H := hP
  have hD : va_D A (wd_c_X12_readItems h0 h0_f0 h0_1 h0_2 h0_3 h0_4 h0_5 h0_f6 h0_f7 h0_f8 h0_f9 h0_f10 (-1) h0_f12 h0_f13 h0_f14 h0_15 h0_16 h0_f17 h0_18 h0_19 h0_20 h0_21 h0_22 h0_23 h0_24 h0_25 h0_f26 h0_f27 h0_f28 h0_f29 h0_f30 h0_f31 h0_32 h0_33 h0_f34 h0_35 h0_36 h0_37 h0_38 h0_39 h0_40 h0_f41 h0_f42 h0_f43 h0_f44 h0_45 h0_46 h0_47 h0_48 h0_49 h0_50 h0_f51 h0_52 h0_f53 h2 h2k w_344 h0_5 h0_5k tN h0_5c) := hD
  refine lv_iinc (v := 2) (lv' := [(5, .int 2), (0, .ref h0), (1, .int p1), (2, .ref h2), (3, .int p3), (4, .ref ts10)]) hx hb dX12_readItems_25 hl (k := 0) rfl (by decide +kernel) (Nat.le_of_ble_eq_true rfl) rfl (fun ls hl => ?_)
  refine lv_goto (tgt := 3) hx hb dX12_readItems_28 rfl ?_
  refine lv_iload hx hb dX12_readItems_3 (lv_at hl 0 rfl) ?_
  as_aux_lemma =>
  refine lv_aload hx hb dX12_readItems_5 (lv_at hl 5 rfl) ?_
  obtain ⟨hPc, hDc, hFc, hqc⟩ := cl_cut (wc := []) hP hD hS hA [] (by decide +kernel) rfl
  have hKc := hK.sub (tys' := []) [] rfl
  have hrv := bv_Orecv hE_63 hS
  refine va_calli (va_runV (As := []) (rest := [.int 2]) ⟨hx, hb, hml, hown, hts⟩ (c_J0_length_8abf5_6 l dC dI H.size ts10 tv10) (cwV 0 hts gf_c_X12_readItems_c_J0_length_8abf5_6 rfl rfl rfl mdV_J0_length_8abf5 ⟨Nat.le_of_ble_eq_true rfl, Nat.le_of_ble_eq_true rfl⟩) ⟨fun a U g mk q => by obtain ⟨q0, q1, qP, qK, qD, qE0, qE1, qE2, qE3, qE4⟩ := q; exact ⟨q0, q1, qP, va_K.moved (u := U) (U := U.calling g mk a) (Vm.Alike.refl U.vm) qK, qD, va_OF.moved (u := U) (U := U.calling g mk a) (Vm.Alike.refl U.vm) qE0, va_T.moved (u := U) (U := U.calling g mk a) (Vm.Alike.refl U.vm) qE1, va_Z.moved (u := U) (U := U.calling g mk a) (Vm.Alike.refl U.vm) qE2, va_OF.moved (u := U) (U := U.calling g mk a) (Vm.Alike.refl U.vm) qE3, va_O.moved (u := U) (U := U.calling g mk a) (Vm.Alike.refl U.vm) qE4⟩, hrv, fun U hU hW => ⟨rfl, by rw [hU], by rw [hU]; exact hPc, va_K.moved hW.alike hKc, hDc.weaken (fun _ _ _ _ => trivial), va_OF.moved hW.alike (by rw [hU]; exact (hE_65.kept hS.2.1).narrow hFc), va_T.moved hW.alike (by rw [hU]; exact (hE_66.kept hS.2.1).narrow hFc), va_Z.moved hW.alike (by rw [hU]; exact (hE_10.kept hS.2.1).narrow hFc), va_OF.moved hW.alike (by rw [hU]; exact (hE_64.kept hS.2.1).narrow hFc), va_O.moved hW.alike (by rw [hU]; exact (hE_63.kept hS.2.1).narrow hFc)⟩⟩ rfl rfl hl.1 rfl (lv_room (Nat.le_of_ble_eq_true rfl)) dX12_readItems_7 ⟨Nat.le_of_ble_eq_true rfl, Nat.le_of_ble_eq_true rfl⟩) hS (fun q _ h => hFc q h) hFc (fun r_348 u t H1 locs ht hvm hw hB hz1 hk1 hS => ?_)
  obtain ⟨hP1, hK1, hD1⟩ := hB
  rw [ht] at hP1
  have hP := bv_still hP hk1
  generalize H1 = H at hP hS ⊢
  as_aux_lemma =>
  have h_349 := hw
  rw [h_349]
  refine lv_icmp_ge (tgt := 31) hx hb dX12_readItems_10 rfl (fun c_350 => absurd c_350 (by decide +kernel)) (fun c_350 => ?_)
  refine lv_aload_n hx hb dX12_readItems_13 rfl (lv_at hl 3 rfl) ?_
  refine lv_iload_n hx hb dX12_readItems_14 rfl (lv_at hl 4 rfl) ?_
  refine lv_iload hx hb dX12_readItems_15 (lv_at hl 0 rfl) ?_
  refine lv_iadd hx hb dX12_readItems_17 ?_
  refine lv_topi (fun x_351 ex_351 => ?_)
  have g_352 : RG x_351 2 10 := RG_add ex_351 g_p3 (RG_k 2 2 rfl) (by decide +kernel)
  refine lv_iload_n hx hb dX12_readItems_18 rfl (lv_at hl 2 rfl) ?_
  refine lv_iload hx hb dX12_readItems_19 (lv_at hl 0 rfl) ?_
  obtain ⟨hPc, hDc, hFc, hqc⟩ := cl_cut (wc := []) hP hD hS hA [] (by decide +kernel) rfl
  have hKc := hK.sub (tys' := []) [] rfl
  refine va_calli (va_runS (As := [.int p1, .int 2]) (rest := [.int x_351, .ref h2]) ⟨hx, hb, hml, hown, hts⟩ (c_X12_usual_6 l dC dI H.size p1 2 g_p1 (RG_w (RG_k 2 2 rfl) (by decide +kernel))) (va_cwS 2 hts gf_c_X12_readItems_c_X12_usual_6 rfl rfl rfl md_X12_usual ⟨Nat.le_of_ble_eq_true rfl, Nat.le_of_ble_eq_true rfl⟩) ⟨fun a U g mk q => by obtain ⟨q0, q1, qP, qK, qD⟩ := q; exact ⟨q0, q1, qP, va_K.moved (u := U) (U := U.calling g mk a) (Vm.Alike.refl U.vm) qK, qD⟩, fun U hU hW => ⟨rfl, by rw [hU], by rw [hU]; exact hPc, va_K.moved hW.alike hKc, hDc.weaken (fun _ _ _ _ => trivial)⟩⟩ rfl rfl hl.1 rfl (lv_room (Nat.le_of_ble_eq_true rfl)) dX12_readItems_21 ⟨Nat.le_of_ble_eq_true rfl, Nat.le_of_ble_eq_true rfl⟩) hS (fun q _ h => hFc q h) hFc (fun r_353 u t H1 locs ht hvm hw hB hz1 hk1 hS => ?_)
  as_aux_lemma =>
  obtain ⟨hP1, hK1, hD1⟩ := hB
  rw [ht] at hP1
  have hP := bv_still hP hk1
  generalize H1 = H at hP hS ⊢
  as_aux_lemma =>
  rcases hw with ⟨h_354, h_355⟩ | ⟨h_356, h_357⟩
  · rw [h_354]
    exact RG_dead (RG_eq1 (RG_k 2 2 rfl) h_355 rfl (a' := 2) (b' := 1) (by decide +kernel)) (by decide +kernel)
  · rw [h_356]
    refine va_iast hx hb hK hP hD hS 1 0 rfl rfl (RG_in g_352 (by decide +kernel)) dX12_readItems_24 (fun H locs hP hD hS => ?_)
    have hP : va_P (dC, dI) vwCl (wd_c_X12_readItems h0 h0_f0 h0_1 h0_2 h0_3 h0_4 h0_5 h0_f6 h0_f7 h0_f8 h0_f9 h0_f10 (-1) h0_f12 h0_f13 h0_f14 h0_15 h0_16 h0_f17 h0_18 h0_19 h0_20 h0_21 h0_22 h0_23 h0_24 h0_25 h0_f26 h0_f27 h0_f28 h0_f29 h0_f30 h0_f31 h0_32 h0_33 h0_f34 h0_35 h0_36 h0_37 h0_38 h0_39 h0_40 h0_f41 h0_f42 h0_f43 h0_f44 h0_45 h0_46 h0_47 h0_48 h0_49 h0_50 h0_f51 h0_52 h0_f53 h2 h2k (upd w_344 (x_351 : Int32).toNatClampNeg 2) h0_5 h0_5k tN h0_5c) H := hP
    have hD : va_D A (wd_c_X12_readItems h0 h0_f0 h0_1 h0_2 h0_3 h0_4 h0_5 h0_f6 h0_f7 h0_f8 h0_f9 h0_f10 (-1) h0_f12 h0_f13 h0_f14 h0_15 h0_16 h0_f17 h0_18 h0_19 h0_20 h0_21 h0_22 h0_23 h0_24 h0_25 h0_f26 h0_f27 h0_f28 h0_f29 h0_f30 h0_f31 h0_32 h0_33 h0_f34 h0_35 h0_36 h0_37 h0_38 h0_39 h0_40 h0_f41 h0_f42 h0_f43 h0_f44 h0_45 h0_46 h0_47 h0_48 h0_49 h0_50 h0_f51 h0_52 h0_f53 h2 h2k (upd w_344 (x_351 : Int32).toNatClampNeg 2) h0_5 h0_5k tN h0_5c) := hD
    have l_359 : (upd w_344 (x_351 : Int32).toNatClampNeg 2) (x_351 : Int32).toNatClampNeg = 2 := pk_us
    have i_360 : BOi (p3.toInt + 4) (upd w_344 (x_351 : Int32).toNatClampNeg 2) := BOi_st i_346 (by have := eq_add ex_351 g_p3 (q := 2) rfl (by decide +kernel); omega) (RG_w (RG_k 2 2 rfl) (by decide +kernel)) hrow (by have := (g_p3).1; omega)
    have a_361 : AI (upd w_344 (x_351 : Int32).toNatClampNeg 2) 0 99 := AI_up a_347 (RG_k 2 2 rfl) (by decide +kernel)
    generalize (upd w_344 (x_351 : Int32).toNatClampNeg 2) = w_358 at hP hD a_361 l_359 i_360
    have hP : va_P (dC, dI) vwCl (wd_c_X12_readItems h0 h0_f0 h0_1 h0_2 h0_3 h0_4 h0_5 h0_f6 h0_f7 h0_f8 h0_f9 h0_f10 (-1) h0_f12 h0_f13 h0_f14 h0_15 h0_16 h0_f17 h0_18 h0_19 h0_20 h0_21 h0_22 h0_23 h0_24 h0_25 h0_f26 h0_f27 h0_f28 h0_f29 h0_f30 h0_f31 h0_32 h0_33 h0_f34 h0_35 h0_36 h0_37 h0_38 h0_39 h0_40 h0_f41 h0_f42 h0_f43 h0_f44 h0_45 h0_46 h0_47 h0_48 h0_49 h0_50 h0_f51 h0_52 h0_f53 h2 h2k w_358 h0_5 h0_5k tN h0_5c) H := hP
    have hD : va_D A (wd_c_X12_readItems h0 h0_f0 h0_1 h0_2 h0_3 h0_4 h0_5 h0_f6 h0_f7 h0_f8 h0_f9 h0_f10 (-1) h0_f12 h0_f13 h0_f14 h0_15 h0_16 h0_f17 h0_18 h0_19 h0_20 h0_21 h0_22 h0_23 h0_24 h0_25 h0_f26 h0_f27 h0_f28 h0_f29 h0_f30 h0_f31 h0_32 h0_33 h0_f34 h0_35 h0_36 h0_37 h0_38 h0_39 h0_40 h0_f41 h0_f42 h0_f43 h0_f44 h0_45 h0_46 h0_47 h0_48 h0_49 h0_50 h0_f51 h0_52 h0_f53 h2 h2k w_358 h0_5 h0_5k tN h0_5c) := hD
    refine lv_iinc (v := 3) (lv' := [(5, .int 3), (0, .ref h0), (1, .int p1), (2, .ref h2), (3, .int p3), (4, .ref ts10)]) hx hb dX12_readItems_25 hl (k := 0) rfl (by decide +kernel) (Nat.le_of_ble_eq_true rfl) rfl (fun ls hl => ?_)
    as_aux_lemma =>
    refine lv_goto (tgt := 3) hx hb dX12_readItems_28 rfl ?_
    refine lv_iload hx hb dX12_readItems_3 (lv_at hl 0 rfl) ?_
    refine lv_aload hx hb dX12_readItems_5 (lv_at hl 5 rfl) ?_
    obtain ⟨hPc, hDc, hFc, hqc⟩ := cl_cut (wc := []) hP hD hS hA [] (by decide +kernel) rfl
    have hKc := hK.sub (tys' := []) [] rfl
    have hrv := bv_Orecv hE_63 hS
    refine va_calli (va_runV (As := []) (rest := [.int 3]) ⟨hx, hb, hml, hown, hts⟩ (c_J0_length_8abf5_6 l dC dI H.size ts10 tv10) (cwV 0 hts gf_c_X12_readItems_c_J0_length_8abf5_6 rfl rfl rfl mdV_J0_length_8abf5 ⟨Nat.le_of_ble_eq_true rfl, Nat.le_of_ble_eq_true rfl⟩) ⟨fun a U g mk q => by obtain ⟨q0, q1, qP, qK, qD, qE0, qE1, qE2, qE3, qE4⟩ := q; exact ⟨q0, q1, qP, va_K.moved (u := U) (U := U.calling g mk a) (Vm.Alike.refl U.vm) qK, qD, va_OF.moved (u := U) (U := U.calling g mk a) (Vm.Alike.refl U.vm) qE0, va_T.moved (u := U) (U := U.calling g mk a) (Vm.Alike.refl U.vm) qE1, va_Z.moved (u := U) (U := U.calling g mk a) (Vm.Alike.refl U.vm) qE2, va_OF.moved (u := U) (U := U.calling g mk a) (Vm.Alike.refl U.vm) qE3, va_O.moved (u := U) (U := U.calling g mk a) (Vm.Alike.refl U.vm) qE4⟩, hrv, fun U hU hW => ⟨rfl, by rw [hU], by rw [hU]; exact hPc, va_K.moved hW.alike hKc, hDc.weaken (fun _ _ _ _ => trivial), va_OF.moved hW.alike (by rw [hU]; exact (hE_65.kept hS.2.1).narrow hFc), va_T.moved hW.alike (by rw [hU]; exact (hE_66.kept hS.2.1).narrow hFc), va_Z.moved hW.alike (by rw [hU]; exact (hE_10.kept hS.2.1).narrow hFc), va_OF.moved hW.alike (by rw [hU]; exact (hE_64.kept hS.2.1).narrow hFc), va_O.moved hW.alike (by rw [hU]; exact (hE_63.kept hS.2.1).narrow hFc)⟩⟩ rfl rfl hl.1 rfl (lv_room (Nat.le_of_ble_eq_true rfl)) dX12_readItems_7 ⟨Nat.le_of_ble_eq_true rfl, Nat.le_of_ble_eq_true rfl⟩) hS (fun q _ h => hFc q h) hFc (fun r_362 u t H1 locs ht hvm hw hB hz1 hk1 hS => ?_)
    obtain ⟨hP1, hK1, hD1⟩ := hB
    rw [ht] at hP1
    have hP := bv_still hP hk1
    generalize H1 = H at hP hS ⊢
    as_aux_lemma =>
    have h_363 := hw
    rw [h_363]
    refine lv_icmp_ge (tgt := 31) hx hb dX12_readItems_10 rfl (fun c_364 => absurd c_364 (by decide +kernel)) (fun c_364 => ?_)
    refine lv_aload_n hx hb dX12_readItems_13 rfl (lv_at hl 3 rfl) ?_
    refine lv_iload_n hx hb dX12_readItems_14 rfl (lv_at hl 4 rfl) ?_
    refine lv_iload hx hb dX12_readItems_15 (lv_at hl 0 rfl) ?_
    refine lv_iadd hx hb dX12_readItems_17 ?_
    refine lv_topi (fun x_365 ex_365 => ?_)
    have g_366 : RG x_365 3 11 := RG_add ex_365 g_p3 (RG_k 3 3 rfl) (by decide +kernel)
    refine lv_iload_n hx hb dX12_readItems_18 rfl (lv_at hl 2 rfl) ?_
    refine lv_iload hx hb dX12_readItems_19 (lv_at hl 0 rfl) ?_
    obtain ⟨hPc, hDc, hFc, hqc⟩ := cl_cut (wc := []) hP hD hS hA [] (by decide +kernel) rfl
    have hKc := hK.sub (tys' := []) [] rfl
    refine va_calli (va_runS (As := [.int p1, .int 3]) (rest := [.int x_365, .ref h2]) ⟨hx, hb, hml, hown, hts⟩ (c_X12_usual_7 l dC dI H.size p1 3 g_p1 (RG_w (RG_k 3 3 rfl) (by decide +kernel))) (va_cwS 2 hts gf_c_X12_readItems_c_X12_usual_7 rfl rfl rfl md_X12_usual ⟨Nat.le_of_ble_eq_true rfl, Nat.le_of_ble_eq_true rfl⟩) ⟨fun a U g mk q => by obtain ⟨q0, q1, qP, qK, qD⟩ := q; exact ⟨q0, q1, qP, va_K.moved (u := U) (U := U.calling g mk a) (Vm.Alike.refl U.vm) qK, qD⟩, fun U hU hW => ⟨rfl, by rw [hU], by rw [hU]; exact hPc, va_K.moved hW.alike hKc, hDc.weaken (fun _ _ _ _ => trivial)⟩⟩ rfl rfl hl.1 rfl (lv_room (Nat.le_of_ble_eq_true rfl)) dX12_readItems_21 ⟨Nat.le_of_ble_eq_true rfl, Nat.le_of_ble_eq_true rfl⟩) hS (fun q _ h => hFc q h) hFc (fun r_367 u t H1 locs ht hvm hw hB hz1 hk1 hS => ?_)
    as_aux_lemma =>
    obtain ⟨hP1, hK1, hD1⟩ := hB
    rw [ht] at hP1
    have hP := bv_still hP hk1
    generalize H1 = H at hP hS ⊢
    as_aux_lemma =>
    rcases hw with ⟨h_368, h_369⟩ | ⟨h_370, h_371⟩ | ⟨h_372, h_373⟩
    · rw [h_368]
      exact RG_dead (RG_eq1 (RG_k 3 3 rfl) h_369 rfl (a' := 3) (b' := 2) (by decide +kernel)) (by decide +kernel)
    · rw [h_370]
      refine va_iast hx hb hK hP hD hS 1 0 rfl rfl (RG_in g_366 (by decide +kernel)) dX12_readItems_24 (fun H locs hP hD hS => ?_)
      have hP : va_P (dC, dI) vwCl (wd_c_X12_readItems h0 h0_f0 h0_1 h0_2 h0_3 h0_4 h0_5 h0_f6 h0_f7 h0_f8 h0_f9 h0_f10 (-1) h0_f12 h0_f13 h0_f14 h0_15 h0_16 h0_f17 h0_18 h0_19 h0_20 h0_21 h0_22 h0_23 h0_24 h0_25 h0_f26 h0_f27 h0_f28 h0_f29 h0_f30 h0_f31 h0_32 h0_33 h0_f34 h0_35 h0_36 h0_37 h0_38 h0_39 h0_40 h0_f41 h0_f42 h0_f43 h0_f44 h0_45 h0_46 h0_47 h0_48 h0_49 h0_50 h0_f51 h0_52 h0_f53 h2 h2k (upd w_358 (x_365 : Int32).toNatClampNeg 3) h0_5 h0_5k tN h0_5c) H := hP
      have hD : va_D A (wd_c_X12_readItems h0 h0_f0 h0_1 h0_2 h0_3 h0_4 h0_5 h0_f6 h0_f7 h0_f8 h0_f9 h0_f10 (-1) h0_f12 h0_f13 h0_f14 h0_15 h0_16 h0_f17 h0_18 h0_19 h0_20 h0_21 h0_22 h0_23 h0_24 h0_25 h0_f26 h0_f27 h0_f28 h0_f29 h0_f30 h0_f31 h0_32 h0_33 h0_f34 h0_35 h0_36 h0_37 h0_38 h0_39 h0_40 h0_f41 h0_f42 h0_f43 h0_f44 h0_45 h0_46 h0_47 h0_48 h0_49 h0_50 h0_f51 h0_52 h0_f53 h2 h2k (upd w_358 (x_365 : Int32).toNatClampNeg 3) h0_5 h0_5k tN h0_5c) := hD
      have l_375 : (upd w_358 (x_365 : Int32).toNatClampNeg 3) (x_365 : Int32).toNatClampNeg = 3 := pk_us
      have i_376 : BOi (p3.toInt + 4) (upd w_358 (x_365 : Int32).toNatClampNeg 3) := BOi_keep i_360 g_366 (by decide +kernel) (Or.inl (RG_w (RG_k 3 3 rfl) (by decide +kernel)))
      have a_377 : AI (upd w_358 (x_365 : Int32).toNatClampNeg 3) 0 99 := AI_up a_361 (RG_k 3 3 rfl) (by decide +kernel)
      generalize (upd w_358 (x_365 : Int32).toNatClampNeg 3) = w_374 at hP hD a_377 l_375 i_376
      have hP : va_P (dC, dI) vwCl (wd_c_X12_readItems h0 h0_f0 h0_1 h0_2 h0_3 h0_4 h0_5 h0_f6 h0_f7 h0_f8 h0_f9 h0_f10 (-1) h0_f12 h0_f13 h0_f14 h0_15 h0_16 h0_f17 h0_18 h0_19 h0_20 h0_21 h0_22 h0_23 h0_24 h0_25 h0_f26 h0_f27 h0_f28 h0_f29 h0_f30 h0_f31 h0_32 h0_33 h0_f34 h0_35 h0_36 h0_37 h0_38 h0_39 h0_40 h0_f41 h0_f42 h0_f43 h0_f44 h0_45 h0_46 h0_47 h0_48 h0_49 h0_50 h0_f51 h0_52 h0_f53 h2 h2k w_374 h0_5 h0_5k tN h0_5c) H := hP
      have hD : va_D A (wd_c_X12_readItems h0 h0_f0 h0_1 h0_2 h0_3 h0_4 h0_5 h0_f6 h0_f7 h0_f8 h0_f9 h0_f10 (-1) h0_f12 h0_f13 h0_f14 h0_15 h0_16 h0_f17 h0_18 h0_19 h0_20 h0_21 h0_22 h0_23 h0_24 h0_25 h0_f26 h0_f27 h0_f28 h0_f29 h0_f30 h0_f31 h0_32 h0_33 h0_f34 h0_35 h0_36 h0_37 h0_38 h0_39 h0_40 h0_f41 h0_f42 h0_f43 h0_f44 h0_45 h0_46 h0_47 h0_48 h0_49 h0_50 h0_f51 h0_52 h0_f53 h2 h2k w_374 h0_5 h0_5k tN h0_5c) := hD
      refine lv_iinc (v := 4) (lv' := [(5, .int 4), (0, .ref h0), (1, .int p1), (2, .ref h2), (3, .int p3), (4, .ref ts10)]) hx hb dX12_readItems_25 hl (k := 0) rfl (by decide +kernel) (Nat.le_of_ble_eq_true rfl) rfl (fun ls hl => ?_)
      as_aux_lemma =>
      refine lv_goto (tgt := 3) hx hb dX12_readItems_28 rfl ?_
      refine lv_iload hx hb dX12_readItems_3 (lv_at hl 0 rfl) ?_
      refine lv_aload hx hb dX12_readItems_5 (lv_at hl 5 rfl) ?_
      obtain ⟨hPc, hDc, hFc, hqc⟩ := cl_cut (wc := []) hP hD hS hA [] (by decide +kernel) rfl
      have hKc := hK.sub (tys' := []) [] rfl
      have hrv := bv_Orecv hE_63 hS
      refine va_calli (va_runV (As := []) (rest := [.int 4]) ⟨hx, hb, hml, hown, hts⟩ (c_J0_length_8abf5_6 l dC dI H.size ts10 tv10) (cwV 0 hts gf_c_X12_readItems_c_J0_length_8abf5_6 rfl rfl rfl mdV_J0_length_8abf5 ⟨Nat.le_of_ble_eq_true rfl, Nat.le_of_ble_eq_true rfl⟩) ⟨fun a U g mk q => by obtain ⟨q0, q1, qP, qK, qD, qE0, qE1, qE2, qE3, qE4⟩ := q; exact ⟨q0, q1, qP, va_K.moved (u := U) (U := U.calling g mk a) (Vm.Alike.refl U.vm) qK, qD, va_OF.moved (u := U) (U := U.calling g mk a) (Vm.Alike.refl U.vm) qE0, va_T.moved (u := U) (U := U.calling g mk a) (Vm.Alike.refl U.vm) qE1, va_Z.moved (u := U) (U := U.calling g mk a) (Vm.Alike.refl U.vm) qE2, va_OF.moved (u := U) (U := U.calling g mk a) (Vm.Alike.refl U.vm) qE3, va_O.moved (u := U) (U := U.calling g mk a) (Vm.Alike.refl U.vm) qE4⟩, hrv, fun U hU hW => ⟨rfl, by rw [hU], by rw [hU]; exact hPc, va_K.moved hW.alike hKc, hDc.weaken (fun _ _ _ _ => trivial), va_OF.moved hW.alike (by rw [hU]; exact (hE_65.kept hS.2.1).narrow hFc), va_T.moved hW.alike (by rw [hU]; exact (hE_66.kept hS.2.1).narrow hFc), va_Z.moved hW.alike (by rw [hU]; exact (hE_10.kept hS.2.1).narrow hFc), va_OF.moved hW.alike (by rw [hU]; exact (hE_64.kept hS.2.1).narrow hFc), va_O.moved hW.alike (by rw [hU]; exact (hE_63.kept hS.2.1).narrow hFc)⟩⟩ rfl rfl hl.1 rfl (lv_room (Nat.le_of_ble_eq_true rfl)) dX12_readItems_7 ⟨Nat.le_of_ble_eq_true rfl, Nat.le_of_ble_eq_true rfl⟩) hS (fun q _ h => hFc q h) hFc (fun r_378 u t H1 locs ht hvm hw hB hz1 hk1 hS => ?_)
      obtain ⟨hP1, hK1, hD1⟩ := hB
      rw [ht] at hP1
      have hP := bv_still hP hk1
      generalize H1 = H at hP hS ⊢
      as_aux_lemma =>
      have h_379 := hw
      rw [h_379]
      refine lv_icmp_ge (tgt := 31) hx hb dX12_readItems_10 rfl (fun c_380 => ?_) (fun c_380 => absurd c_380 (by decide +kernel))
      refine lv_iconst (v := 0) hx hb dX12_readItems_31 kc_iconst_0 ?_
      refine lv_istore (lv' := [(5, .int 0), (0, .ref h0), (1, .int p1), (2, .ref h2), (3, .int p3), (4, .ref ts10)]) hx hb dX12_readItems_32 hl (Nat.le_of_ble_eq_true rfl) rfl (fun ls hl => ?_)
      refine lv_aload hx hb dX12_readItems_34 (lv_at hl 5 rfl) ?_
      refine lv_aload_n hx hb dX12_readItems_36 rfl (lv_at hl 1 rfl) ?_
      obtain ⟨hPc, hDc, hFc, hqc⟩ := cl_cut (wc := (wd_c_X12_look h0 h0_f0 h0_1 h0_2 h0_3 h0_4 h0_5 h0_f6 h0_f7 h0_f8 h0_f9 h0_f10 (-1) h0_f12 h0_f13 h0_f14 h0_15 h0_16 h0_f17 h0_18 h0_19 h0_20 h0_21 h0_22 h0_23 h0_24 h0_25 h0_f26 h0_f27 h0_f28 h0_f29 h0_f30 h0_f31 h0_32 h0_33 h0_f34 h0_35 h0_36 h0_37 h0_38 h0_39 h0_40 h0_f41 h0_f42 h0_f43 h0_f44 h0_45 h0_46 h0_47 h0_48 h0_49 h0_50 h0_f51 h0_52 h0_f53 h0_5 h0_5k tN h0_5c)) hP hD hS hA [0, 2] (by decide +kernel) rfl
      have hKc := hK.sub (tys' := [(h0_5k, .byte)]) [1] rfl
      have hrv := va_recv hKc hPc (ci := 12) (q0 := 0) rfl rfl
      refine va_calli (va_runV (As := []) (rest := [.ref ts10]) ⟨hx, hb, hml, hown, hts⟩ (c_X12_look l dC dI H.size h0 h0_f0 h0_1 h0_2 h0_3 h0_4 h0_5 h0_f6 h0_f7 h0_f8 h0_f9 h0_f10 h0_f12 h0_f13 h0_f14 h0_15 h0_16 h0_f17 h0_18 h0_19 h0_20 h0_21 h0_22 h0_23 h0_24 h0_25 h0_f26 h0_f27 h0_f28 h0_f29 h0_f30 h0_f31 h0_32 h0_33 h0_f34 h0_35 h0_36 h0_37 h0_38 h0_39 h0_40 h0_f41 h0_f42 h0_f43 h0_f44 h0_45 h0_46 h0_47 h0_48 h0_49 h0_50 h0_f51 h0_52 h0_f53 h0_5k h0_5c tN g_h0_f6 g_h0_f7 g_h0_f8 g_h0_f9 g_h0_f10 g_h0_f17 g_h0_f26 g_h0_f27 g_h0_f28 g_h0_f29 g_h0_f30 g_h0_f31 g_h0_f34 g_h0_f41 g_h0_f51 g_h0_f53 htN) (cwV 0 hts gf_c_X12_readItems_c_X12_look rfl rfl rfl mdV_X12_look ⟨Nat.le_of_ble_eq_true rfl, Nat.le_of_ble_eq_true rfl⟩) ⟨fun a U g mk q => by obtain ⟨q0, q1, qP, qK, qD⟩ := q; exact ⟨q0, q1, qP, va_K.moved (u := U) (U := U.calling g mk a) (Vm.Alike.refl U.vm) qK, qD⟩, hrv, fun U hU hW => ⟨rfl, by rw [hU], by rw [hU]; exact hPc, va_K.moved hW.alike hKc, hDc.weaken (fun _ _ _ _ => trivial)⟩⟩ rfl rfl hl.1 rfl (lv_room (Nat.le_of_ble_eq_true rfl)) dX12_readItems_37 ⟨Nat.le_of_ble_eq_true rfl, Nat.le_of_ble_eq_true rfl⟩) hS (fun q _ h => hFc q h) hFc (fun r_381 x_382 t H1 locs ht hvm hw hB hz1 hk1 hS => ?_)
      obtain ⟨hP1, hK1, hD1⟩ := hB
      rw [ht] at hP1
      obtain ⟨hP, hD⟩ := cl_put (w1 := (wd_c_X12_look h0 h0_f0 h0_1 h0_2 h0_3 h0_4 h0_5 h0_f6 h0_f7 h0_f8 h0_f9 x_382 (-1) h0_f12 h0_f13 h0_f14 h0_15 h0_16 h0_f17 h0_18 h0_19 h0_20 h0_21 h0_22 h0_23 h0_24 h0_25 h0_f26 h0_f27 h0_f28 h0_f29 h0_f30 h0_f31 h0_32 h0_33 h0_f34 h0_35 h0_36 h0_37 h0_38 h0_39 h0_40 h0_f41 h0_f42 h0_f43 h0_f44 h0_45 h0_46 h0_47 h0_48 h0_49 h0_50 h0_f51 h0_52 h0_f53 h0_5 h0_5k tN h0_5c)) (nw := (wd_c_X12_readItems h0 h0_f0 h0_1 h0_2 h0_3 h0_4 h0_5 h0_f6 h0_f7 h0_f8 h0_f9 x_382 (-1) h0_f12 h0_f13 h0_f14 h0_15 h0_16 h0_f17 h0_18 h0_19 h0_20 h0_21 h0_22 h0_23 h0_24 h0_25 h0_f26 h0_f27 h0_f28 h0_f29 h0_f30 h0_f31 h0_32 h0_33 h0_f34 h0_35 h0_36 h0_37 h0_38 h0_39 h0_40 h0_f41 h0_f42 h0_f43 h0_f44 h0_45 h0_46 h0_47 h0_48 h0_49 h0_50 h0_f51 h0_52 h0_f53 h2 h2k w_374 h0_5 h0_5k tN h0_5c)) hP hD [0, 2] [3, 1, 4] 3 rfl hqc (by decide +kernel) rfl hk1 hFc hP1 hD1
      generalize H1 = H at hP hS ⊢
      as_aux_lemma =>
      rcases hw with ⟨h_383, h_384, h_385, h_386, h_387⟩ | ⟨h_388, h_389, h_390, h_391, h_392, h_393⟩
      · rw [h_383]
        obtain ⟨hPc, hDc, hFc, hqc⟩ := cl_cut (wc := []) hP hD hS hA [] (by decide +kernel) rfl
        have hKc := hK.sub (tys' := []) [] rfl
        refine va_calli (va_runS (As := [.ref ts10, .int (-1)]) (rest := []) ⟨hx, hb, hml, hown, hts⟩ (c_X12_spotOf l dC dI H.size ts10 tv10) (va_cwS 2 hts gf_c_X12_readItems_c_X12_spotOf rfl rfl rfl md_X12_spotOf ⟨Nat.le_of_ble_eq_true rfl, Nat.le_of_ble_eq_true rfl⟩) ⟨fun a U g mk q => by obtain ⟨q0, q1, qP, qK, qD, qE0, qE1, qE2, qE3, qE4, qE5⟩ := q; exact ⟨q0, q1, qP, va_K.moved (u := U) (U := U.calling g mk a) (Vm.Alike.refl U.vm) qK, qD, va_OF.moved (u := U) (U := U.calling g mk a) (Vm.Alike.refl U.vm) qE0, va_T.moved (u := U) (U := U.calling g mk a) (Vm.Alike.refl U.vm) qE1, va_Z.moved (u := U) (U := U.calling g mk a) (Vm.Alike.refl U.vm) qE2, va_OF.moved (u := U) (U := U.calling g mk a) (Vm.Alike.refl U.vm) qE3, va_O.moved (u := U) (U := U.calling g mk a) (Vm.Alike.refl U.vm) qE4, va_Zq.moved (u := U) (U := U.calling g mk a) (Vm.Alike.refl U.vm) qE5⟩, fun U hU hW => ⟨rfl, by rw [hU], by rw [hU]; exact hPc, va_K.moved hW.alike hKc, hDc.weaken (fun _ _ _ _ => trivial), va_OF.moved hW.alike (by rw [hU]; exact (hE_65.kept hS.2.1).narrow hFc), va_T.moved hW.alike (by rw [hU]; exact (hE_66.kept hS.2.1).narrow hFc), va_Z.moved hW.alike (by rw [hU]; exact (hE_10.kept hS.2.1).narrow hFc), va_OF.moved hW.alike (by rw [hU]; exact (hE_64.kept hS.2.1).narrow hFc), va_O.moved hW.alike (by rw [hU]; exact (hE_63.kept hS.2.1).narrow hFc), va_Zq.moved hW.alike (by rw [hU]; exact (hE_11.kept hS.2.1).narrow hFc)⟩⟩ rfl rfl hl.1 rfl (lv_room (Nat.le_of_ble_eq_true rfl)) dX12_readItems_40 ⟨Nat.le_of_ble_eq_true rfl, Nat.le_of_ble_eq_true rfl⟩) hS (fun q _ h => hFc q h) hFc (fun r_394 u t H1 locs ht hvm hw hB hz1 hk1 hS => ?_)
        obtain ⟨hP1, hK1, hD1⟩ := hB
        rw [ht] at hP1
        have hP := bv_still hP hk1
        generalize H1 = H at hP hS ⊢
        as_aux_lemma =>
        have h_395 := hw
        rw [h_395]
        refine lv_istore (lv' := [(6, .int (-1)), (5, .int 0), (0, .ref h0), (1, .int p1), (2, .ref h2), (3, .int p3), (4, .ref ts10)]) hx hb dX12_readItems_43 hl (Nat.le_of_ble_eq_true rfl) rfl (fun ls hl => ?_)
        exact hU _ _ _ (J45 0 x_382 w_374 g_h0_f10 g_h0_f17 g_h0_f26 g_h0_f27 g_h0_f28 g_h0_f29 g_h0_f30 g_h0_f31 g_h0_f34 g_h0_f41 g_h0_f51 g_h0_f53 g_h0_f6 g_h0_f7 g_h0_f8 g_h0_f9 h_384 g_p1 g_p3 a_377 i_376 (by have := h_385; omega) _ _ _ hP hD hS (lv_sub hl [0, 1, 2, 3, 4, 5, 6] rfl))
      · have nb_396 := h_393.2.resolve_left (fun q => by have g9 := h_388; rw [q] at g9; exact absurd g9.1 (by decide +kernel))
        obtain ⟨hPc, hDc, hFc, hqc⟩ := cl_cut (wc := []) hP hD hS hA [] (by decide +kernel) rfl
        have hKc := hK.sub (tys' := []) [] rfl
        refine va_calli (va_runS (As := [.ref ts10, .int r_381]) (rest := []) ⟨hx, hb, hml, hown, hts⟩ (c_X12_spotOf_1 l dC dI H.size ts10 r_381 tv10 h_388) (va_cwS 2 hts gf_c_X12_readItems_c_X12_spotOf_1 rfl rfl rfl md_X12_spotOf ⟨Nat.le_of_ble_eq_true rfl, Nat.le_of_ble_eq_true rfl⟩) ⟨fun a U g mk q => by obtain ⟨q0, q1, qP, qK, qD, qE0, qE1, qE2, qE3, qE4, qE5⟩ := q; exact ⟨q0, q1, qP, va_K.moved (u := U) (U := U.calling g mk a) (Vm.Alike.refl U.vm) qK, qD, va_OF.moved (u := U) (U := U.calling g mk a) (Vm.Alike.refl U.vm) qE0, va_T.moved (u := U) (U := U.calling g mk a) (Vm.Alike.refl U.vm) qE1, va_Z.moved (u := U) (U := U.calling g mk a) (Vm.Alike.refl U.vm) qE2, va_OF.moved (u := U) (U := U.calling g mk a) (Vm.Alike.refl U.vm) qE3, va_O.moved (u := U) (U := U.calling g mk a) (Vm.Alike.refl U.vm) qE4, va_Zq.moved (u := U) (U := U.calling g mk a) (Vm.Alike.refl U.vm) qE5⟩, fun U hU hW => ⟨rfl, by rw [hU], by rw [hU]; exact hPc, va_K.moved hW.alike hKc, hDc.weaken (fun _ _ _ _ => trivial), va_OF.moved hW.alike (by rw [hU]; exact (hE_65.kept hS.2.1).narrow hFc), va_T.moved hW.alike (by rw [hU]; exact (hE_66.kept hS.2.1).narrow hFc), va_Z.moved hW.alike (by rw [hU]; exact (hE_10.kept hS.2.1).narrow hFc), va_OF.moved hW.alike (by rw [hU]; exact (hE_64.kept hS.2.1).narrow hFc), va_O.moved hW.alike (by rw [hU]; exact (hE_63.kept hS.2.1).narrow hFc), va_Zq.moved hW.alike (by rw [hU]; exact (hE_11.kept hS.2.1).narrow hFc)⟩⟩ rfl rfl hl.1 rfl (lv_room (Nat.le_of_ble_eq_true rfl)) dX12_readItems_40 ⟨Nat.le_of_ble_eq_true rfl, Nat.le_of_ble_eq_true rfl⟩) hS (fun q _ h => hFc q h) hFc (fun r_397 u t H1 locs ht hvm hw hB hz1 hk1 hS => ?_)
        obtain ⟨hP1, hK1, hD1⟩ := hB
        rw [ht] at hP1
        have hP := bv_still hP hk1
        generalize H1 = H at hP hS ⊢
        as_aux_lemma =>
        rcases hw with h_398 | ⟨h_399, h_400⟩ | ⟨h_401, h_402⟩ | ⟨h_403, h_404⟩ | ⟨h_405, h_406⟩
        · rw [h_398]
          refine lv_istore (lv' := [(6, .int (-1)), (5, .int 0), (0, .ref h0), (1, .int p1), (2, .ref h2), (3, .int p3), (4, .ref ts10)]) hx hb dX12_readItems_43 hl (Nat.le_of_ble_eq_true rfl) rfl (fun ls hl => ?_)
          exact hU _ _ _ (J45 0 x_382 w_374 g_h0_f10 g_h0_f17 g_h0_f26 g_h0_f27 g_h0_f28 g_h0_f29 g_h0_f30 g_h0_f31 g_h0_f34 g_h0_f41 g_h0_f51 g_h0_f53 g_h0_f6 g_h0_f7 g_h0_f8 (RG_w h_390 (by decide +kernel)) (RG_w h_389 (by decide +kernel)) g_p1 g_p3 a_377 i_376 (by have := h_391; omega) _ _ _ hP hD hS (lv_sub hl [0, 1, 2, 3, 4, 5, 6] rfl))
        · rw [h_399]
          refine lv_istore (lv' := [(6, .int 3), (5, .int 0), (0, .ref h0), (1, .int p1), (2, .ref h2), (3, .int p3), (4, .ref ts10)]) hx hb dX12_readItems_43 hl (Nat.le_of_ble_eq_true rfl) rfl (fun ls hl => ?_)
          exact hU _ _ _ (J45b _ 3 0 x_382 w_374 (Nat.lt_succ_self _) g_h0_f10 g_h0_f17 g_h0_f26 g_h0_f27 g_h0_f28 g_h0_f29 g_h0_f30 g_h0_f31 g_h0_f34 g_h0_f41 g_h0_f51 g_h0_f53 g_h0_f6 g_h0_f7 g_h0_f8 h_390 h_389 (RG_w (RG_k 3 3 rfl) (by decide +kernel)) g_p1 g_p3 a_377 i_376 (by have := h_391; omega) _ _ _ hP hD hS (lv_sub hl [0, 1, 2, 3, 4, 5, 6] rfl))
        · rw [h_401]
          refine lv_istore (lv' := [(6, .int 2), (5, .int 0), (0, .ref h0), (1, .int p1), (2, .ref h2), (3, .int p3), (4, .ref ts10)]) hx hb dX12_readItems_43 hl (Nat.le_of_ble_eq_true rfl) rfl (fun ls hl => ?_)
          exact hU _ _ _ (J45b _ 2 0 x_382 w_374 (Nat.lt_succ_self _) g_h0_f10 g_h0_f17 g_h0_f26 g_h0_f27 g_h0_f28 g_h0_f29 g_h0_f30 g_h0_f31 g_h0_f34 g_h0_f41 g_h0_f51 g_h0_f53 g_h0_f6 g_h0_f7 g_h0_f8 h_390 h_389 (RG_w (RG_k 2 2 rfl) (by decide +kernel)) g_p1 g_p3 a_377 i_376 (by have := h_391; omega) _ _ _ hP hD hS (lv_sub hl [0, 1, 2, 3, 4, 5, 6] rfl))
        · rw [h_403]
          refine lv_istore (lv' := [(6, .int 1), (5, .int 0), (0, .ref h0), (1, .int p1), (2, .ref h2), (3, .int p3), (4, .ref ts10)]) hx hb dX12_readItems_43 hl (Nat.le_of_ble_eq_true rfl) rfl (fun ls hl => ?_)
          exact hU _ _ _ (J45b _ 1 0 x_382 w_374 (Nat.lt_succ_self _) g_h0_f10 g_h0_f17 g_h0_f26 g_h0_f27 g_h0_f28 g_h0_f29 g_h0_f30 g_h0_f31 g_h0_f34 g_h0_f41 g_h0_f51 g_h0_f53 g_h0_f6 g_h0_f7 g_h0_f8 h_390 h_389 (RG_w (RG_k 1 1 rfl) (by decide +kernel)) g_p1 g_p3 a_377 i_376 (by have := h_391; omega) _ _ _ hP hD hS (lv_sub hl [0, 1, 2, 3, 4, 5, 6] rfl))
        · rw [h_405]
          refine lv_istore (lv' := [(6, .int 0), (5, .int 0), (0, .ref h0), (1, .int p1), (2, .ref h2), (3, .int p3), (4, .ref ts10)]) hx hb dX12_readItems_43 hl (Nat.le_of_ble_eq_true rfl) rfl (fun ls hl => ?_)
          as_aux_lemma =>
          exact hU _ _ _ (J45b _ 0 0 x_382 w_374 (Nat.lt_succ_self _) g_h0_f10 g_h0_f17 g_h0_f26 g_h0_f27 g_h0_f28 g_h0_f29 g_h0_f30 g_h0_f31 g_h0_f34 g_h0_f41 g_h0_f51 g_h0_f53 g_h0_f6 g_h0_f7 g_h0_f8 h_390 h_389 (RG_w (RG_k 0 0 rfl) (by decide +kernel)) g_p1 g_p3 a_377 i_376 (by have := h_391; omega) _ _ _ hP hD hS (lv_sub hl [0, 1, 2, 3, 4, 5, 6] rfl))
    · rw [h_372]
      exact RG_dead (RG_eq1 (RG_k 3 3 rfl) h_373 rfl (a' := 3) (b' := 2) (by decide +kernel)) (by decide +kernel)
noncomputable def wf_c_J0_coder_7d493_7 : List Cond := .code yJ0_coder_7d493 cJ0_coder_7d493 1 (some .byte) :: ([.fieldLink RJ0 38 "java/lang/String" "COMPACT_STRINGS" "Z", .fieldLink RJ0 15 "java/lang/String" "coder" "B"])
set_option maxHeartbeats 4000000 in
set_option maxRecDepth 100000 in
theorem c_J0_coder_7d493_7 (l : Launch) (dC : Nat → ClassId) (dI : Nat → Nat → Nat) (sz : Nat) (ts9 : Nat) : Met l yJ0_coder_7d493 wf_c_J0_coder_7d493_7 ({ frames := 0, cells := 0, slots := 0, locals := 0 }) (va_Pc [.ref ts9] (fun U => U.heap.size = sz ∧ va_P (dC, dI) vwCl [] U.heap ∧ va_K (dC, dI) vwCl [] U ∧ va_D (fun _ => True) [] ∧ va_Z "java/lang/String" "COMPACT_STRINGS" "Z" (.int 1) (va_A [] sz) U U.heap ∧ va_OF "java/lang/String" "coder" "B" (.int 0) ts9 (va_A [] sz) U U.heap)) (va_Qi (fun (r : Int32) (u : Unit) => (r = 0)) (fun (u : Unit) t => va_P (dC, dI) vwCl [] t.heap ∧ va_K (dC, dI) vwCl [] t ∧ va_D (va_A [] sz) []) (va_A [] sz)) 0 0 (va_A [] sz) := by
  refine Met.ofW (cc := cJ0_coder_7d493) (maxL := 1) (ret := (some .byte)) (by decide +kernel) rfl ?_
  intro p e s m args below meth c s₁ B hml hv
  obtain ⟨rfl, hsz, hP, hK, hD0, hE_10, hE_59⟩ := hv
  have hx := B.exec
  have hb := B.bytes
  have hr := B.returns
  have hts := atoms_spec (ws := wf_c_J0_coder_7d493_7) B.pre
  have hown : s.vm.findClass RJ0 = some m.cls := findClass_of_methodNamed B.named
  have hlocks := B.notSynchronized
  subst hsz
  have hD := hD0.self (sz := s.heap.size)
  generalize hAe : va_A [] s.heap.size = A at hD hE_10 hE_59 ⊢
  have hA : ∀ q : Nat, s.heap.size ≤ q → A q := fun q h => by rw [← hAe]; exact Or.inr h
  have hP : va_P (dC, dI) vwCl [] s.heap := hP
  have hl := lv_entry ([.ref ts9]) (n := 1) (Nat.le_of_ble_eq_true rfl)
  rw [lg_entry_eq]
  generalize (lg_sl ([.ref ts9]) ++ List.replicate (1 - (lg_sl ([.ref ts9])).length) Slot.unset).toArray = ls at hl ⊢
  have hl : lv_has ls 1 [(0, .ref ts9)] := hl
  obtain ⟨H, hHe⟩ : ∃ H : Heap, s.heap = H := ⟨_, rfl⟩
  have hS : va_S A s.heap H [] := by rw [hHe]; exact va_S.rf
  have hP : va_P (dC, dI) vwCl [] H := by rw [← hHe]; exact hP
  rw [hHe]
  refine va_gets hx hb hE_10 hS hown (hts (.fieldLink RJ0 38 "java/lang/String" "COMPACT_STRINGS" "Z") (List.mem_of_getElem? (i := 1) rfl)) (fun _ h9 => h9) dJ0_coder_7d493_0 ?_
  as_aux_lemma =>
  refine lv_if_eq (tgt := 13) hx hb dJ0_coder_7d493_3 rfl (fun c_1 => absurd c_1 (by decide +kernel)) (fun c_1 => ?_)
  refine lv_aload_n hx hb dJ0_coder_7d493_6 rfl (lv_at hl 0 rfl) ?_
  refine vk_getf hx hb hE_59 hS hown (hts (.fieldLink RJ0 15 "java/lang/String" "coder" "B") (List.mem_of_getElem? (i := 2) rfl)) (fun _ h9 => h9) dJ0_coder_7d493_7 ?_
  refine lv_goto (tgt := 14) hx hb dJ0_coder_7d493_10 rfl ?_
  have hK9 := hK.sub (tys' := []) [] rfl
  exact W.zret (v := 0) hx hb hr rfl (fun t ht hW => ⟨⟨0, (), rfl, rfl, by rw [ht]; exact hP, va_K.moved hW.alike hK9, hD⟩, hS.F ht⟩) hS.2.2 dJ0_coder_7d493_14
noncomputable def wf_c_J0_length_8abf5_7 : List Cond := .code yJ0_length_8abf5 cJ0_length_8abf5 1 (some .int) :: ([.fieldLink RJ0 9 "java/lang/String" "value" "[B", .methodLink RJ0 335 yJ0_coder_7d493, .instanceMethod yJ0_coder_7d493, .selects RJ0 yJ0_coder_7d493 yJ0_coder_7d493, .initialized RJ0, .code yJ0_coder_7d493 cJ0_coder_7d493 1 (some .byte), .fieldLink RJ0 38 "java/lang/String" "COMPACT_STRINGS" "Z", .fieldLink RJ0 15 "java/lang/String" "coder" "B"])
set_option maxRecDepth 20000 in
theorem gf_c_J0_length_8abf5_7_c_J0_coder_7d493_7 : GoodIn wf_c_J0_length_8abf5_7 (wsV RJ0 335 RJ0 yJ0_coder_7d493 wf_c_J0_coder_7d493_7) := goodIn_app (gi_l [2, 3, 4, 5] rfl rfl) (gi_cons (j := 6) rfl rfl (gi_l [7, 8] rfl rfl))
set_option maxHeartbeats 4000000 in
set_option maxRecDepth 100000 in
theorem c_J0_length_8abf5_7 (l : Launch) (dC : Nat → ClassId) (dI : Nat → Nat → Nat) (sz : Nat) (ts9 : Nat) (tv9 : Nat) : Met l yJ0_length_8abf5 wf_c_J0_length_8abf5_7 ({ frames := 1, cells := 0, slots := 0, locals := 20 }) (va_Pc [.ref ts9] (fun U => U.heap.size = sz ∧ va_P (dC, dI) vwCl [] U.heap ∧ va_K (dC, dI) vwCl [] U ∧ va_D (fun _ => True) [] ∧ va_OF "java/lang/String" "value" "[B" (.ref tv9) ts9 (va_A [] sz) U U.heap ∧ va_T .byte tv9 8 (fun j => .int ([120, 121, 99, 97, 101, 102, 111, 114].getD j 0)) (va_A [] sz) U U.heap ∧ va_Z "java/lang/String" "COMPACT_STRINGS" "Z" (.int 1) (va_A [] sz) U U.heap ∧ va_OF "java/lang/String" "coder" "B" (.int 0) ts9 (va_A [] sz) U U.heap ∧ va_O "java/lang/String" ts9 (va_A [] sz) U U.heap)) (va_Qi (fun (r : Int32) (u : Unit) => (r = 8)) (fun (u : Unit) t => va_P (dC, dI) vwCl [] t.heap ∧ va_K (dC, dI) vwCl [] t ∧ va_D (va_A [] sz) []) (va_A [] sz)) 0 0 (va_A [] sz) := by
  refine Met.ofW (cc := cJ0_length_8abf5) (maxL := 1) (ret := (some .int)) (by decide +kernel) rfl ?_
  intro p e s m args below meth c s₁ B hml hv
  obtain ⟨rfl, hsz, hP, hK, hD0, hE_60, hE_61, hE_10, hE_59, hE_58⟩ := hv
  have hx := B.exec
  have hb := B.bytes
  have hr := B.returns
  have hts := atoms_spec (ws := wf_c_J0_length_8abf5_7) B.pre
  have hown : s.vm.findClass RJ0 = some m.cls := findClass_of_methodNamed B.named
  have hlocks := B.notSynchronized
  subst hsz
  have hD := hD0.self (sz := s.heap.size)
  generalize hAe : va_A [] s.heap.size = A at hD hE_60 hE_61 hE_10 hE_59 hE_58 ⊢
  have hA : ∀ q : Nat, s.heap.size ≤ q → A q := fun q h => by rw [← hAe]; exact Or.inr h
  have hP : va_P (dC, dI) vwCl [] s.heap := hP
  have hl := lv_entry ([.ref ts9]) (n := 1) (Nat.le_of_ble_eq_true rfl)
  rw [lg_entry_eq]
  generalize (lg_sl ([.ref ts9]) ++ List.replicate (1 - (lg_sl ([.ref ts9])).length) Slot.unset).toArray = ls at hl ⊢
  have hl : lv_has ls 1 [(0, .ref ts9)] := hl
  obtain ⟨H, hHe⟩ : ∃ H : Heap, s.heap = H := ⟨_, rfl⟩
  have hS : va_S A s.heap H [] := by rw [hHe]; exact va_S.rf
  have hP : va_P (dC, dI) vwCl [] H := by rw [← hHe]; exact hP
  rw [hHe]
  refine lv_aload_n hx hb dJ0_length_8abf5_0 rfl (lv_at hl 0 rfl) ?_
  as_aux_lemma =>
  refine vk_getf hx hb hE_60 hS hown (hts (.fieldLink RJ0 9 "java/lang/String" "value" "[B") (List.mem_of_getElem? (i := 1) rfl)) (fun _ h9 => h9) dJ0_length_8abf5_1 ?_
  refine va_tlen (v := 8) hx hb hE_61 hS rfl dJ0_length_8abf5_4 ?_
  refine lv_aload_n hx hb dJ0_length_8abf5_5 rfl (lv_at hl 0 rfl) ?_
  obtain ⟨hPc, hDc, hFc, hqc⟩ := cl_cut (wc := []) hP hD hS hA [] (by decide +kernel) rfl
  have hKc := hK.sub (tys' := []) [] rfl
  have hrv := bv_Orecv hE_58 hS
  refine va_calli (va_runV (As := []) (rest := [.int 8]) ⟨hx, hb, hml, hown, hts⟩ (c_J0_coder_7d493_7 l dC dI H.size ts9) (cwV 0 hts gf_c_J0_length_8abf5_7_c_J0_coder_7d493_7 rfl rfl rfl mdV_J0_coder_7d493 ⟨Nat.le_of_ble_eq_true rfl, Nat.le_of_ble_eq_true rfl⟩) ⟨fun a U g mk q => by obtain ⟨q0, q1, qP, qK, qD, qE0, qE1⟩ := q; exact ⟨q0, q1, qP, va_K.moved (u := U) (U := U.calling g mk a) (Vm.Alike.refl U.vm) qK, qD, va_Z.moved (u := U) (U := U.calling g mk a) (Vm.Alike.refl U.vm) qE0, va_OF.moved (u := U) (U := U.calling g mk a) (Vm.Alike.refl U.vm) qE1⟩, hrv, fun U hU hW => ⟨rfl, by rw [hU], by rw [hU]; exact hPc, va_K.moved hW.alike hKc, hDc.weaken (fun _ _ _ _ => trivial), va_Z.moved hW.alike (by rw [hU]; exact (hE_10.kept hS.2.1).narrow hFc), va_OF.moved hW.alike (by rw [hU]; exact (hE_59.kept hS.2.1).narrow hFc)⟩⟩ rfl rfl hl.1 rfl (lv_room (Nat.le_of_ble_eq_true rfl)) dJ0_length_8abf5_6 ⟨Nat.le_of_ble_eq_true rfl, Nat.le_of_ble_eq_true rfl⟩) hS (fun q _ h => hFc q h) hFc (fun r_1 u t H1 locs ht hvm hw hB hz1 hk1 hS => ?_)
  obtain ⟨hP1, hK1, hD1⟩ := hB
  rw [ht] at hP1
  have hP := bv_still hP hk1
  generalize H1 = H at hP hS ⊢
  as_aux_lemma =>
  have h_2 := hw
  rw [h_2]
  refine lv_ishr hx hb dJ0_length_8abf5_9 ?_
  refine lv_topi (fun x_3 ex_3 => ?_)
  obtain rfl : x_3 = 8 := ex_3.trans (by decide +kernel)
  have hK9 := hK.sub (tys' := []) [] rfl
  exact W.iret (v := 8) hx hb hr (fun t ht hW => ⟨⟨8, (), rfl, rfl, by rw [ht]; exact hP, va_K.moved hW.alike hK9, hD⟩, hS.F ht⟩) hS.2.2 dJ0_length_8abf5_10
noncomputable def wf_c_X12_usual_12 : List Cond := .code yX12_usual cX12_usual 2 (some .int) :: ([])
set_option maxHeartbeats 4000000 in
set_option maxRecDepth 100000 in
theorem c_X12_usual_12 (l : Launch) (dC : Nat → ClassId) (dI : Nat → Nat → Nat) (sz : Nat) (p0 : Int32) (p1 : Int32) (g_p0 : RG p0 98 98) (g_p1 : RG p1 0 7) : Met l yX12_usual wf_c_X12_usual_12 ({ frames := 0, cells := 0, slots := 0, locals := 0 }) (va_Pc [.int p0, .int p1] (fun U => U.heap.size = sz ∧ va_P (dC, dI) vwCl [] U.heap ∧ va_K (dC, dI) vwCl [] U ∧ va_D (fun _ => True) [])) (va_Qi (fun (r : Int32) (u : Unit) => (r = 0 ∧ RG p1 0 6) ∨ (r = 2 ∧ RG p1 7 7) ∨ (r = 3 ∧ RG p1 2 6)) (fun (u : Unit) t => va_P (dC, dI) vwCl [] t.heap ∧ va_K (dC, dI) vwCl [] t ∧ va_D (va_A [] sz) []) (va_A [] sz)) 0 0 (va_A [] sz) := by
  refine Met.ofW (cc := cX12_usual) (maxL := 2) (ret := (some .int)) (by decide +kernel) rfl ?_
  intro p e s m args below meth c s₁ B hml hv
  obtain ⟨rfl, hsz, hP, hK, hD0⟩ := hv
  have hx := B.exec
  have hb := B.bytes
  have hr := B.returns
  have hts := atoms_spec (ws := wf_c_X12_usual_12) B.pre
  have hown : s.vm.findClass RX12 = some m.cls := findClass_of_methodNamed B.named
  have hlocks := B.notSynchronized
  subst hsz
  have hD := hD0.self (sz := s.heap.size)
  generalize hAe : va_A [] s.heap.size = A at hD ⊢
  have hA : ∀ q : Nat, s.heap.size ≤ q → A q := fun q h => by rw [← hAe]; exact Or.inr h
  have hP : va_P (dC, dI) vwCl [] s.heap := hP
  have hl := lv_entry ([.int p0, .int p1]) (n := 2) (Nat.le_of_ble_eq_true rfl)
  rw [lg_entry_eq]
  generalize (lg_sl ([.int p0, .int p1]) ++ List.replicate (2 - (lg_sl ([.int p0, .int p1])).length) Slot.unset).toArray = ls at hl ⊢
  have hl : lv_has ls 2 [(0, .int p0), (1, .int p1)] := hl
  obtain ⟨H, hHe⟩ : ∃ H : Heap, s.heap = H := ⟨_, rfl⟩
  have hS : va_S A s.heap H [] := by rw [hHe]; exact va_S.rf
  have hP : va_P (dC, dI) vwCl [] H := by rw [← hHe]; exact hP
  rw [hHe]
  refine wj (fun G hG hU => ?_)
  as_aux_lemma =>
  have J73 : ∀ (g_p0 : RG p0 98 98) (g_p1 : RG p1 2 6) (H : Heap) (locs : List Loc) (ls : Array Slot) (hP : va_P (dC, dI) vwCl [] H) (hD : va_D A []) (hS : va_S A s.heap H locs) (hl : lv_has ls 2 []), G H locs (F0 m 73 ls []) := by
    as_aux_lemma =>
    intro g_p0 g_p1 H locs ls hP hD hS hl
    refine hG _ _ _ ?_
    refine lv_iconst (v := 3) hx hb dX12_usual_73 kc_iconst_3 ?_
    refine lv_goto (tgt := 88) hx hb dX12_usual_74 rfl ?_
    have hK9 := hK.sub (tys' := []) [] rfl
    exact W.iret (v := 3) hx hb hr (fun t ht hW => ⟨⟨3, (), rfl, (Or.inr (Or.inr ⟨rfl, g_p1⟩)), by rw [ht]; exact hP, va_K.moved hW.alike hK9, hD⟩, hS.F ht⟩) hS.2.2 dX12_usual_88
  refine hG _ _ _ ?_
  refine lv_iload_n hx hb dX12_usual_0 rfl (lv_at hl 0 rfl) ?_
  refine lv_bipush (v := 115) hx hb dX12_usual_1 kc_bipush_115 ?_
  refine lv_icmp_ne (tgt := 36) hx hb dX12_usual_3 rfl (fun c_1 => ?_) (fun c_1 => ?_)
  · refine lv_iload_n hx hb dX12_usual_36 rfl (lv_at hl 0 rfl) ?_
    refine lv_bipush (v := 99) hx hb dX12_usual_37 kc_bipush_99 ?_
    refine lv_icmp_ne (tgt := 62) hx hb dX12_usual_39 rfl (fun c_2 => ?_) (fun c_2 => ?_)
    · refine lv_iload_n hx hb dX12_usual_62 rfl (lv_at hl 1 rfl) ?_
      refine lv_iconst (v := 2) hx hb dX12_usual_63 kc_iconst_2 ?_
      as_aux_lemma =>
      refine lv_icmp_eq (tgt := 73) hx hb dX12_usual_64 rfl (fun c_3 => ?_) (fun c_3 => ?_)
      · have g_4 : RG p1 2 2 := RG_eq1 g_p1 (RG_k 2 2 rfl) c_3 (by decide +kernel)
        exact hU _ _ _ (J73 g_p0 (RG_w g_4 (by decide +kernel)) _ _ _ hP hD hS (lv_sub hl [] rfl))
      · refine lv_iload_n hx hb dX12_usual_67 rfl (lv_at hl 1 rfl) ?_
        refine lv_bipush (v := 6) hx hb dX12_usual_68 kc_bipush_6 ?_
        refine lv_icmp_ne (tgt := 77) hx hb dX12_usual_70 rfl (fun c_5 => ?_) (fun c_5 => ?_)
        · refine lv_iload_n hx hb dX12_usual_77 rfl (lv_at hl 1 rfl) ?_
          refine lv_bipush (v := 7) hx hb dX12_usual_78 kc_bipush_7 ?_
          refine lv_icmp_ne (tgt := 87) hx hb dX12_usual_80 rfl (fun c_6 => ?_) (fun c_6 => ?_)
          · have g_7 : RG p1 0 6 := RG_ne1 g_p1 (q := 7) rfl c_6 (by decide +kernel)
            refine lv_iconst (v := 0) hx hb dX12_usual_87 kc_iconst_0 ?_
            have hK9 := hK.sub (tys' := []) [] rfl
            exact W.iret (v := 0) hx hb hr (fun t ht hW => ⟨⟨0, (), rfl, (Or.inl ⟨rfl, g_7⟩), by rw [ht]; exact hP, va_K.moved hW.alike hK9, hD⟩, hS.F ht⟩) hS.2.2 dX12_usual_88
          · have g_8 : RG p1 7 7 := RG_eq1 g_p1 (RG_k 7 7 rfl) c_6 (by decide +kernel)
            refine lv_iconst (v := 2) hx hb dX12_usual_83 kc_iconst_2 ?_
            as_aux_lemma =>
            refine lv_goto (tgt := 88) hx hb dX12_usual_84 rfl ?_
            have hK9 := hK.sub (tys' := []) [] rfl
            exact W.iret (v := 2) hx hb hr (fun t ht hW => ⟨⟨2, (), rfl, (Or.inr (Or.inl ⟨rfl, g_8⟩)), by rw [ht]; exact hP, va_K.moved hW.alike hK9, hD⟩, hS.F ht⟩) hS.2.2 dX12_usual_88
        · have g_9 : RG p1 6 6 := RG_eq1 g_p1 (RG_k 6 6 rfl) c_5 (by decide +kernel)
          exact hU _ _ _ (J73 g_p0 (RG_w g_9 (by decide +kernel)) _ _ _ hP hD hS (lv_sub hl [] rfl))
    · exact RG_dead (RG_eq1 g_p0 (RG_k 99 99 rfl) c_2 (a' := 99) (b' := 98) (by decide +kernel)) (by decide +kernel)
  · exact RG_dead (RG_eq1 g_p0 (RG_k 115 115 rfl) c_1 (a' := 115) (b' := 98) (by decide +kernel)) (by decide +kernel)
noncomputable def wf_c_J0_isLatin1_aae02_7 : List Cond := .code yJ0_isLatin1_aae02 cJ0_isLatin1_aae02 1 (some .boolean) :: ([.fieldLink RJ0 38 "java/lang/String" "COMPACT_STRINGS" "Z", .fieldLink RJ0 15 "java/lang/String" "coder" "B"])
set_option maxHeartbeats 4000000 in
set_option maxRecDepth 100000 in
theorem c_J0_isLatin1_aae02_7 (l : Launch) (dC : Nat → ClassId) (dI : Nat → Nat → Nat) (sz : Nat) (ts9 : Nat) : Met l yJ0_isLatin1_aae02 wf_c_J0_isLatin1_aae02_7 ({ frames := 0, cells := 0, slots := 0, locals := 0 }) (va_Pc [.ref ts9] (fun U => U.heap.size = sz ∧ va_P (dC, dI) vwCl [] U.heap ∧ va_K (dC, dI) vwCl [] U ∧ va_D (fun _ => True) [] ∧ va_Z "java/lang/String" "COMPACT_STRINGS" "Z" (.int 1) (va_A [] sz) U U.heap ∧ va_OF "java/lang/String" "coder" "B" (.int 0) ts9 (va_A [] sz) U U.heap)) (va_Qi (fun (r : Int32) (u : Unit) => (r = 1)) (fun (u : Unit) t => va_P (dC, dI) vwCl [] t.heap ∧ va_K (dC, dI) vwCl [] t ∧ va_D (va_A [] sz) []) (va_A [] sz)) 0 0 (va_A [] sz) := by
  refine Met.ofW (cc := cJ0_isLatin1_aae02) (maxL := 1) (ret := (some .boolean)) (by decide +kernel) rfl ?_
  intro p e s m args below meth c s₁ B hml hv
  obtain ⟨rfl, hsz, hP, hK, hD0, hE_10, hE_59⟩ := hv
  have hx := B.exec
  have hb := B.bytes
  have hr := B.returns
  have hts := atoms_spec (ws := wf_c_J0_isLatin1_aae02_7) B.pre
  have hown : s.vm.findClass RJ0 = some m.cls := findClass_of_methodNamed B.named
  have hlocks := B.notSynchronized
  subst hsz
  have hD := hD0.self (sz := s.heap.size)
  generalize hAe : va_A [] s.heap.size = A at hD hE_10 hE_59 ⊢
  have hA : ∀ q : Nat, s.heap.size ≤ q → A q := fun q h => by rw [← hAe]; exact Or.inr h
  have hP : va_P (dC, dI) vwCl [] s.heap := hP
  have hl := lv_entry ([.ref ts9]) (n := 1) (Nat.le_of_ble_eq_true rfl)
  rw [lg_entry_eq]
  generalize (lg_sl ([.ref ts9]) ++ List.replicate (1 - (lg_sl ([.ref ts9])).length) Slot.unset).toArray = ls at hl ⊢
  have hl : lv_has ls 1 [(0, .ref ts9)] := hl
  obtain ⟨H, hHe⟩ : ∃ H : Heap, s.heap = H := ⟨_, rfl⟩
  have hS : va_S A s.heap H [] := by rw [hHe]; exact va_S.rf
  have hP : va_P (dC, dI) vwCl [] H := by rw [← hHe]; exact hP
  rw [hHe]
  refine va_gets hx hb hE_10 hS hown (hts (.fieldLink RJ0 38 "java/lang/String" "COMPACT_STRINGS" "Z") (List.mem_of_getElem? (i := 1) rfl)) (fun _ h9 => h9) dJ0_isLatin1_aae02_0 ?_
  as_aux_lemma =>
  refine lv_if_eq (tgt := 17) hx hb dJ0_isLatin1_aae02_3 rfl (fun c_1 => absurd c_1 (by decide +kernel)) (fun c_1 => ?_)
  refine lv_aload_n hx hb dJ0_isLatin1_aae02_6 rfl (lv_at hl 0 rfl) ?_
  refine vk_getf hx hb hE_59 hS hown (hts (.fieldLink RJ0 15 "java/lang/String" "coder" "B") (List.mem_of_getElem? (i := 2) rfl)) (fun _ h9 => h9) dJ0_isLatin1_aae02_7 ?_
  refine lv_if_ne (tgt := 17) hx hb dJ0_isLatin1_aae02_10 rfl (fun c_2 => absurd c_2 (by decide +kernel)) (fun c_2 => ?_)
  refine lv_iconst (v := 1) hx hb dJ0_isLatin1_aae02_13 kc_iconst_1 ?_
  refine lv_goto (tgt := 18) hx hb dJ0_isLatin1_aae02_14 rfl ?_
  have hK9 := hK.sub (tys' := []) [] rfl
  exact W.zret (v := 1) hx hb hr rfl (fun t ht hW => ⟨⟨1, (), rfl, rfl, by rw [ht]; exact hP, va_K.moved hW.alike hK9, hD⟩, hS.F ht⟩) hS.2.2 dJ0_isLatin1_aae02_18
noncomputable def wf_c_J3_checkIndex_8e157_8 : List Cond := .code yJ3_checkIndex_8e157 cJ3_checkIndex_8e157 3 (some .int) :: ([])
set_option maxHeartbeats 4000000 in
set_option maxRecDepth 100000 in
theorem c_J3_checkIndex_8e157_8 (l : Launch) (dC : Nat → ClassId) (dI : Nat → Nat → Nat) (sz : Nat) : Met l yJ3_checkIndex_8e157 wf_c_J3_checkIndex_8e157_8 ({ frames := 0, cells := 0, slots := 0, locals := 0 }) (va_Pc [.int 0, .int 8, .null] (fun U => U.heap.size = sz ∧ va_P (dC, dI) vwCl [] U.heap ∧ va_K (dC, dI) vwCl [] U ∧ va_D (fun _ => True) [])) (va_Qi (fun (r : Int32) (u : Unit) => (r = 0)) (fun (u : Unit) t => va_P (dC, dI) vwCl [] t.heap ∧ va_K (dC, dI) vwCl [] t ∧ va_D (va_A [] sz) []) (va_A [] sz)) 0 0 (va_A [] sz) := by
  refine Met.ofW (cc := cJ3_checkIndex_8e157) (maxL := 3) (ret := (some .int)) (by decide +kernel) rfl ?_
  intro p e s m args below meth c s₁ B hml hv
  obtain ⟨rfl, hsz, hP, hK, hD0⟩ := hv
  have hx := B.exec
  have hb := B.bytes
  have hr := B.returns
  have hts := atoms_spec (ws := wf_c_J3_checkIndex_8e157_8) B.pre
  have hown : s.vm.findClass RJ3 = some m.cls := findClass_of_methodNamed B.named
  have hlocks := B.notSynchronized
  subst hsz
  have hD := hD0.self (sz := s.heap.size)
  generalize hAe : va_A [] s.heap.size = A at hD ⊢
  have hA : ∀ q : Nat, s.heap.size ≤ q → A q := fun q h => by rw [← hAe]; exact Or.inr h
  have hP : va_P (dC, dI) vwCl [] s.heap := hP
  have hl := lv_entry ([.int 0, .int 8, .null]) (n := 3) (Nat.le_of_ble_eq_true rfl)
  rw [lg_entry_eq]
  generalize (lg_sl ([.int 0, .int 8, .null]) ++ List.replicate (3 - (lg_sl ([.int 0, .int 8, .null])).length) Slot.unset).toArray = ls at hl ⊢
  have hl : lv_has ls 3 [(0, .int 0), (1, .int 8), (2, .null)] := hl
  obtain ⟨H, hHe⟩ : ∃ H : Heap, s.heap = H := ⟨_, rfl⟩
  have hS : va_S A s.heap H [] := by rw [hHe]; exact va_S.rf
  have hP : va_P (dC, dI) vwCl [] H := by rw [← hHe]; exact hP
  rw [hHe]
  refine lv_iload_n hx hb dJ3_checkIndex_8e157_0 rfl (lv_at hl 0 rfl) ?_
  as_aux_lemma =>
  refine lv_if_lt (tgt := 9) hx hb dJ3_checkIndex_8e157_1 rfl (fun c_1 => absurd c_1 (by decide +kernel)) (fun c_1 => ?_)
  refine lv_iload_n hx hb dJ3_checkIndex_8e157_4 rfl (lv_at hl 0 rfl) ?_
  refine lv_iload_n hx hb dJ3_checkIndex_8e157_5 rfl (lv_at hl 1 rfl) ?_
  refine lv_icmp_lt (tgt := 16) hx hb dJ3_checkIndex_8e157_6 rfl (fun c_2 => ?_) (fun c_2 => absurd c_2 (by decide +kernel))
  refine lv_iload_n hx hb dJ3_checkIndex_8e157_16 rfl (lv_at hl 0 rfl) ?_
  have hK9 := hK.sub (tys' := []) [] rfl
  exact W.iret (v := 0) hx hb hr (fun t ht hW => ⟨⟨0, (), rfl, rfl, by rw [ht]; exact hP, va_K.moved hW.alike hK9, hD⟩, hS.F ht⟩) hS.2.2 dJ3_checkIndex_8e157_17
noncomputable def wf_c_J3_checkIndex_8e157_9 : List Cond := .code yJ3_checkIndex_8e157 cJ3_checkIndex_8e157 3 (some .int) :: ([])
set_option maxHeartbeats 4000000 in
set_option maxRecDepth 100000 in
theorem c_J3_checkIndex_8e157_9 (l : Launch) (dC : Nat → ClassId) (dI : Nat → Nat → Nat) (sz : Nat) (h2 : Nat) : Met l yJ3_checkIndex_8e157 wf_c_J3_checkIndex_8e157_9 ({ frames := 0, cells := 0, slots := 0, locals := 0 }) (va_Pc [.int 0, .int 8, .ref h2] (fun U => U.heap.size = sz ∧ va_P (dC, dI) vwCl [] U.heap ∧ va_K (dC, dI) vwCl [] U ∧ va_D (fun _ => True) [])) (va_Qi (fun (r : Int32) (u : Unit) => (r = 0)) (fun (u : Unit) t => va_P (dC, dI) vwCl [] t.heap ∧ va_K (dC, dI) vwCl [] t ∧ va_D (va_A [] sz) []) (va_A [] sz)) 0 0 (va_A [] sz) := by
  refine Met.ofW (cc := cJ3_checkIndex_8e157) (maxL := 3) (ret := (some .int)) (by decide +kernel) rfl ?_
  intro p e s m args below meth c s₁ B hml hv
  obtain ⟨rfl, hsz, hP, hK, hD0⟩ := hv
  have hx := B.exec
  have hb := B.bytes
  have hr := B.returns
  have hts := atoms_spec (ws := wf_c_J3_checkIndex_8e157_9) B.pre
  have hown : s.vm.findClass RJ3 = some m.cls := findClass_of_methodNamed B.named
  have hlocks := B.notSynchronized
  subst hsz
  have hD := hD0.self (sz := s.heap.size)
  generalize hAe : va_A [] s.heap.size = A at hD ⊢
  have hA : ∀ q : Nat, s.heap.size ≤ q → A q := fun q h => by rw [← hAe]; exact Or.inr h
  have hP : va_P (dC, dI) vwCl [] s.heap := hP
  have hl := lv_entry ([.int 0, .int 8, .ref h2]) (n := 3) (Nat.le_of_ble_eq_true rfl)
  rw [lg_entry_eq]
  generalize (lg_sl ([.int 0, .int 8, .ref h2]) ++ List.replicate (3 - (lg_sl ([.int 0, .int 8, .ref h2])).length) Slot.unset).toArray = ls at hl ⊢
  have hl : lv_has ls 3 [(0, .int 0), (1, .int 8), (2, .ref h2)] := hl
  obtain ⟨H, hHe⟩ : ∃ H : Heap, s.heap = H := ⟨_, rfl⟩
  have hS : va_S A s.heap H [] := by rw [hHe]; exact va_S.rf
  have hP : va_P (dC, dI) vwCl [] H := by rw [← hHe]; exact hP
  rw [hHe]
  refine lv_iload_n hx hb dJ3_checkIndex_8e157_0 rfl (lv_at hl 0 rfl) ?_
  as_aux_lemma =>
  refine lv_if_lt (tgt := 9) hx hb dJ3_checkIndex_8e157_1 rfl (fun c_1 => absurd c_1 (by decide +kernel)) (fun c_1 => ?_)
  refine lv_iload_n hx hb dJ3_checkIndex_8e157_4 rfl (lv_at hl 0 rfl) ?_
  refine lv_iload_n hx hb dJ3_checkIndex_8e157_5 rfl (lv_at hl 1 rfl) ?_
  refine lv_icmp_lt (tgt := 16) hx hb dJ3_checkIndex_8e157_6 rfl (fun c_2 => ?_) (fun c_2 => absurd c_2 (by decide +kernel))
  refine lv_iload_n hx hb dJ3_checkIndex_8e157_16 rfl (lv_at hl 0 rfl) ?_
  have hK9 := hK.sub (tys' := []) [] rfl
  exact W.iret (v := 0) hx hb hr (fun t ht hW => ⟨⟨0, (), rfl, rfl, by rw [ht]; exact hP, va_K.moved hW.alike hK9, hD⟩, hS.F ht⟩) hS.2.2 dJ3_checkIndex_8e157_17
noncomputable def wf_c_J0_checkIndex_df160_4 : List Cond := .code yJ0_checkIndex_df160 cJ0_checkIndex_df160 2 none :: ([.fieldLink RJ0 1053 "jdk/internal/util/Preconditions" "SIOOBE_FORMATTER" "Ljava/util/function/BiFunction;", .methodLink RJ0 1059 yJ3_checkIndex_8e157, .static yJ3_checkIndex_8e157, .initialized RJ3, .code yJ3_checkIndex_8e157 cJ3_checkIndex_8e157 3 (some .int)])
set_option maxRecDepth 20000 in
theorem gf_c_J0_checkIndex_df160_4_c_J3_checkIndex_8e157_8 : GoodIn wf_c_J0_checkIndex_df160_4 (va_wsS RJ0 1059 yJ3_checkIndex_8e157 wf_c_J3_checkIndex_8e157_8) := goodIn_app (gi_l [2, 3, 4] rfl rfl) (gi_cons (j := 5) rfl rfl gi_nil)
set_option maxRecDepth 20000 in
theorem gf_c_J0_checkIndex_df160_4_c_J3_checkIndex_8e157_9 : GoodIn wf_c_J0_checkIndex_df160_4 (va_wsS RJ0 1059 yJ3_checkIndex_8e157 wf_c_J3_checkIndex_8e157_9) := goodIn_app (gi_l [2, 3, 4] rfl rfl) (gi_cons (j := 5) rfl rfl gi_nil)
set_option maxHeartbeats 4000000 in
set_option maxRecDepth 100000 in
theorem c_J0_checkIndex_df160_4 (l : Launch) (dC : Nat → ClassId) (dI : Nat → Nat → Nat) (sz : Nat) : Met l yJ0_checkIndex_df160 wf_c_J0_checkIndex_df160_4 ({ frames := 1, cells := 0, slots := 0, locals := 22 }) (va_Pc [.int 0, .int 8] (fun U => U.heap.size = sz ∧ va_P (dC, dI) vwCl [] U.heap ∧ va_K (dC, dI) vwCl [] U ∧ va_D (fun _ => True) [] ∧ va_Zq "jdk/internal/util/Preconditions" "SIOOBE_FORMATTER" "Ljava/util/function/BiFunction;" (va_A [] sz) U U.heap)) (va_Qv (fun (u : Unit) => (True)) (fun (u : Unit) t => va_P (dC, dI) vwCl [] t.heap ∧ va_K (dC, dI) vwCl [] t ∧ va_D (va_A [] sz) []) (va_A [] sz)) 0 0 (va_A [] sz) := by
  refine Met.ofW (cc := cJ0_checkIndex_df160) (maxL := 2) (ret := none) (by decide +kernel) rfl ?_
  intro p e s m args below meth c s₁ B hml hv
  obtain ⟨rfl, hsz, hP, hK, hD0, hE_11⟩ := hv
  have hx := B.exec
  have hb := B.bytes
  have hr := B.returns
  have hts := atoms_spec (ws := wf_c_J0_checkIndex_df160_4) B.pre
  have hown : s.vm.findClass RJ0 = some m.cls := findClass_of_methodNamed B.named
  have hlocks := B.notSynchronized
  subst hsz
  have hD := hD0.self (sz := s.heap.size)
  generalize hAe : va_A [] s.heap.size = A at hD hE_11 ⊢
  have hA : ∀ q : Nat, s.heap.size ≤ q → A q := fun q h => by rw [← hAe]; exact Or.inr h
  have hP : va_P (dC, dI) vwCl [] s.heap := hP
  have hl := lv_entry ([.int 0, .int 8]) (n := 2) (Nat.le_of_ble_eq_true rfl)
  rw [lg_entry_eq]
  generalize (lg_sl ([.int 0, .int 8]) ++ List.replicate (2 - (lg_sl ([.int 0, .int 8])).length) Slot.unset).toArray = ls at hl ⊢
  have hl : lv_has ls 2 [(0, .int 0), (1, .int 8)] := hl
  obtain ⟨H, hHe⟩ : ∃ H : Heap, s.heap = H := ⟨_, rfl⟩
  have hS : va_S A s.heap H [] := by rw [hHe]; exact va_S.rf
  have hP : va_P (dC, dI) vwCl [] H := by rw [← hHe]; exact hP
  rw [hHe]
  refine lv_iload_n hx hb dJ0_checkIndex_df160_0 rfl (lv_at hl 0 rfl) ?_
  as_aux_lemma =>
  refine lv_iload_n hx hb dJ0_checkIndex_df160_1 rfl (lv_at hl 1 rfl) ?_
  rcases hE_11 with hZ | ⟨tz_1, hZ⟩
  · refine va_gets hx hb hZ hS hown (hts (.fieldLink RJ0 1053 "jdk/internal/util/Preconditions" "SIOOBE_FORMATTER" "Ljava/util/function/BiFunction;") (List.mem_of_getElem? (i := 1) rfl)) (fun _ h9 => h9) dJ0_checkIndex_df160_2 ?_
    obtain ⟨hPc, hDc, hFc, hqc⟩ := cl_cut (wc := []) hP hD hS hA [] (by decide +kernel) rfl
    have hKc := hK.sub (tys' := []) [] rfl
    refine va_calli (va_runS (As := [.int 0, .int 8, .null]) (rest := []) ⟨hx, hb, hml, hown, hts⟩ (c_J3_checkIndex_8e157_8 l dC dI H.size) (va_cwS 3 hts gf_c_J0_checkIndex_df160_4_c_J3_checkIndex_8e157_8 rfl rfl rfl md_J3_checkIndex_8e157 ⟨Nat.le_of_ble_eq_true rfl, Nat.le_of_ble_eq_true rfl⟩) ⟨fun a U g mk q => by obtain ⟨q0, q1, qP, qK, qD⟩ := q; exact ⟨q0, q1, qP, va_K.moved (u := U) (U := U.calling g mk a) (Vm.Alike.refl U.vm) qK, qD⟩, fun U hU hW => ⟨rfl, by rw [hU], by rw [hU]; exact hPc, va_K.moved hW.alike hKc, hDc.weaken (fun _ _ _ _ => trivial)⟩⟩ rfl rfl hl.1 rfl (lv_room (Nat.le_of_ble_eq_true rfl)) dJ0_checkIndex_df160_5 ⟨Nat.le_of_ble_eq_true rfl, Nat.le_of_ble_eq_true rfl⟩) hS (fun q _ h => hFc q h) hFc (fun r_2 u t H1 locs ht hvm hw hB hz1 hk1 hS => ?_)
    obtain ⟨hP1, hK1, hD1⟩ := hB
    rw [ht] at hP1
    have hP := bv_still hP hk1
    generalize H1 = H at hP hS ⊢
    as_aux_lemma =>
    have h_3 := hw
    rw [h_3]
    refine lv_pop hx hb dJ0_checkIndex_df160_8 rfl ?_
    have hK9 := hK.sub (tys' := []) [] rfl
    exact W.vret hx hb hr (fun t ht hW => ⟨⟨(), rfl, trivial, by rw [ht]; exact hP, va_K.moved hW.alike hK9, hD⟩, hS.F ht⟩) hS.2.2 dJ0_checkIndex_df160_9
  · refine va_gets hx hb hZ hS hown (hts (.fieldLink RJ0 1053 "jdk/internal/util/Preconditions" "SIOOBE_FORMATTER" "Ljava/util/function/BiFunction;") (List.mem_of_getElem? (i := 1) rfl)) (fun _ h9 => h9) dJ0_checkIndex_df160_2 ?_
    obtain ⟨hPc, hDc, hFc, hqc⟩ := cl_cut (wc := []) hP hD hS hA [] (by decide +kernel) rfl
    have hKc := hK.sub (tys' := []) [] rfl
    refine va_calli (va_runS (As := [.int 0, .int 8, .ref tz_1]) (rest := []) ⟨hx, hb, hml, hown, hts⟩ (c_J3_checkIndex_8e157_9 l dC dI H.size tz_1) (va_cwS 3 hts gf_c_J0_checkIndex_df160_4_c_J3_checkIndex_8e157_9 rfl rfl rfl md_J3_checkIndex_8e157 ⟨Nat.le_of_ble_eq_true rfl, Nat.le_of_ble_eq_true rfl⟩) ⟨fun a U g mk q => by obtain ⟨q0, q1, qP, qK, qD⟩ := q; exact ⟨q0, q1, qP, va_K.moved (u := U) (U := U.calling g mk a) (Vm.Alike.refl U.vm) qK, qD⟩, fun U hU hW => ⟨rfl, by rw [hU], by rw [hU]; exact hPc, va_K.moved hW.alike hKc, hDc.weaken (fun _ _ _ _ => trivial)⟩⟩ rfl rfl hl.1 rfl (lv_room (Nat.le_of_ble_eq_true rfl)) dJ0_checkIndex_df160_5 ⟨Nat.le_of_ble_eq_true rfl, Nat.le_of_ble_eq_true rfl⟩) hS (fun q _ h => hFc q h) hFc (fun r_4 u t H1 locs ht hvm hw hB hz1 hk1 hS => ?_)
    obtain ⟨hP1, hK1, hD1⟩ := hB
    rw [ht] at hP1
    have hP := bv_still hP hk1
    generalize H1 = H at hP hS ⊢
    as_aux_lemma =>
    have h_5 := hw
    rw [h_5]
    refine lv_pop hx hb dJ0_checkIndex_df160_8 rfl ?_
    have hK9 := hK.sub (tys' := []) [] rfl
    exact W.vret hx hb hr (fun t ht hW => ⟨⟨(), rfl, trivial, by rw [ht]; exact hP, va_K.moved hW.alike hK9, hD⟩, hS.F ht⟩) hS.2.2 dJ0_checkIndex_df160_9
noncomputable def wf_c_J1_charAt_3b067_4 : List Cond := .code yJ1_charAt_3b067 cJ1_charAt_3b067 2 (some .char) :: ([.methodLink RJ1 9 yJ0_checkIndex_df160, .static yJ0_checkIndex_df160, .initialized RJ0, .code yJ0_checkIndex_df160 cJ0_checkIndex_df160 2 none, .fieldLink RJ0 1053 "jdk/internal/util/Preconditions" "SIOOBE_FORMATTER" "Ljava/util/function/BiFunction;", .methodLink RJ0 1059 yJ3_checkIndex_8e157, .static yJ3_checkIndex_8e157, .initialized RJ3, .code yJ3_checkIndex_8e157 cJ3_checkIndex_8e157 3 (some .int)])
set_option maxRecDepth 20000 in
theorem gf_c_J1_charAt_3b067_4_c_J0_checkIndex_df160_4 : GoodIn wf_c_J1_charAt_3b067_4 (va_wsS RJ1 9 yJ0_checkIndex_df160 wf_c_J0_checkIndex_df160_4) := goodIn_app (gi_l [1, 2, 3] rfl rfl) (gi_cons (j := 4) rfl rfl (gi_l [5, 6, 7, 8, 9] rfl rfl))
set_option maxHeartbeats 4000000 in
set_option maxRecDepth 100000 in
theorem c_J1_charAt_3b067_4 (l : Launch) (dC : Nat → ClassId) (dI : Nat → Nat → Nat) (sz : Nat) (tv9 : Nat) : Met l yJ1_charAt_3b067 wf_c_J1_charAt_3b067_4 ({ frames := 2, cells := 0, slots := 0, locals := 43 }) (va_Pc [.ref tv9, .int 0] (fun U => U.heap.size = sz ∧ va_P (dC, dI) vwCl [] U.heap ∧ va_K (dC, dI) vwCl [] U ∧ va_D (fun _ => True) [] ∧ va_T .byte tv9 8 (fun j => .int ([120, 121, 99, 97, 101, 102, 111, 114].getD j 0)) (va_A [] sz) U U.heap ∧ va_Zq "jdk/internal/util/Preconditions" "SIOOBE_FORMATTER" "Ljava/util/function/BiFunction;" (va_A [] sz) U U.heap)) (va_Qi (fun (r : Int32) (u : Unit) => (r = 120)) (fun (u : Unit) t => va_P (dC, dI) vwCl [] t.heap ∧ va_K (dC, dI) vwCl [] t ∧ va_D (va_A [] sz) []) (va_A [] sz)) 0 0 (va_A [] sz) := by
  refine Met.ofW (cc := cJ1_charAt_3b067) (maxL := 2) (ret := (some .char)) (by decide +kernel) rfl ?_
  intro p e s m args below meth c s₁ B hml hv
  obtain ⟨rfl, hsz, hP, hK, hD0, hE_61, hE_11⟩ := hv
  have hx := B.exec
  have hb := B.bytes
  have hr := B.returns
  have hts := atoms_spec (ws := wf_c_J1_charAt_3b067_4) B.pre
  have hown : s.vm.findClass RJ1 = some m.cls := findClass_of_methodNamed B.named
  have hlocks := B.notSynchronized
  subst hsz
  have hD := hD0.self (sz := s.heap.size)
  generalize hAe : va_A [] s.heap.size = A at hD hE_61 hE_11 ⊢
  have hA : ∀ q : Nat, s.heap.size ≤ q → A q := fun q h => by rw [← hAe]; exact Or.inr h
  have hP : va_P (dC, dI) vwCl [] s.heap := hP
  have hl := lv_entry ([.ref tv9, .int 0]) (n := 2) (Nat.le_of_ble_eq_true rfl)
  rw [lg_entry_eq]
  generalize (lg_sl ([.ref tv9, .int 0]) ++ List.replicate (2 - (lg_sl ([.ref tv9, .int 0])).length) Slot.unset).toArray = ls at hl ⊢
  have hl : lv_has ls 2 [(0, .ref tv9), (1, .int 0)] := hl
  obtain ⟨H, hHe⟩ : ∃ H : Heap, s.heap = H := ⟨_, rfl⟩
  have hS : va_S A s.heap H [] := by rw [hHe]; exact va_S.rf
  have hP : va_P (dC, dI) vwCl [] H := by rw [← hHe]; exact hP
  rw [hHe]
  refine lv_iload_n hx hb dJ1_charAt_3b067_0 rfl (lv_at hl 1 rfl) ?_
  as_aux_lemma =>
  refine lv_aload_n hx hb dJ1_charAt_3b067_1 rfl (lv_at hl 0 rfl) ?_
  refine va_tlen (v := 8) hx hb hE_61 hS rfl dJ1_charAt_3b067_2 ?_
  obtain ⟨hPc, hDc, hFc, hqc⟩ := cl_cut (wc := []) hP hD hS hA [] (by decide +kernel) rfl
  have hKc := hK.sub (tys' := []) [] rfl
  refine va_callv (va_runS (As := [.int 0, .int 8]) (rest := []) ⟨hx, hb, hml, hown, hts⟩ (c_J0_checkIndex_df160_4 l dC dI H.size) (va_cwS 2 hts gf_c_J1_charAt_3b067_4_c_J0_checkIndex_df160_4 rfl rfl rfl md_J0_checkIndex_df160 ⟨Nat.le_of_ble_eq_true rfl, Nat.le_of_ble_eq_true rfl⟩) ⟨fun a U g mk q => by obtain ⟨q0, q1, qP, qK, qD, qE0⟩ := q; exact ⟨q0, q1, qP, va_K.moved (u := U) (U := U.calling g mk a) (Vm.Alike.refl U.vm) qK, qD, va_Zq.moved (u := U) (U := U.calling g mk a) (Vm.Alike.refl U.vm) qE0⟩, fun U hU hW => ⟨rfl, by rw [hU], by rw [hU]; exact hPc, va_K.moved hW.alike hKc, hDc.weaken (fun _ _ _ _ => trivial), va_Zq.moved hW.alike (by rw [hU]; exact (hE_11.kept hS.2.1).narrow hFc)⟩⟩ rfl rfl hl.1 rfl (lv_room (Nat.le_of_ble_eq_true rfl)) dJ1_charAt_3b067_3 ⟨Nat.le_of_ble_eq_true rfl, Nat.le_of_ble_eq_true rfl⟩) hS (fun q _ h => hFc q h) hFc (fun u t H1 locs ht hvm hw hB hz1 hk1 hS => ?_)
  obtain ⟨hP1, hK1, hD1⟩ := hB
  rw [ht] at hP1
  have hP := bv_still hP hk1
  generalize H1 = H at hP hS ⊢
  as_aux_lemma =>
  have h_2 := hw
  refine lv_aload_n hx hb dJ1_charAt_3b067_6 rfl (lv_at hl 0 rfl) ?_
  refine lv_iload_n hx hb dJ1_charAt_3b067_7 rfl (lv_at hl 1 rfl) ?_
  refine va_tb (v := .int 120) hx hb hE_61 hS (by unfold vp_in; decide) rfl dJ1_charAt_3b067_8 ?_
  refine lv_sipush (v := 255) hx hb dJ1_charAt_3b067_9 kc_sipush_255 ?_
  refine lv_iand hx hb dJ1_charAt_3b067_12 ?_
  refine lv_topi (fun x_3 ex_3 => ?_)
  obtain rfl : x_3 = 120 := ex_3.trans (by decide +kernel)
  refine lv_i2c (v := 120) hx hb dJ1_charAt_3b067_13 (by decide +kernel) ?_
  have hK9 := hK.sub (tys' := []) [] rfl
  exact W.zret (v := 120) hx hb hr rfl (fun t ht hW => ⟨⟨120, (), rfl, rfl, by rw [ht]; exact hP, va_K.moved hW.alike hK9, hD⟩, hS.F ht⟩) hS.2.2 dJ1_charAt_3b067_14
noncomputable def wf_c_J0_charAt_5068e_4 : List Cond := .code yJ0_charAt_5068e cJ0_charAt_5068e 2 (some .char) :: ([.methodLink RJ0 492 yJ0_isLatin1_aae02, .instanceMethod yJ0_isLatin1_aae02, .selects RJ0 yJ0_isLatin1_aae02 yJ0_isLatin1_aae02, .initialized RJ0, .code yJ0_isLatin1_aae02 cJ0_isLatin1_aae02 1 (some .boolean), .fieldLink RJ0 38 "java/lang/String" "COMPACT_STRINGS" "Z", .fieldLink RJ0 15 "java/lang/String" "coder" "B", .fieldLink RJ0 9 "java/lang/String" "value" "[B", .methodLink RJ0 495 yJ1_charAt_3b067, .static yJ1_charAt_3b067, .initialized RJ1, .code yJ1_charAt_3b067 cJ1_charAt_3b067 2 (some .char), .methodLink RJ1 9 yJ0_checkIndex_df160, .static yJ0_checkIndex_df160, .code yJ0_checkIndex_df160 cJ0_checkIndex_df160 2 none, .fieldLink RJ0 1053 "jdk/internal/util/Preconditions" "SIOOBE_FORMATTER" "Ljava/util/function/BiFunction;", .methodLink RJ0 1059 yJ3_checkIndex_8e157, .static yJ3_checkIndex_8e157, .initialized RJ3, .code yJ3_checkIndex_8e157 cJ3_checkIndex_8e157 3 (some .int)])
set_option maxRecDepth 20000 in
theorem gf_c_J0_charAt_5068e_4_c_J0_isLatin1_aae02_7 : GoodIn wf_c_J0_charAt_5068e_4 (wsV RJ0 492 RJ0 yJ0_isLatin1_aae02 wf_c_J0_isLatin1_aae02_7) := goodIn_app (gi_l [1, 2, 3, 4] rfl rfl) (gi_cons (j := 5) rfl rfl (gi_l [6, 7] rfl rfl))
set_option maxRecDepth 20000 in
theorem gf_c_J0_charAt_5068e_4_c_J1_charAt_3b067_4 : GoodIn wf_c_J0_charAt_5068e_4 (va_wsS RJ0 495 yJ1_charAt_3b067 wf_c_J1_charAt_3b067_4) := goodIn_app (gi_l [9, 10, 11] rfl rfl) (gi_cons (j := 12) rfl rfl (gi_l [13, 14, 4, 15, 16, 17, 18, 19, 20] rfl rfl))
set_option maxHeartbeats 4000000 in
set_option maxRecDepth 100000 in
theorem c_J0_charAt_5068e_4 (l : Launch) (dC : Nat → ClassId) (dI : Nat → Nat → Nat) (sz : Nat) (ts9 : Nat) (tv9 : Nat) : Met l yJ0_charAt_5068e wf_c_J0_charAt_5068e_4 ({ frames := 3, cells := 0, slots := 0, locals := 64 }) (va_Pc [.ref ts9, .int 0] (fun U => U.heap.size = sz ∧ va_P (dC, dI) vwCl [] U.heap ∧ va_K (dC, dI) vwCl [] U ∧ va_D (fun _ => True) [] ∧ va_Z "java/lang/String" "COMPACT_STRINGS" "Z" (.int 1) (va_A [] sz) U U.heap ∧ va_OF "java/lang/String" "coder" "B" (.int 0) ts9 (va_A [] sz) U U.heap ∧ va_O "java/lang/String" ts9 (va_A [] sz) U U.heap ∧ va_OF "java/lang/String" "value" "[B" (.ref tv9) ts9 (va_A [] sz) U U.heap ∧ va_T .byte tv9 8 (fun j => .int ([120, 121, 99, 97, 101, 102, 111, 114].getD j 0)) (va_A [] sz) U U.heap ∧ va_Zq "jdk/internal/util/Preconditions" "SIOOBE_FORMATTER" "Ljava/util/function/BiFunction;" (va_A [] sz) U U.heap)) (va_Qi (fun (r : Int32) (u : Unit) => (r = 120)) (fun (u : Unit) t => va_P (dC, dI) vwCl [] t.heap ∧ va_K (dC, dI) vwCl [] t ∧ va_D (va_A [] sz) []) (va_A [] sz)) 0 0 (va_A [] sz) := by
  refine Met.ofW (cc := cJ0_charAt_5068e) (maxL := 2) (ret := (some .char)) (by decide +kernel) rfl ?_
  intro p e s m args below meth c s₁ B hml hv
  obtain ⟨rfl, hsz, hP, hK, hD0, hE_10, hE_59, hE_58, hE_60, hE_61, hE_11⟩ := hv
  have hx := B.exec
  have hb := B.bytes
  have hr := B.returns
  have hts := atoms_spec (ws := wf_c_J0_charAt_5068e_4) B.pre
  have hown : s.vm.findClass RJ0 = some m.cls := findClass_of_methodNamed B.named
  have hlocks := B.notSynchronized
  subst hsz
  have hD := hD0.self (sz := s.heap.size)
  generalize hAe : va_A [] s.heap.size = A at hD hE_10 hE_59 hE_58 hE_60 hE_61 hE_11 ⊢
  have hA : ∀ q : Nat, s.heap.size ≤ q → A q := fun q h => by rw [← hAe]; exact Or.inr h
  have hP : va_P (dC, dI) vwCl [] s.heap := hP
  have hl := lv_entry ([.ref ts9, .int 0]) (n := 2) (Nat.le_of_ble_eq_true rfl)
  rw [lg_entry_eq]
  generalize (lg_sl ([.ref ts9, .int 0]) ++ List.replicate (2 - (lg_sl ([.ref ts9, .int 0])).length) Slot.unset).toArray = ls at hl ⊢
  have hl : lv_has ls 2 [(0, .ref ts9), (1, .int 0)] := hl
  obtain ⟨H, hHe⟩ : ∃ H : Heap, s.heap = H := ⟨_, rfl⟩
  have hS : va_S A s.heap H [] := by rw [hHe]; exact va_S.rf
  have hP : va_P (dC, dI) vwCl [] H := by rw [← hHe]; exact hP
  rw [hHe]
  refine lv_aload_n hx hb dJ0_charAt_5068e_0 rfl (lv_at hl 0 rfl) ?_
  as_aux_lemma =>
  obtain ⟨hPc, hDc, hFc, hqc⟩ := cl_cut (wc := []) hP hD hS hA [] (by decide +kernel) rfl
  have hKc := hK.sub (tys' := []) [] rfl
  have hrv := bv_Orecv hE_58 hS
  refine va_calli (va_runV (As := []) (rest := []) ⟨hx, hb, hml, hown, hts⟩ (c_J0_isLatin1_aae02_7 l dC dI H.size ts9) (cwV 0 hts gf_c_J0_charAt_5068e_4_c_J0_isLatin1_aae02_7 rfl rfl rfl mdV_J0_isLatin1_aae02 ⟨Nat.le_of_ble_eq_true rfl, Nat.le_of_ble_eq_true rfl⟩) ⟨fun a U g mk q => by obtain ⟨q0, q1, qP, qK, qD, qE0, qE1⟩ := q; exact ⟨q0, q1, qP, va_K.moved (u := U) (U := U.calling g mk a) (Vm.Alike.refl U.vm) qK, qD, va_Z.moved (u := U) (U := U.calling g mk a) (Vm.Alike.refl U.vm) qE0, va_OF.moved (u := U) (U := U.calling g mk a) (Vm.Alike.refl U.vm) qE1⟩, hrv, fun U hU hW => ⟨rfl, by rw [hU], by rw [hU]; exact hPc, va_K.moved hW.alike hKc, hDc.weaken (fun _ _ _ _ => trivial), va_Z.moved hW.alike (by rw [hU]; exact (hE_10.kept hS.2.1).narrow hFc), va_OF.moved hW.alike (by rw [hU]; exact (hE_59.kept hS.2.1).narrow hFc)⟩⟩ rfl rfl hl.1 rfl (lv_room (Nat.le_of_ble_eq_true rfl)) dJ0_charAt_5068e_1 ⟨Nat.le_of_ble_eq_true rfl, Nat.le_of_ble_eq_true rfl⟩) hS (fun q _ h => hFc q h) hFc (fun r_1 u t H1 locs ht hvm hw hB hz1 hk1 hS => ?_)
  obtain ⟨hP1, hK1, hD1⟩ := hB
  rw [ht] at hP1
  have hP := bv_still hP hk1
  generalize H1 = H at hP hS ⊢
  as_aux_lemma =>
  have h_2 := hw
  rw [h_2]
  refine lv_if_eq (tgt := 16) hx hb dJ0_charAt_5068e_4 rfl (fun c_3 => absurd c_3 (by decide +kernel)) (fun c_3 => ?_)
  refine lv_aload_n hx hb dJ0_charAt_5068e_7 rfl (lv_at hl 0 rfl) ?_
  refine vk_getf hx hb hE_60 hS hown (hts (.fieldLink RJ0 9 "java/lang/String" "value" "[B") (List.mem_of_getElem? (i := 8) rfl)) (fun _ h9 => h9) dJ0_charAt_5068e_8 ?_
  refine lv_iload_n hx hb dJ0_charAt_5068e_11 rfl (lv_at hl 1 rfl) ?_
  obtain ⟨hPc, hDc, hFc, hqc⟩ := cl_cut (wc := []) hP hD hS hA [] (by decide +kernel) rfl
  have hKc := hK.sub (tys' := []) [] rfl
  refine va_calli (va_runS (As := [.ref tv9, .int 0]) (rest := []) ⟨hx, hb, hml, hown, hts⟩ (c_J1_charAt_3b067_4 l dC dI H.size tv9) (va_cwS 2 hts gf_c_J0_charAt_5068e_4_c_J1_charAt_3b067_4 rfl rfl rfl md_J1_charAt_3b067 ⟨Nat.le_of_ble_eq_true rfl, Nat.le_of_ble_eq_true rfl⟩) ⟨fun a U g mk q => by obtain ⟨q0, q1, qP, qK, qD, qE0, qE1⟩ := q; exact ⟨q0, q1, qP, va_K.moved (u := U) (U := U.calling g mk a) (Vm.Alike.refl U.vm) qK, qD, va_T.moved (u := U) (U := U.calling g mk a) (Vm.Alike.refl U.vm) qE0, va_Zq.moved (u := U) (U := U.calling g mk a) (Vm.Alike.refl U.vm) qE1⟩, fun U hU hW => ⟨rfl, by rw [hU], by rw [hU]; exact hPc, va_K.moved hW.alike hKc, hDc.weaken (fun _ _ _ _ => trivial), va_T.moved hW.alike (by rw [hU]; exact (hE_61.kept hS.2.1).narrow hFc), va_Zq.moved hW.alike (by rw [hU]; exact (hE_11.kept hS.2.1).narrow hFc)⟩⟩ rfl rfl hl.1 rfl (lv_room (Nat.le_of_ble_eq_true rfl)) dJ0_charAt_5068e_12 ⟨Nat.le_of_ble_eq_true rfl, Nat.le_of_ble_eq_true rfl⟩) hS (fun q _ h => hFc q h) hFc (fun r_4 u t H1 locs ht hvm hw hB hz1 hk1 hS => ?_)
  obtain ⟨hP1, hK1, hD1⟩ := hB
  rw [ht] at hP1
  have hP := bv_still hP hk1
  generalize H1 = H at hP hS ⊢
  as_aux_lemma =>
  have h_5 := hw
  rw [h_5]
  have hK9 := hK.sub (tys' := []) [] rfl
  exact W.zret (v := 120) hx hb hr rfl (fun t ht hW => ⟨⟨120, (), rfl, rfl, by rw [ht]; exact hP, va_K.moved hW.alike hK9, hD⟩, hS.F ht⟩) hS.2.2 dJ0_charAt_5068e_15
noncomputable def wf_c_J3_checkIndex_8e157_10 : List Cond := .code yJ3_checkIndex_8e157 cJ3_checkIndex_8e157 3 (some .int) :: ([])
set_option maxHeartbeats 4000000 in
set_option maxRecDepth 100000 in
theorem c_J3_checkIndex_8e157_10 (l : Launch) (dC : Nat → ClassId) (dI : Nat → Nat → Nat) (sz : Nat) : Met l yJ3_checkIndex_8e157 wf_c_J3_checkIndex_8e157_10 ({ frames := 0, cells := 0, slots := 0, locals := 0 }) (va_Pc [.int 1, .int 8, .null] (fun U => U.heap.size = sz ∧ va_P (dC, dI) vwCl [] U.heap ∧ va_K (dC, dI) vwCl [] U ∧ va_D (fun _ => True) [])) (va_Qi (fun (r : Int32) (u : Unit) => (r = 1)) (fun (u : Unit) t => va_P (dC, dI) vwCl [] t.heap ∧ va_K (dC, dI) vwCl [] t ∧ va_D (va_A [] sz) []) (va_A [] sz)) 0 0 (va_A [] sz) := by
  refine Met.ofW (cc := cJ3_checkIndex_8e157) (maxL := 3) (ret := (some .int)) (by decide +kernel) rfl ?_
  intro p e s m args below meth c s₁ B hml hv
  obtain ⟨rfl, hsz, hP, hK, hD0⟩ := hv
  have hx := B.exec
  have hb := B.bytes
  have hr := B.returns
  have hts := atoms_spec (ws := wf_c_J3_checkIndex_8e157_10) B.pre
  have hown : s.vm.findClass RJ3 = some m.cls := findClass_of_methodNamed B.named
  have hlocks := B.notSynchronized
  subst hsz
  have hD := hD0.self (sz := s.heap.size)
  generalize hAe : va_A [] s.heap.size = A at hD ⊢
  have hA : ∀ q : Nat, s.heap.size ≤ q → A q := fun q h => by rw [← hAe]; exact Or.inr h
  have hP : va_P (dC, dI) vwCl [] s.heap := hP
  have hl := lv_entry ([.int 1, .int 8, .null]) (n := 3) (Nat.le_of_ble_eq_true rfl)
  rw [lg_entry_eq]
  generalize (lg_sl ([.int 1, .int 8, .null]) ++ List.replicate (3 - (lg_sl ([.int 1, .int 8, .null])).length) Slot.unset).toArray = ls at hl ⊢
  have hl : lv_has ls 3 [(0, .int 1), (1, .int 8), (2, .null)] := hl
  obtain ⟨H, hHe⟩ : ∃ H : Heap, s.heap = H := ⟨_, rfl⟩
  have hS : va_S A s.heap H [] := by rw [hHe]; exact va_S.rf
  have hP : va_P (dC, dI) vwCl [] H := by rw [← hHe]; exact hP
  rw [hHe]
  refine lv_iload_n hx hb dJ3_checkIndex_8e157_0 rfl (lv_at hl 0 rfl) ?_
  as_aux_lemma =>
  refine lv_if_lt (tgt := 9) hx hb dJ3_checkIndex_8e157_1 rfl (fun c_1 => absurd c_1 (by decide +kernel)) (fun c_1 => ?_)
  refine lv_iload_n hx hb dJ3_checkIndex_8e157_4 rfl (lv_at hl 0 rfl) ?_
  refine lv_iload_n hx hb dJ3_checkIndex_8e157_5 rfl (lv_at hl 1 rfl) ?_
  refine lv_icmp_lt (tgt := 16) hx hb dJ3_checkIndex_8e157_6 rfl (fun c_2 => ?_) (fun c_2 => absurd c_2 (by decide +kernel))
  refine lv_iload_n hx hb dJ3_checkIndex_8e157_16 rfl (lv_at hl 0 rfl) ?_
  have hK9 := hK.sub (tys' := []) [] rfl
  exact W.iret (v := 1) hx hb hr (fun t ht hW => ⟨⟨1, (), rfl, rfl, by rw [ht]; exact hP, va_K.moved hW.alike hK9, hD⟩, hS.F ht⟩) hS.2.2 dJ3_checkIndex_8e157_17
noncomputable def wf_c_J3_checkIndex_8e157_11 : List Cond := .code yJ3_checkIndex_8e157 cJ3_checkIndex_8e157 3 (some .int) :: ([])
set_option maxHeartbeats 4000000 in
set_option maxRecDepth 100000 in
theorem c_J3_checkIndex_8e157_11 (l : Launch) (dC : Nat → ClassId) (dI : Nat → Nat → Nat) (sz : Nat) (h2 : Nat) : Met l yJ3_checkIndex_8e157 wf_c_J3_checkIndex_8e157_11 ({ frames := 0, cells := 0, slots := 0, locals := 0 }) (va_Pc [.int 1, .int 8, .ref h2] (fun U => U.heap.size = sz ∧ va_P (dC, dI) vwCl [] U.heap ∧ va_K (dC, dI) vwCl [] U ∧ va_D (fun _ => True) [])) (va_Qi (fun (r : Int32) (u : Unit) => (r = 1)) (fun (u : Unit) t => va_P (dC, dI) vwCl [] t.heap ∧ va_K (dC, dI) vwCl [] t ∧ va_D (va_A [] sz) []) (va_A [] sz)) 0 0 (va_A [] sz) := by
  refine Met.ofW (cc := cJ3_checkIndex_8e157) (maxL := 3) (ret := (some .int)) (by decide +kernel) rfl ?_
  intro p e s m args below meth c s₁ B hml hv
  obtain ⟨rfl, hsz, hP, hK, hD0⟩ := hv
  have hx := B.exec
  have hb := B.bytes
  have hr := B.returns
  have hts := atoms_spec (ws := wf_c_J3_checkIndex_8e157_11) B.pre
  have hown : s.vm.findClass RJ3 = some m.cls := findClass_of_methodNamed B.named
  have hlocks := B.notSynchronized
  subst hsz
  have hD := hD0.self (sz := s.heap.size)
  generalize hAe : va_A [] s.heap.size = A at hD ⊢
  have hA : ∀ q : Nat, s.heap.size ≤ q → A q := fun q h => by rw [← hAe]; exact Or.inr h
  have hP : va_P (dC, dI) vwCl [] s.heap := hP
  have hl := lv_entry ([.int 1, .int 8, .ref h2]) (n := 3) (Nat.le_of_ble_eq_true rfl)
  rw [lg_entry_eq]
  generalize (lg_sl ([.int 1, .int 8, .ref h2]) ++ List.replicate (3 - (lg_sl ([.int 1, .int 8, .ref h2])).length) Slot.unset).toArray = ls at hl ⊢
  have hl : lv_has ls 3 [(0, .int 1), (1, .int 8), (2, .ref h2)] := hl
  obtain ⟨H, hHe⟩ : ∃ H : Heap, s.heap = H := ⟨_, rfl⟩
  have hS : va_S A s.heap H [] := by rw [hHe]; exact va_S.rf
  have hP : va_P (dC, dI) vwCl [] H := by rw [← hHe]; exact hP
  rw [hHe]
  refine lv_iload_n hx hb dJ3_checkIndex_8e157_0 rfl (lv_at hl 0 rfl) ?_
  as_aux_lemma =>
  refine lv_if_lt (tgt := 9) hx hb dJ3_checkIndex_8e157_1 rfl (fun c_1 => absurd c_1 (by decide +kernel)) (fun c_1 => ?_)
  refine lv_iload_n hx hb dJ3_checkIndex_8e157_4 rfl (lv_at hl 0 rfl) ?_
  refine lv_iload_n hx hb dJ3_checkIndex_8e157_5 rfl (lv_at hl 1 rfl) ?_
  refine lv_icmp_lt (tgt := 16) hx hb dJ3_checkIndex_8e157_6 rfl (fun c_2 => ?_) (fun c_2 => absurd c_2 (by decide +kernel))
  refine lv_iload_n hx hb dJ3_checkIndex_8e157_16 rfl (lv_at hl 0 rfl) ?_
  have hK9 := hK.sub (tys' := []) [] rfl
  exact W.iret (v := 1) hx hb hr (fun t ht hW => ⟨⟨1, (), rfl, rfl, by rw [ht]; exact hP, va_K.moved hW.alike hK9, hD⟩, hS.F ht⟩) hS.2.2 dJ3_checkIndex_8e157_17
noncomputable def wf_c_J0_checkIndex_df160_5 : List Cond := .code yJ0_checkIndex_df160 cJ0_checkIndex_df160 2 none :: ([.fieldLink RJ0 1053 "jdk/internal/util/Preconditions" "SIOOBE_FORMATTER" "Ljava/util/function/BiFunction;", .methodLink RJ0 1059 yJ3_checkIndex_8e157, .static yJ3_checkIndex_8e157, .initialized RJ3, .code yJ3_checkIndex_8e157 cJ3_checkIndex_8e157 3 (some .int)])
set_option maxRecDepth 20000 in
theorem gf_c_J0_checkIndex_df160_5_c_J3_checkIndex_8e157_10 : GoodIn wf_c_J0_checkIndex_df160_5 (va_wsS RJ0 1059 yJ3_checkIndex_8e157 wf_c_J3_checkIndex_8e157_10) := goodIn_app (gi_l [2, 3, 4] rfl rfl) (gi_cons (j := 5) rfl rfl gi_nil)
set_option maxRecDepth 20000 in
theorem gf_c_J0_checkIndex_df160_5_c_J3_checkIndex_8e157_11 : GoodIn wf_c_J0_checkIndex_df160_5 (va_wsS RJ0 1059 yJ3_checkIndex_8e157 wf_c_J3_checkIndex_8e157_11) := goodIn_app (gi_l [2, 3, 4] rfl rfl) (gi_cons (j := 5) rfl rfl gi_nil)
set_option maxHeartbeats 4000000 in
set_option maxRecDepth 100000 in
theorem c_J0_checkIndex_df160_5 (l : Launch) (dC : Nat → ClassId) (dI : Nat → Nat → Nat) (sz : Nat) : Met l yJ0_checkIndex_df160 wf_c_J0_checkIndex_df160_5 ({ frames := 1, cells := 0, slots := 0, locals := 22 }) (va_Pc [.int 1, .int 8] (fun U => U.heap.size = sz ∧ va_P (dC, dI) vwCl [] U.heap ∧ va_K (dC, dI) vwCl [] U ∧ va_D (fun _ => True) [] ∧ va_Zq "jdk/internal/util/Preconditions" "SIOOBE_FORMATTER" "Ljava/util/function/BiFunction;" (va_A [] sz) U U.heap)) (va_Qv (fun (u : Unit) => (True)) (fun (u : Unit) t => va_P (dC, dI) vwCl [] t.heap ∧ va_K (dC, dI) vwCl [] t ∧ va_D (va_A [] sz) []) (va_A [] sz)) 0 0 (va_A [] sz) := by
  refine Met.ofW (cc := cJ0_checkIndex_df160) (maxL := 2) (ret := none) (by decide +kernel) rfl ?_
  intro p e s m args below meth c s₁ B hml hv
  obtain ⟨rfl, hsz, hP, hK, hD0, hE_11⟩ := hv
  have hx := B.exec
  have hb := B.bytes
  have hr := B.returns
  have hts := atoms_spec (ws := wf_c_J0_checkIndex_df160_5) B.pre
  have hown : s.vm.findClass RJ0 = some m.cls := findClass_of_methodNamed B.named
  have hlocks := B.notSynchronized
  subst hsz
  have hD := hD0.self (sz := s.heap.size)
  generalize hAe : va_A [] s.heap.size = A at hD hE_11 ⊢
  have hA : ∀ q : Nat, s.heap.size ≤ q → A q := fun q h => by rw [← hAe]; exact Or.inr h
  have hP : va_P (dC, dI) vwCl [] s.heap := hP
  have hl := lv_entry ([.int 1, .int 8]) (n := 2) (Nat.le_of_ble_eq_true rfl)
  rw [lg_entry_eq]
  generalize (lg_sl ([.int 1, .int 8]) ++ List.replicate (2 - (lg_sl ([.int 1, .int 8])).length) Slot.unset).toArray = ls at hl ⊢
  have hl : lv_has ls 2 [(0, .int 1), (1, .int 8)] := hl
  obtain ⟨H, hHe⟩ : ∃ H : Heap, s.heap = H := ⟨_, rfl⟩
  have hS : va_S A s.heap H [] := by rw [hHe]; exact va_S.rf
  have hP : va_P (dC, dI) vwCl [] H := by rw [← hHe]; exact hP
  rw [hHe]
  refine lv_iload_n hx hb dJ0_checkIndex_df160_0 rfl (lv_at hl 0 rfl) ?_
  as_aux_lemma =>
  refine lv_iload_n hx hb dJ0_checkIndex_df160_1 rfl (lv_at hl 1 rfl) ?_
  rcases hE_11 with hZ | ⟨tz_1, hZ⟩
  · refine va_gets hx hb hZ hS hown (hts (.fieldLink RJ0 1053 "jdk/internal/util/Preconditions" "SIOOBE_FORMATTER" "Ljava/util/function/BiFunction;") (List.mem_of_getElem? (i := 1) rfl)) (fun _ h9 => h9) dJ0_checkIndex_df160_2 ?_
    obtain ⟨hPc, hDc, hFc, hqc⟩ := cl_cut (wc := []) hP hD hS hA [] (by decide +kernel) rfl
    have hKc := hK.sub (tys' := []) [] rfl
    refine va_calli (va_runS (As := [.int 1, .int 8, .null]) (rest := []) ⟨hx, hb, hml, hown, hts⟩ (c_J3_checkIndex_8e157_10 l dC dI H.size) (va_cwS 3 hts gf_c_J0_checkIndex_df160_5_c_J3_checkIndex_8e157_10 rfl rfl rfl md_J3_checkIndex_8e157 ⟨Nat.le_of_ble_eq_true rfl, Nat.le_of_ble_eq_true rfl⟩) ⟨fun a U g mk q => by obtain ⟨q0, q1, qP, qK, qD⟩ := q; exact ⟨q0, q1, qP, va_K.moved (u := U) (U := U.calling g mk a) (Vm.Alike.refl U.vm) qK, qD⟩, fun U hU hW => ⟨rfl, by rw [hU], by rw [hU]; exact hPc, va_K.moved hW.alike hKc, hDc.weaken (fun _ _ _ _ => trivial)⟩⟩ rfl rfl hl.1 rfl (lv_room (Nat.le_of_ble_eq_true rfl)) dJ0_checkIndex_df160_5 ⟨Nat.le_of_ble_eq_true rfl, Nat.le_of_ble_eq_true rfl⟩) hS (fun q _ h => hFc q h) hFc (fun r_2 u t H1 locs ht hvm hw hB hz1 hk1 hS => ?_)
    obtain ⟨hP1, hK1, hD1⟩ := hB
    rw [ht] at hP1
    have hP := bv_still hP hk1
    generalize H1 = H at hP hS ⊢
    as_aux_lemma =>
    have h_3 := hw
    rw [h_3]
    refine lv_pop hx hb dJ0_checkIndex_df160_8 rfl ?_
    have hK9 := hK.sub (tys' := []) [] rfl
    exact W.vret hx hb hr (fun t ht hW => ⟨⟨(), rfl, trivial, by rw [ht]; exact hP, va_K.moved hW.alike hK9, hD⟩, hS.F ht⟩) hS.2.2 dJ0_checkIndex_df160_9
  · refine va_gets hx hb hZ hS hown (hts (.fieldLink RJ0 1053 "jdk/internal/util/Preconditions" "SIOOBE_FORMATTER" "Ljava/util/function/BiFunction;") (List.mem_of_getElem? (i := 1) rfl)) (fun _ h9 => h9) dJ0_checkIndex_df160_2 ?_
    obtain ⟨hPc, hDc, hFc, hqc⟩ := cl_cut (wc := []) hP hD hS hA [] (by decide +kernel) rfl
    have hKc := hK.sub (tys' := []) [] rfl
    refine va_calli (va_runS (As := [.int 1, .int 8, .ref tz_1]) (rest := []) ⟨hx, hb, hml, hown, hts⟩ (c_J3_checkIndex_8e157_11 l dC dI H.size tz_1) (va_cwS 3 hts gf_c_J0_checkIndex_df160_5_c_J3_checkIndex_8e157_11 rfl rfl rfl md_J3_checkIndex_8e157 ⟨Nat.le_of_ble_eq_true rfl, Nat.le_of_ble_eq_true rfl⟩) ⟨fun a U g mk q => by obtain ⟨q0, q1, qP, qK, qD⟩ := q; exact ⟨q0, q1, qP, va_K.moved (u := U) (U := U.calling g mk a) (Vm.Alike.refl U.vm) qK, qD⟩, fun U hU hW => ⟨rfl, by rw [hU], by rw [hU]; exact hPc, va_K.moved hW.alike hKc, hDc.weaken (fun _ _ _ _ => trivial)⟩⟩ rfl rfl hl.1 rfl (lv_room (Nat.le_of_ble_eq_true rfl)) dJ0_checkIndex_df160_5 ⟨Nat.le_of_ble_eq_true rfl, Nat.le_of_ble_eq_true rfl⟩) hS (fun q _ h => hFc q h) hFc (fun r_4 u t H1 locs ht hvm hw hB hz1 hk1 hS => ?_)
    obtain ⟨hP1, hK1, hD1⟩ := hB
    rw [ht] at hP1
    have hP := bv_still hP hk1
    generalize H1 = H at hP hS ⊢
    as_aux_lemma =>
    have h_5 := hw
    rw [h_5]
    refine lv_pop hx hb dJ0_checkIndex_df160_8 rfl ?_
    have hK9 := hK.sub (tys' := []) [] rfl
    exact W.vret hx hb hr (fun t ht hW => ⟨⟨(), rfl, trivial, by rw [ht]; exact hP, va_K.moved hW.alike hK9, hD⟩, hS.F ht⟩) hS.2.2 dJ0_checkIndex_df160_9
