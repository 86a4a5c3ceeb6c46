noncomputable def wf_c_X12_isIn_22 : List Cond := .code yX12_isIn cX12_isIn 6 (some .boolean) :: ([])
noncomputable def fx_c_X12_isIn_22 (p0 : Int64) : Int32 := (if p0 < 0 then 0 else (if 100 < p0 then 0 else 1))
set_option maxHeartbeats 4000000 in
set_option maxRecDepth 100000 in
theorem c_X12_isIn_22 (l : Launch) (dC : Nat → ClassId) (dI : Nat → Nat → Nat) (sz : Nat) (p0 : Int64) (g_p0 : LG p0 (-2147483648) 2147483647) : Met l yX12_isIn wf_c_X12_isIn_22 ({ frames := 0, cells := 0, slots := 0, locals := 0 }) (va_Pc [.long p0, .long 0, .long 100] (fun U => U.heap.size = sz ∧ va_P (dC, dI) vwCl [] U.heap ∧ va_K (dC, dI) vwCl [] U ∧ va_D (fun _ => True) [])) (va_Qi (fun (r : Int32) (u : Unit) => (r = 0 ∧ r = fx_c_X12_isIn_22 p0) ∨ (r = 1 ∧ LG p0 0 100 ∧ r = fx_c_X12_isIn_22 p0)) (fun (u : Unit) t => va_P (dC, dI) vwCl [] t.heap ∧ va_K (dC, dI) vwCl [] t ∧ va_D (va_A [] sz) []) (va_A [] sz)) 0 0 (va_A [] sz) := by
  refine Met.ofW (cc := cX12_isIn) (maxL := 6) (ret := (some .boolean)) (by decide +kernel) rfl ?_
  intro p e s m args below meth c s₁ B hml hv
  obtain ⟨rfl, hsz, hP, hK, hD0⟩ := hv
  have hx := B.exec
  have hb := B.bytes
  have hr := B.returns
  have hts := atoms_spec (ws := wf_c_X12_isIn_22) B.pre
  have hown : s.vm.findClass RX12 = some m.cls := findClass_of_methodNamed B.named
  have hlocks := B.notSynchronized
  subst hsz
  have hD := hD0.self (sz := s.heap.size)
  generalize hAe : va_A [] s.heap.size = A at hD ⊢
  have hA : ∀ q : Nat, s.heap.size ≤ q → A q := fun q h => by rw [← hAe]; exact Or.inr h
  have hP : va_P (dC, dI) vwCl [] s.heap := hP
  have hl := lv_entry ([.long p0, .long 0, .long 100]) (n := 6) (Nat.le_of_ble_eq_true rfl)
  rw [lg_entry_eq]
  generalize (lg_sl ([.long p0, .long 0, .long 100]) ++ List.replicate (6 - (lg_sl ([.long p0, .long 0, .long 100])).length) Slot.unset).toArray = ls at hl ⊢
  have hl : lv_has ls 6 [(0, .long p0), (2, .long 0), (4, .long 100)] := hl
  obtain ⟨H, hHe⟩ : ∃ H : Heap, s.heap = H := ⟨_, rfl⟩
  have hS : va_S A s.heap H [] := by rw [hHe]; exact va_S.rf
  have hP : va_P (dC, dI) vwCl [] H := by rw [← hHe]; exact hP
  rw [hHe]
  obtain ⟨RES, hR⟩ : ∃ z, fx_c_X12_isIn_22 p0 = z := ⟨_, rfl⟩
  have hEX : RES = fx_c_X12_isIn_22 p0 := hR.symm
  refine lv_lload_n hx hb dX12_isIn_0 rfl (lv_at hl 0 rfl) ?_
  as_aux_lemma =>
  refine lv_lload_n hx hb dX12_isIn_1 rfl (lv_at hl 1 rfl) ?_
  refine W.lcmp hx hb dX12_isIn_2 ?_
  refine lv_if_lt (tgt := 17) hx hb dX12_isIn_3 rfl (fun c_1 => ?_) (fun c_1 => ?_)
  · replace c_1 := lc_lt_t c_1
    replace hEX := hEX.trans (if_pos c_1)
    have g_2 : LG p0 (-2147483648) (-1) := LG_lt1 g_p0 (LG_k 0 0 rfl) c_1 (by decide +kernel)
    refine lv_iconst (v := 0) hx hb dX12_isIn_17 kc_iconst_0 ?_
    have hK9 := hK.sub (tys' := []) [] rfl
    exact W.zret (v := 0) hx hb hr rfl (fun t ht hW => ⟨⟨0, (), rfl, (Or.inl ⟨rfl, (hR.trans hEX).symm⟩), by rw [ht]; exact hP, va_K.moved hW.alike hK9, hD⟩, hS.F ht⟩) hS.2.2 dX12_isIn_18
  · replace c_1 := lc_lt_f c_1
    replace hEX := hEX.trans (if_neg c_1)
    have d_3 := Int64.not_lt.mp c_1
    have g_4 : LG p0 0 2147483647 := LG_le2 (LG_k 0 0 rfl) g_p0 d_3 (by decide +kernel)
    refine lv_lload_n hx hb dX12_isIn_6 rfl (lv_at hl 0 rfl) ?_
    as_aux_lemma =>
    refine lv_lload hx hb dX12_isIn_7 (lv_at hl 2 rfl) ?_
    refine W.lcmp hx hb dX12_isIn_12 ?_
    refine lv_if_gt (tgt := 17) hx hb dX12_isIn_10 rfl (fun c_5 => ?_) (fun c_5 => ?_)
    · replace c_5 := lc_gt_t c_5
      replace hEX := hEX.trans (if_pos c_5)
      have g_6 : LG p0 101 2147483647 := LG_lt2 (LG_k 100 100 rfl) g_4 c_5 (by decide +kernel)
      refine lv_iconst (v := 0) hx hb dX12_isIn_17 kc_iconst_0 ?_
      have hK9 := hK.sub (tys' := []) [] rfl
      exact W.zret (v := 0) hx hb hr rfl (fun t ht hW => ⟨⟨0, (), rfl, (Or.inl ⟨rfl, (hR.trans hEX).symm⟩), by rw [ht]; exact hP, va_K.moved hW.alike hK9, hD⟩, hS.F ht⟩) hS.2.2 dX12_isIn_18
    · replace c_5 := lc_gt_f c_5
      replace hEX := hEX.trans (if_neg c_5)
      have d_7 := Int64.not_lt.mp c_5
      have g_8 : LG p0 0 100 := LG_le1 g_4 (LG_k 100 100 rfl) d_7 (by decide +kernel)
      refine lv_iconst (v := 1) hx hb dX12_isIn_13 kc_iconst_1 ?_
      as_aux_lemma =>
      refine lv_goto (tgt := 18) hx hb dX12_isIn_14 rfl ?_
      have hK9 := hK.sub (tys' := []) [] rfl
      exact W.zret (v := 1) hx hb hr rfl (fun t ht hW => ⟨⟨1, (), rfl, (Or.inr ⟨rfl, g_8, (hR.trans hEX).symm⟩), by rw [ht]; exact hP, va_K.moved hW.alike hK9, hD⟩, hS.F ht⟩) hS.2.2 dX12_isIn_18
noncomputable def wd_c_X12_fogOf_8 (a0 : Nat) (a1 : Int32) (a2 : Nat) (a3 : Nat) (a4 : Nat) (a5 : Nat) (a6 : Nat) (a7 : Int32) (a8 : Int32) (a9 : Int32) (a10 : Int32) (a11 : Int32) (a12 : Int32) (a13 : Int32) (a14 : Int32) (a15 : Int32) (a16 : Nat) (a17 : Nat) (a18 : Int32) (a19 : Nat) (a20 : Nat) (a21 : Nat) (a22 : Nat) (a23 : Nat) (a24 : Nat) (a25 : Nat) (a26 : Nat) (a27 : Int32) (a28 : Int32) (a29 : Int32) (a30 : Int32) (a31 : Int32) (a32 : Int32) (a33 : Nat) (a34 : Nat) (a35 : Int32) (a36 : Nat) (a37 : Nat) (a38 : Nat) (a39 : Nat) (a40 : Nat) (a41 : Nat) (a42 : Int32) (a43 : Int64) (a44 : Int32) (a45 : Int32) (a46 : Nat) (a47 : Nat) (a48 : Nat) (a49 : Nat) (a50 : Nat) (a51 : Nat) (a52 : Int32) (a53 : Nat) (a54 : Int32) (a55 : Nat) (a56 : ClassId) (a57 : Nat → Int32) : va_W := [(a0, .inr (12, [.int a1, .ref a2, .ref a3, .ref a4, .ref a5, .ref a6, .int a7, .int a8, .int a9, .int a10, .int a11, .int a12, .int a13, .int a14, .int a15, .ref a16, .ref a17, .int a18, .ref a19, .ref a20, .ref a21, .ref a22, .ref a23, .ref a24, .ref a25, .ref a26, .int a27, .int a28, .int a29, .int a30, .int a31, .int a32, .ref a33, .ref a34, .int a35, .ref a36, .ref a37, .ref a38, .ref a39, .ref a40, .ref a41, .int a42, .long a43, .int a44, .int a45, .ref a46, .ref a47, .ref a48, .ref a49, .ref a50, .ref a51, .int a52, .ref a53, .int a54])), (a55, .inl (a56, 3, .inl a57))]
noncomputable def wf_c_X12_fogOf_8 : List Cond := List.cons (.code yX12_fogOf cX12_fogOf 10 (some .long)) (@HAppend.hAppend (List Cond) (List Cond) (List Cond) _ [.fieldLink RX12 309 "BuoyVoteModel" "buoys" "I", .fieldLink RX12 312 "BuoyVoteModel" "boats" "I", .fieldLink RX12 81 "BuoyVoteModel" "tally" "[I"] wsX120)
theorem iw_c_X12_fogOf_8_X12 : ∀ w ∈ wsX120, w ∈ wf_c_X12_fogOf_8 := fun w h => List.mem_cons_of_mem _ (List.mem_append_right _ h)
set_option maxHeartbeats 4000000 in
set_option maxRecDepth 100000 in
theorem c_X12_fogOf_8 (l : Launch) (dC : Nat → ClassId) (dI : Nat → Nat → Nat) (sz : Nat) (h0 : Nat) (p1 : Int32) (p3 : Int32) (p4 : Int64) (h0_f0 : Int32) (h0_1 : Nat) (h0_2 : Nat) (h0_3 : Nat) (h0_4 : Nat) (h0_5 : Nat) (h0_f6 : Int32) (h0_f7 : Int32) (h0_f8 : Int32) (h0_f9 : Int32) (h0_f10 : Int32) (h0_f11 : Int32) (h0_f12 : Int32) (h0_f13 : Int32) (h0_f14 : Int32) (h0_15 : Nat) (h0_16 : Nat) (h0_f17 : Int32) (h0_18 : Nat) (h0_19 : Nat) (h0_20 : Nat) (h0_21 : Nat) (h0_22 : Nat) (h0_23 : Nat) (h0_24 : Nat) (h0_25 : Nat) (h0_f26 : Int32) (h0_f27 : Int32) (h0_f28 : Int32) (h0_f29 : Int32) (h0_f30 : Int32) (h0_f31 : Int32) (h0_32 : Nat) (h0_33 : Nat) (h0_f34 : Int32) (h0_35 : Nat) (h0_36 : Nat) (h0_37 : Nat) (h0_38 : Nat) (h0_39 : Nat) (h0_40 : Nat) (h0_f41 : Int32) (h0_f42 : Int64) (h0_f43 : Int32) (h0_f44 : Int32) (h0_45 : Nat) (h0_46 : Nat) (h0_47 : Nat) (h0_48 : Nat) (h0_49 : Nat) (h0_50 : Nat) (h0_f51 : Int32) (h0_52 : Nat) (h0_f53 : Int32) (h0_38k : ClassId) (h0_38c : Nat → Int32) (g_p1 : RG p1 0 2) (g_p3 : RG p3 0 100) (g_h0_f6 : RG h0_f6 0 240) (g_h0_f7 : RG h0_f7 0 4) (g_h0_f8 : RG h0_f8 0 720) (g_h0_f9 : RG h0_f9 0 240) (g_h0_f10 : RG h0_f10 0 240) (g_h0_f11 : RG h0_f11 (-1) 240) (g_h0_f17 : RG h0_f17 0 1) (g_h0_f26 : RG h0_f26 8 8) (g_h0_f27 : RG h0_f27 0 3) (g_h0_f28 : RG h0_f28 0 8) (g_h0_f29 : RG h0_f29 0 3) (g_h0_f30 : RG h0_f30 0 4) (g_h0_f31 : RG h0_f31 0 1) (g_h0_f34 : RG h0_f34 (-1) 3) (g_h0_f41 : RG h0_f41 0 40) (g_h0_f51 : RG h0_f51 0 10) (g_h0_f53 : RG h0_f53 0 1) : Met l yX12_fogOf wf_c_X12_fogOf_8 ({ frames := 0, cells := 0, slots := 0, locals := 0 }) (va_Pc [.ref h0, .int p1, .int 8, .int p3, .long p4] (fun U => U.heap.size = sz ∧ va_P (dC, dI) vwCl (wd_c_X12_fogOf_8 h0 h0_f0 h0_1 h0_2 h0_3 h0_4 h0_5 h0_f6 h0_f7 h0_f8 h0_f9 h0_f10 h0_f11 h0_f12 h0_f13 h0_f14 h0_15 h0_16 h0_f17 h0_18 h0_19 h0_20 h0_21 h0_22 h0_23 h0_24 h0_25 h0_f26 h0_f27 h0_f28 h0_f29 h0_f30 h0_f31 h0_32 h0_33 h0_f34 h0_35 h0_36 h0_37 h0_38 h0_39 h0_40 h0_f41 h0_f42 h0_f43 h0_f44 h0_45 h0_46 h0_47 h0_48 h0_49 h0_50 h0_f51 h0_52 h0_f53 h0_38 h0_38k h0_38c) U.heap ∧ va_K (dC, dI) vwCl [(h0_38k, .int)] U ∧ va_D (fun _ => True) (wd_c_X12_fogOf_8 h0 h0_f0 h0_1 h0_2 h0_3 h0_4 h0_5 h0_f6 h0_f7 h0_f8 h0_f9 h0_f10 h0_f11 h0_f12 h0_f13 h0_f14 h0_15 h0_16 h0_f17 h0_18 h0_19 h0_20 h0_21 h0_22 h0_23 h0_24 h0_25 h0_f26 h0_f27 h0_f28 h0_f29 h0_f30 h0_f31 h0_32 h0_33 h0_f34 h0_35 h0_36 h0_37 h0_38 h0_39 h0_40 h0_f41 h0_f42 h0_f43 h0_f44 h0_45 h0_46 h0_47 h0_48 h0_49 h0_50 h0_f51 h0_52 h0_f53 h0_38 h0_38k h0_38c))) (va_Ql (fun (r : Int64) (u : Unit) => (LG r (-9223372036854775808) 9223372036854775807) ∨ (r = 0 ∧ RG h0_f27 1 3)) (fun (u : Unit) t => va_P (dC, dI) vwCl (wd_c_X12_fogOf_8 h0 h0_f0 h0_1 h0_2 h0_3 h0_4 h0_5 h0_f6 h0_f7 h0_f8 h0_f9 h0_f10 h0_f11 h0_f12 h0_f13 h0_f14 h0_15 h0_16 h0_f17 h0_18 h0_19 h0_20 h0_21 h0_22 h0_23 h0_24 h0_25 h0_f26 h0_f27 h0_f28 h0_f29 h0_f30 h0_f31 h0_32 h0_33 h0_f34 h0_35 h0_36 h0_37 h0_38 h0_39 h0_40 h0_f41 h0_f42 h0_f43 h0_f44 h0_45 h0_46 h0_47 h0_48 h0_49 h0_50 h0_f51 h0_52 h0_f53 h0_38 h0_38k h0_38c) t.heap ∧ va_K (dC, dI) vwCl [] t ∧ va_D (va_A (wd_c_X12_fogOf_8 h0 h0_f0 h0_1 h0_2 h0_3 h0_4 h0_5 h0_f6 h0_f7 h0_f8 h0_f9 h0_f10 h0_f11 h0_f12 h0_f13 h0_f14 h0_15 h0_16 h0_f17 h0_18 h0_19 h0_20 h0_21 h0_22 h0_23 h0_24 h0_25 h0_f26 h0_f27 h0_f28 h0_f29 h0_f30 h0_f31 h0_32 h0_33 h0_f34 h0_35 h0_36 h0_37 h0_38 h0_39 h0_40 h0_f41 h0_f42 h0_f43 h0_f44 h0_45 h0_46 h0_47 h0_48 h0_49 h0_50 h0_f51 h0_52 h0_f53 h0_38 h0_38k h0_38c) sz) (wd_c_X12_fogOf_8 h0 h0_f0 h0_1 h0_2 h0_3 h0_4 h0_5 h0_f6 h0_f7 h0_f8 h0_f9 h0_f10 h0_f11 h0_f12 h0_f13 h0_f14 h0_15 h0_16 h0_f17 h0_18 h0_19 h0_20 h0_21 h0_22 h0_23 h0_24 h0_25 h0_f26 h0_f27 h0_f28 h0_f29 h0_f30 h0_f31 h0_32 h0_33 h0_f34 h0_35 h0_36 h0_37 h0_38 h0_39 h0_40 h0_f41 h0_f42 h0_f43 h0_f44 h0_45 h0_46 h0_47 h0_48 h0_49 h0_50 h0_f51 h0_52 h0_f53 h0_38 h0_38k h0_38c)) (va_A (wd_c_X12_fogOf_8 h0 h0_f0 h0_1 h0_2 h0_3 h0_4 h0_5 h0_f6 h0_f7 h0_f8 h0_f9 h0_f10 h0_f11 h0_f12 h0_f13 h0_f14 h0_15 h0_16 h0_f17 h0_18 h0_19 h0_20 h0_21 h0_22 h0_23 h0_24 h0_25 h0_f26 h0_f27 h0_f28 h0_f29 h0_f30 h0_f31 h0_32 h0_33 h0_f34 h0_35 h0_36 h0_37 h0_38 h0_39 h0_40 h0_f41 h0_f42 h0_f43 h0_f44 h0_45 h0_46 h0_47 h0_48 h0_49 h0_50 h0_f51 h0_52 h0_f53 h0_38 h0_38k h0_38c) sz)) 0 0 (va_A (wd_c_X12_fogOf_8 h0 h0_f0 h0_1 h0_2 h0_3 h0_4 h0_5 h0_f6 h0_f7 h0_f8 h0_f9 h0_f10 h0_f11 h0_f12 h0_f13 h0_f14 h0_15 h0_16 h0_f17 h0_18 h0_19 h0_20 h0_21 h0_22 h0_23 h0_24 h0_25 h0_f26 h0_f27 h0_f28 h0_f29 h0_f30 h0_f31 h0_32 h0_33 h0_f34 h0_35 h0_36 h0_37 h0_38 h0_39 h0_40 h0_f41 h0_f42 h0_f43 h0_f44 h0_45 h0_46 h0_47 h0_48 h0_49 h0_50 h0_f51 h0_52 h0_f53 h0_38 h0_38k h0_38c) sz) := by
  refine Met.ofW (cc := cX12_fogOf) (maxL := 10) (ret := (some .long)) (by decide +kernel) rfl ?_
  intro p e s m args below meth c s₁ B hml hv
  obtain ⟨rfl, hsz, hP, hK, hD0⟩ := hv
  have hx := B.exec
  have hb := B.bytes
  have hr := B.returns
  have hts := atoms_spec (ws := wf_c_X12_fogOf_8) B.pre
  have hown : s.vm.findClass RX12 = some m.cls := findClass_of_methodNamed B.named
  have hlocks := B.notSynchronized
  subst hsz
  have hD := hD0.self (sz := s.heap.size)
  generalize hAe : va_A (wd_c_X12_fogOf_8 h0 h0_f0 h0_1 h0_2 h0_3 h0_4 h0_5 h0_f6 h0_f7 h0_f8 h0_f9 h0_f10 h0_f11 h0_f12 h0_f13 h0_f14 h0_15 h0_16 h0_f17 h0_18 h0_19 h0_20 h0_21 h0_22 h0_23 h0_24 h0_25 h0_f26 h0_f27 h0_f28 h0_f29 h0_f30 h0_f31 h0_32 h0_33 h0_f34 h0_35 h0_36 h0_37 h0_38 h0_39 h0_40 h0_f41 h0_f42 h0_f43 h0_f44 h0_45 h0_46 h0_47 h0_48 h0_49 h0_50 h0_f51 h0_52 h0_f53 h0_38 h0_38k h0_38c) s.heap.size = A at hD ⊢
  have hA : ∀ q : Nat, s.heap.size ≤ q → A q := fun q h => by rw [← hAe]; exact Or.inr h
  have hP : va_P (dC, dI) vwCl (wd_c_X12_fogOf_8 h0 h0_f0 h0_1 h0_2 h0_3 h0_4 h0_5 h0_f6 h0_f7 h0_f8 h0_f9 h0_f10 h0_f11 h0_f12 h0_f13 h0_f14 h0_15 h0_16 h0_f17 h0_18 h0_19 h0_20 h0_21 h0_22 h0_23 h0_24 h0_25 h0_f26 h0_f27 h0_f28 h0_f29 h0_f30 h0_f31 h0_32 h0_33 h0_f34 h0_35 h0_36 h0_37 h0_38 h0_39 h0_40 h0_f41 h0_f42 h0_f43 h0_f44 h0_45 h0_46 h0_47 h0_48 h0_49 h0_50 h0_f51 h0_52 h0_f53 h0_38 h0_38k h0_38c) s.heap := hP
  have hl := lv_entry ([.ref h0, .int p1, .int 8, .int p3, .long p4]) (n := 10) (Nat.le_of_ble_eq_true rfl)
  rw [lg_entry_eq]
  generalize (lg_sl ([.ref h0, .int p1, .int 8, .int p3, .long p4]) ++ List.replicate (10 - (lg_sl ([.ref h0, .int p1, .int 8, .int p3, .long p4])).length) Slot.unset).toArray = ls at hl ⊢
  have hl : lv_has ls 10 [(0, .ref h0), (1, .int p1), (2, .int 8), (3, .int p3), (4, .long p4)] := hl
  obtain ⟨H, hHe⟩ : ∃ H : Heap, s.heap = H := ⟨_, rfl⟩
  have hS : va_S A s.heap H [] := by rw [hHe]; exact va_S.rf
  have hP : va_P (dC, dI) vwCl (wd_c_X12_fogOf_8 h0 h0_f0 h0_1 h0_2 h0_3 h0_4 h0_5 h0_f6 h0_f7 h0_f8 h0_f9 h0_f10 h0_f11 h0_f12 h0_f13 h0_f14 h0_15 h0_16 h0_f17 h0_18 h0_19 h0_20 h0_21 h0_22 h0_23 h0_24 h0_25 h0_f26 h0_f27 h0_f28 h0_f29 h0_f30 h0_f31 h0_32 h0_33 h0_f34 h0_35 h0_36 h0_37 h0_38 h0_39 h0_40 h0_f41 h0_f42 h0_f43 h0_f44 h0_45 h0_46 h0_47 h0_48 h0_49 h0_50 h0_f51 h0_52 h0_f53 h0_38 h0_38k h0_38c) H := by rw [← hHe]; exact hP
  rw [hHe]
  refine wj (fun G hG hU => ?_)
  as_aux_lemma =>
  have J11 : ∀ (n11 : Nat) (j11_l6 : Int32) (hM11 : MU j11_l6 < n11) (g_h0_f10 : RG h0_f10 0 240) (g_h0_f11 : RG h0_f11 (-1) 240) (g_h0_f17 : RG h0_f17 0 1) (g_h0_f26 : RG h0_f26 8 8) (g_h0_f27 : RG h0_f27 0 3) (g_h0_f28 : RG h0_f28 0 8) (g_h0_f29 : RG h0_f29 0 3) (g_h0_f30 : RG h0_f30 0 4) (g_h0_f31 : RG h0_f31 0 1) (g_h0_f34 : RG h0_f34 (-1) 3) (g_h0_f41 : RG h0_f41 0 40) (g_h0_f51 : RG h0_f51 0 10) (g_h0_f53 : RG h0_f53 0 1) (g_h0_f6 : RG h0_f6 0 240) (g_h0_f7 : RG h0_f7 0 4) (g_h0_f8 : RG h0_f8 0 720) (g_h0_f9 : RG h0_f9 0 240) (g_j11_l6 : RG j11_l6 0 3) (g_p1 : RG p1 0 2) (g_p3 : RG p3 0 100) (H : Heap) (locs : List Loc) (ls : Array Slot) (hP : va_P (dC, dI) vwCl (wd_c_X12_fogOf_8 h0 h0_f0 h0_1 h0_2 h0_3 h0_4 h0_5 h0_f6 h0_f7 h0_f8 h0_f9 h0_f10 h0_f11 h0_f12 h0_f13 h0_f14 h0_15 h0_16 h0_f17 h0_18 h0_19 h0_20 h0_21 h0_22 h0_23 h0_24 h0_25 h0_f26 h0_f27 h0_f28 h0_f29 h0_f30 h0_f31 h0_32 h0_33 h0_f34 h0_35 h0_36 h0_37 h0_38 h0_39 h0_40 h0_f41 h0_f42 h0_f43 h0_f44 h0_45 h0_46 h0_47 h0_48 h0_49 h0_50 h0_f51 h0_52 h0_f53 h0_38 h0_38k h0_38c) H) (hD : va_D A (wd_c_X12_fogOf_8 h0 h0_f0 h0_1 h0_2 h0_3 h0_4 h0_5 h0_f6 h0_f7 h0_f8 h0_f9 h0_f10 h0_f11 h0_f12 h0_f13 h0_f14 h0_15 h0_16 h0_f17 h0_18 h0_19 h0_20 h0_21 h0_22 h0_23 h0_24 h0_25 h0_f26 h0_f27 h0_f28 h0_f29 h0_f30 h0_f31 h0_32 h0_33 h0_f34 h0_35 h0_36 h0_37 h0_38 h0_39 h0_40 h0_f41 h0_f42 h0_f43 h0_f44 h0_45 h0_46 h0_47 h0_48 h0_49 h0_50 h0_f51 h0_52 h0_f53 h0_38 h0_38k h0_38c)) (hS : va_S A s.heap H locs) (hl : lv_has ls 10 [(6, .int j11_l6), (0, .ref h0), (1, .int p1), (4, .long p4)]), G H locs (F0 m 11 ls []) := by
    as_aux_lemma =>
    intro n11
    induction n11 with
    | zero => intros; exact absurd (by assumption) (Nat.not_lt_zero _)
    | succ n11 ih11 =>
      intro j11_l6 hM11 g_h0_f10 g_h0_f11 g_h0_f17 g_h0_f26 g_h0_f27 g_h0_f28 g_h0_f29 g_h0_f30 g_h0_f31 g_h0_f34 g_h0_f41 g_h0_f51 g_h0_f53 g_h0_f6 g_h0_f7 g_h0_f8 g_h0_f9 g_j11_l6 g_p1 g_p3 H locs ls hP hD hS hl
      have J44 : ∀ (g_h0_f10 : RG h0_f10 0 240) (g_h0_f11 : RG h0_f11 (-1) 240) (g_h0_f17 : RG h0_f17 0 1) (g_h0_f26 : RG h0_f26 8 8) (g_h0_f27 : RG h0_f27 1 3) (g_h0_f28 : RG h0_f28 0 8) (g_h0_f29 : RG h0_f29 0 3) (g_h0_f30 : RG h0_f30 0 4) (g_h0_f31 : RG h0_f31 0 1) (g_h0_f34 : RG h0_f34 (-1) 3) (g_h0_f41 : RG h0_f41 0 40) (g_h0_f51 : RG h0_f51 0 10) (g_h0_f53 : RG h0_f53 0 1) (g_h0_f6 : RG h0_f6 0 240) (g_h0_f7 : RG h0_f7 0 4) (g_h0_f8 : RG h0_f8 0 720) (g_h0_f9 : RG h0_f9 0 240) (g_j11_l6 : RG j11_l6 0 2) (g_p1 : RG p1 0 2) (g_p3 : RG p3 0 100) (H : Heap) (locs : List Loc) (ls : Array Slot) (hP : va_P (dC, dI) vwCl (wd_c_X12_fogOf_8 h0 h0_f0 h0_1 h0_2 h0_3 h0_4 h0_5 h0_f6 h0_f7 h0_f8 h0_f9 h0_f10 h0_f11 h0_f12 h0_f13 h0_f14 h0_15 h0_16 h0_f17 h0_18 h0_19 h0_20 h0_21 h0_22 h0_23 h0_24 h0_25 h0_f26 h0_f27 h0_f28 h0_f29 h0_f30 h0_f31 h0_32 h0_33 h0_f34 h0_35 h0_36 h0_37 h0_38 h0_39 h0_40 h0_f41 h0_f42 h0_f43 h0_f44 h0_45 h0_46 h0_47 h0_48 h0_49 h0_50 h0_f51 h0_52 h0_f53 h0_38 h0_38k h0_38c) H) (hD : va_D A (wd_c_X12_fogOf_8 h0 h0_f0 h0_1 h0_2 h0_3 h0_4 h0_5 h0_f6 h0_f7 h0_f8 h0_f9 h0_f10 h0_f11 h0_f12 h0_f13 h0_f14 h0_15 h0_16 h0_f17 h0_18 h0_19 h0_20 h0_21 h0_22 h0_23 h0_24 h0_25 h0_f26 h0_f27 h0_f28 h0_f29 h0_f30 h0_f31 h0_32 h0_33 h0_f34 h0_35 h0_36 h0_37 h0_38 h0_39 h0_40 h0_f41 h0_f42 h0_f43 h0_f44 h0_45 h0_46 h0_47 h0_48 h0_49 h0_50 h0_f51 h0_52 h0_f53 h0_38 h0_38k h0_38c)) (hS : va_S A s.heap H locs) (hl : lv_has ls 10 [(6, .int j11_l6), (0, .ref h0), (1, .int p1), (4, .long p4)]), G H locs (F0 m 44 ls []) := by
        as_aux_lemma =>
        intro g_h0_f10 g_h0_f11 g_h0_f17 g_h0_f26 g_h0_f27 g_h0_f28 g_h0_f29 g_h0_f30 g_h0_f31 g_h0_f34 g_h0_f41 g_h0_f51 g_h0_f53 g_h0_f6 g_h0_f7 g_h0_f8 g_h0_f9 g_j11_l6 g_p1 g_p3 H locs ls hP hD hS hl
        refine hG _ _ _ ?_
        obtain ⟨x_1, ex_1⟩ : ∃ y : Int32, y = j11_l6 + 1 := ⟨_, rfl⟩
        have g_2 : RG x_1 1 3 := RG_add ex_1 g_j11_l6 (RG_k 1 1 rfl) (by decide +kernel)
        refine lv_iinc (v := x_1) (lv' := [(6, .int x_1), (0, .ref h0), (1, .int p1), (4, .long p4)]) hx hb dX12_fogOf_44 hl (k := 0) rfl (by rw [ex_1]; rfl) (Nat.le_of_ble_eq_true rfl) rfl (fun ls hl => ?_)
        refine lv_goto (tgt := 11) hx hb dX12_fogOf_47 rfl ?_
        exact hU _ _ _ (ih11 x_1 (mu_s (MU_add ex_1 g_j11_l6 (q := 1) rfl (by decide +kernel)) hM11) g_h0_f10 g_h0_f11 g_h0_f17 g_h0_f26 (RG_w g_h0_f27 (by decide +kernel)) g_h0_f28 g_h0_f29 g_h0_f30 g_h0_f31 g_h0_f34 g_h0_f41 g_h0_f51 g_h0_f53 g_h0_f6 g_h0_f7 g_h0_f8 g_h0_f9 (RG_w g_2 (by decide +kernel)) g_p1 g_p3 _ _ _ hP hD hS (lv_sub hl [0, 1, 2, 3] rfl))
      refine hG _ _ _ ?_
      refine lv_iload hx hb dX12_fogOf_11 (lv_at hl 0 rfl) ?_
      refine lv_aload_n hx hb dX12_fogOf_13 rfl (lv_at hl 1 rfl) ?_
      refine va_get (D := (dC, dI)) (ci := 12) (v := .int h0_f27) (C := RX12) (T := TX12) (N := 54) hx hb hts iw_c_X12_fogOf_8_X12 hown hK hP 0 rfl rfl 27 (by decide +kernel) (hts (.fieldLink RX12 312 "BuoyVoteModel" "boats" "I") (List.mem_of_getElem? (i := 2) rfl)) (fun _ h9 => h9) rfl dX12_fogOf_14 ?_
      refine lv_icmp_ge (tgt := 50) hx hb dX12_fogOf_17 rfl (fun c_3 => ?_) (fun c_3 => ?_)
      · refine lv_lload hx hb dX12_fogOf_50 (lv_at hl 3 rfl) ?_
        have hK9 := hK.sub (tys' := []) [] rfl
        exact W.lret (v := p4) hx hb hr (fun t ht hW => ⟨⟨p4, (), rfl, (Or.inl (LG_any p4)), by rw [ht]; exact hP, va_K.moved hW.alike hK9, hD⟩, hS.F ht⟩) hS.2.2 dX12_fogOf_52
      · have d_4 := Int32.not_le.mp c_3
        have g_5 : RG j11_l6 0 2 := RG_lt1 g_j11_l6 g_h0_f27 d_4 (by decide +kernel)
        have g_6 : RG h0_f27 1 3 := RG_lt2 g_j11_l6 g_h0_f27 d_4 (by decide +kernel)
        refine lv_iload hx hb dX12_fogOf_20 (lv_at hl 0 rfl) ?_
        as_aux_lemma =>
        refine lv_iload_n hx hb dX12_fogOf_22 rfl (lv_at hl 2 rfl) ?_
        refine lv_icmp_eq (tgt := 44) hx hb dX12_fogOf_23 rfl (fun c_7 => ?_) (fun c_7 => ?_)
        · exact hU _ _ _ (J44 g_h0_f10 g_h0_f11 g_h0_f17 g_h0_f26 g_6 g_h0_f28 g_h0_f29 g_h0_f30 g_h0_f31 g_h0_f34 g_h0_f41 g_h0_f51 g_h0_f53 g_h0_f6 g_h0_f7 g_h0_f8 g_h0_f9 g_5 g_p1 g_p3 _ _ _ hP hD hS (lv_sub hl [0, 1, 2, 3] rfl))
        · refine lv_aload_n hx hb dX12_fogOf_26 rfl (lv_at hl 1 rfl) ?_
          refine va_get (D := (dC, dI)) (ci := 12) (v := .ref h0_38) (C := RX12) (T := TX12) (N := 54) hx hb hts iw_c_X12_fogOf_8_X12 hown hK hP 0 rfl rfl 38 (by decide +kernel) (hts (.fieldLink RX12 81 "BuoyVoteModel" "tally" "[I") (List.mem_of_getElem? (i := 3) rfl)) (fun _ h9 => h9) rfl dX12_fogOf_27 ?_
          refine lv_iload hx hb dX12_fogOf_30 (lv_at hl 0 rfl) ?_
          refine va_iald hx hb hK hP 1 0 rfl rfl (RG_in g_5 (by decide +kernel)) dX12_fogOf_32 ?_
          refine lv_topi (fun x_8 ex_8 => ?_)
          refine lv_aload_n hx hb dX12_fogOf_33 rfl (lv_at hl 1 rfl) ?_
          refine va_get (D := (dC, dI)) (ci := 12) (v := .ref h0_38) (C := RX12) (T := TX12) (N := 54) hx hb hts iw_c_X12_fogOf_8_X12 hown hK hP 0 rfl rfl 38 (by decide +kernel) (hts (.fieldLink RX12 81 "BuoyVoteModel" "tally" "[I") (List.mem_of_getElem? (i := 3) rfl)) (fun _ h9 => h9) rfl dX12_fogOf_34 ?_
          refine lv_iload_n hx hb dX12_fogOf_37 rfl (lv_at hl 2 rfl) ?_
          refine va_iald hx hb hK hP 1 0 rfl rfl (RG_in g_p1 (by decide +kernel)) dX12_fogOf_38 ?_
          refine lv_topi (fun x_9 ex_9 => ?_)
          refine lv_icmp_lt (tgt := 44) hx hb dX12_fogOf_39 rfl (fun c_10 => ?_) (fun c_10 => ?_)
          · have g_11 : RG x_8 (-2147483648) 2147483646 := RG_lt1 (RG_any x_8) (RG_any x_9) c_10 (by decide +kernel)
            have g_12 : RG x_9 (-2147483647) 2147483647 := RG_lt2 (RG_any x_8) (RG_any x_9) c_10 (by decide +kernel)
            exact hU _ _ _ (J44 g_h0_f10 g_h0_f11 g_h0_f17 g_h0_f26 g_6 g_h0_f28 g_h0_f29 g_h0_f30 g_h0_f31 g_h0_f34 g_h0_f41 g_h0_f51 g_h0_f53 g_h0_f6 g_h0_f7 g_h0_f8 g_h0_f9 g_5 g_p1 g_p3 _ _ _ hP hD hS (lv_sub hl [0, 1, 2, 3] rfl))
          · have d_13 := Int32.not_lt.mp c_10
            refine lv_lconst (v := 0) hx hb dX12_fogOf_42 (by decide +kernel) ?_
            as_aux_lemma =>
            have hK9 := hK.sub (tys' := []) [] rfl
            exact W.lret (v := 0) hx hb hr (fun t ht hW => ⟨⟨0, (), rfl, (Or.inr ⟨rfl, g_6⟩), by rw [ht]; exact hP, va_K.moved hW.alike hK9, hD⟩, hS.F ht⟩) hS.2.2 dX12_fogOf_43
  refine hG _ _ _ ?_
  refine lv_iload_n hx hb dX12_fogOf_0 rfl (lv_at hl 2 rfl) ?_
  refine lv_aload_n hx hb dX12_fogOf_1 rfl (lv_at hl 0 rfl) ?_
  refine va_get (D := (dC, dI)) (ci := 12) (v := .int h0_f26) (C := RX12) (T := TX12) (N := 54) hx hb hts iw_c_X12_fogOf_8_X12 hown hK hP 0 rfl rfl 26 (by decide +kernel) (hts (.fieldLink RX12 309 "BuoyVoteModel" "buoys" "I") (List.mem_of_getElem? (i := 1) rfl)) (fun _ h9 => h9) rfl dX12_fogOf_2 ?_
  refine lv_icmp_ne (tgt := 53) hx hb dX12_fogOf_5 rfl (fun c_14 => ?_) (fun c_14 => ?_)
  · exact RG_dead (RG_ne1 g_h0_f26 (q := 8) rfl (fun q => c_14 q.symm) (a' := 9) (b' := 8) (by decide +kernel)) (by decide +kernel)
  · refine lv_iconst (v := 0) hx hb dX12_fogOf_8 kc_iconst_0 ?_
    refine lv_istore (lv' := [(6, .int 0), (0, .ref h0), (1, .int p1), (2, .int 8), (3, .int p3), (4, .long p4)]) hx hb dX12_fogOf_9 hl (Nat.le_of_ble_eq_true rfl) rfl (fun ls hl => ?_)
    exact hU _ _ _ (J11 _ 0 (Nat.lt_succ_self _) g_h0_f10 g_h0_f11 g_h0_f17 g_h0_f26 g_h0_f27 g_h0_f28 g_h0_f29 g_h0_f30 g_h0_f31 g_h0_f34 g_h0_f41 g_h0_f51 g_h0_f53 g_h0_f6 g_h0_f7 g_h0_f8 g_h0_f9 (RG_w (RG_k 0 0 rfl) (by decide +kernel)) g_p1 g_p3 _ _ _ hP hD hS (lv_sub hl [0, 1, 2, 5] rfl))
noncomputable def wd_c_X12_fogOf_7 (a0 : Nat) (a1 : Int32) (a2 : Nat) (a3 : Nat) (a4 : Nat) (a5 : Nat) (a6 : Nat) (a7 : Int32) (a8 : Int32) (a9 : Int32) (a10 : Int32) (a11 : Int32) (a12 : Int32) (a13 : Int32) (a14 : Int32) (a15 : Int32) (a16 : Nat) (a17 : Nat) (a18 : Int32) (a19 : Nat) (a20 : Nat) (a21 : Nat) (a22 : Nat) (a23 : Nat) (a24 : Nat) (a25 : Nat) (a26 : Nat) (a27 : Int32) (a28 : Int32) (a29 : Int32) (a30 : Int32) (a31 : Int32) (a32 : Int32) (a33 : Nat) (a34 : Nat) (a35 : Int32) (a36 : Nat) (a37 : Nat) (a38 : Nat) (a39 : Nat) (a40 : Nat) (a41 : Nat) (a42 : Int32) (a43 : Int64) (a44 : Int32) (a45 : Int32) (a46 : Nat) (a47 : Nat) (a48 : Nat) (a49 : Nat) (a50 : Nat) (a51 : Nat) (a52 : Int32) (a53 : Nat) (a54 : Int32) (a55 : Nat) (a56 : ClassId) (a57 : Nat → Int32) (a58 : Nat) (a59 : ClassId) (a60 : Nat → Int32) : va_W := [(a0, .inr (12, [.int a1, .ref a2, .ref a3, .ref a4, .ref a5, .ref a6, .int a7, .int a8, .int a9, .int a10, .int a11, .int a12, .int a13, .int a14, .int a15, .ref a16, .ref a17, .int a18, .ref a19, .ref a20, .ref a21, .ref a22, .ref a23, .ref a24, .ref a25, .ref a26, .int a27, .int a28, .int a29, .int a30, .int a31, .int a32, .ref a33, .ref a34, .int a35, .ref a36, .ref a37, .ref a38, .ref a39, .ref a40, .ref a41, .int a42, .long a43, .int a44, .int a45, .ref a46, .ref a47, .ref a48, .ref a49, .ref a50, .ref a51, .int a52, .ref a53, .int a54])), (a55, .inl (a56, 8, .inl a57)), (a58, .inl (a59, 3, .inl a60))]
noncomputable def wf_c_X12_fogOf_7 : List Cond := List.cons (.code yX12_fogOf cX12_fogOf 10 (some .long)) (@HAppend.hAppend (List Cond) (List Cond) (List Cond) _ [.fieldLink RX12 309 "BuoyVoteModel" "buoys" "I", .fieldLink RX12 84 "BuoyVoteModel" "leans" "[I", .constantLong RX12 545 (100), .methodLink RX12 541 yX12_fogOf, .instanceMethod yX12_fogOf, .selects RX12 yX12_fogOf yX12_fogOf, .initialized RX12, .fieldLink RX12 312 "BuoyVoteModel" "boats" "I", .fieldLink RX12 81 "BuoyVoteModel" "tally" "[I"] wsX120)
theorem iw_c_X12_fogOf_7_X12 : ∀ w ∈ wsX120, w ∈ wf_c_X12_fogOf_7 := fun w h => List.mem_cons_of_mem _ (List.mem_append_right _ h)
set_option maxRecDepth 20000 in
theorem gf_c_X12_fogOf_7_c_X12_fogOf_8 : GoodIn wf_c_X12_fogOf_7 (wsV RX12 541 RX12 yX12_fogOf wf_c_X12_fogOf_8) := goodIn_app (gi_l [4, 5, 6, 7] rfl rfl) (gi_cons (j := 0) rfl rfl (goodIn_app (gi_l [1, 8, 9] rfl rfl) (goodIn_sub iw_c_X12_fogOf_7_X12 gw_X12)))
set_option maxHeartbeats 4000000 in
set_option maxRecDepth 100000 in
theorem c_X12_fogOf_7 (l : Launch) (dC : Nat → ClassId) (dI : Nat → Nat → Nat) (sz : Nat) (h0 : Nat) (p1 : Int32) (p3 : Int32) (p4 : Int64) (h0_f0 : Int32) (h0_1 : Nat) (h0_2 : Nat) (h0_3 : Nat) (h0_4 : Nat) (h0_5 : Nat) (h0_f6 : Int32) (h0_f7 : Int32) (h0_f8 : Int32) (h0_f9 : Int32) (h0_f10 : Int32) (h0_f11 : Int32) (h0_f12 : Int32) (h0_f13 : Int32) (h0_f14 : Int32) (h0_15 : Nat) (h0_16 : Nat) (h0_f17 : Int32) (h0_18 : Nat) (h0_19 : Nat) (h0_20 : Nat) (h0_21 : Nat) (h0_22 : Nat) (h0_23 : Nat) (h0_24 : Nat) (h0_25 : Nat) (h0_f26 : Int32) (h0_f27 : Int32) (h0_f28 : Int32) (h0_f29 : Int32) (h0_f30 : Int32) (h0_f31 : Int32) (h0_32 : Nat) (h0_33 : Nat) (h0_f34 : Int32) (h0_35 : Nat) (h0_36 : Nat) (h0_37 : Nat) (h0_38 : Nat) (h0_39 : Nat) (h0_40 : Nat) (h0_f41 : Int32) (h0_f42 : Int64) (h0_f43 : Int32) (h0_f44 : Int32) (h0_45 : Nat) (h0_46 : Nat) (h0_47 : Nat) (h0_48 : Nat) (h0_49 : Nat) (h0_50 : Nat) (h0_f51 : Int32) (h0_52 : Nat) (h0_f53 : Int32) (h0_39k : ClassId) (h0_39c : Nat → Int32) (h0_38k : ClassId) (h0_38c : Nat → Int32) (g_p1 : RG p1 0 2) (g_p3 : RG p3 0 100) (g_h0_f6 : RG h0_f6 0 240) (g_h0_f7 : RG h0_f7 0 4) (g_h0_f8 : RG h0_f8 0 720) (g_h0_f9 : RG h0_f9 0 240) (g_h0_f10 : RG h0_f10 0 240) (g_h0_f11 : RG h0_f11 (-1) 240) (g_h0_f17 : RG h0_f17 0 1) (g_h0_f26 : RG h0_f26 7 8) (g_h0_f27 : RG h0_f27 0 3) (g_h0_f28 : RG h0_f28 0 8) (g_h0_f29 : RG h0_f29 0 3) (g_h0_f30 : RG h0_f30 0 4) (g_h0_f31 : RG h0_f31 0 1) (g_h0_f34 : RG h0_f34 (-1) 3) (g_h0_f41 : RG h0_f41 0 40) (g_h0_f51 : RG h0_f51 0 10) (g_h0_f53 : RG h0_f53 0 1) (a_h0_39c : AI h0_39c (-1) 2) : Met l yX12_fogOf wf_c_X12_fogOf_7 ({ frames := 1, cells := 0, slots := 0, locals := 29 }) (va_Pc [.ref h0, .int p1, .int 7, .int p3, .long p4] (fun U => U.heap.size = sz ∧ va_P (dC, dI) vwCl (wd_c_X12_fogOf_7 h0 h0_f0 h0_1 h0_2 h0_3 h0_4 h0_5 h0_f6 h0_f7 h0_f8 h0_f9 h0_f10 h0_f11 h0_f12 h0_f13 h0_f14 h0_15 h0_16 h0_f17 h0_18 h0_19 h0_20 h0_21 h0_22 h0_23 h0_24 h0_25 h0_f26 h0_f27 h0_f28 h0_f29 h0_f30 h0_f31 h0_32 h0_33 h0_f34 h0_35 h0_36 h0_37 h0_38 h0_39 h0_40 h0_f41 h0_f42 h0_f43 h0_f44 h0_45 h0_46 h0_47 h0_48 h0_49 h0_50 h0_f51 h0_52 h0_f53 h0_39 h0_39k h0_39c h0_38 h0_38k h0_38c) U.heap ∧ va_K (dC, dI) vwCl [(h0_39k, .int), (h0_38k, .int)] U ∧ va_D (fun _ => True) (wd_c_X12_fogOf_7 h0 h0_f0 h0_1 h0_2 h0_3 h0_4 h0_5 h0_f6 h0_f7 h0_f8 h0_f9 h0_f10 h0_f11 h0_f12 h0_f13 h0_f14 h0_15 h0_16 h0_f17 h0_18 h0_19 h0_20 h0_21 h0_22 h0_23 h0_24 h0_25 h0_f26 h0_f27 h0_f28 h0_f29 h0_f30 h0_f31 h0_32 h0_33 h0_f34 h0_35 h0_36 h0_37 h0_38 h0_39 h0_40 h0_f41 h0_f42 h0_f43 h0_f44 h0_45 h0_46 h0_47 h0_48 h0_49 h0_50 h0_f51 h0_52 h0_f53 h0_39 h0_39k h0_39c h0_38 h0_38k h0_38c))) (va_Ql (fun (r : Int64) (u : (Nat → Int32)) => (LG r (-9223372036854775808) 9223372036854775807) ∨ (r = 0 ∧ RG h0_f27 1 3)) (fun (u : (Nat → Int32)) t => va_P (dC, dI) vwCl (wd_c_X12_fogOf_7 h0 h0_f0 h0_1 h0_2 h0_3 h0_4 h0_5 h0_f6 h0_f7 h0_f8 h0_f9 h0_f10 h0_f11 h0_f12 h0_f13 h0_f14 h0_15 h0_16 h0_f17 h0_18 h0_19 h0_20 h0_21 h0_22 h0_23 h0_24 h0_25 h0_f26 h0_f27 h0_f28 h0_f29 h0_f30 h0_f31 h0_32 h0_33 h0_f34 h0_35 h0_36 h0_37 h0_38 h0_39 h0_40 h0_f41 h0_f42 h0_f43 h0_f44 h0_45 h0_46 h0_47 h0_48 h0_49 h0_50 h0_f51 h0_52 h0_f53 h0_39 h0_39k h0_39c h0_38 h0_38k (u)) t.heap ∧ va_K (dC, dI) vwCl [] t ∧ va_D (va_A (wd_c_X12_fogOf_7 h0 h0_f0 h0_1 h0_2 h0_3 h0_4 h0_5 h0_f6 h0_f7 h0_f8 h0_f9 h0_f10 h0_f11 h0_f12 h0_f13 h0_f14 h0_15 h0_16 h0_f17 h0_18 h0_19 h0_20 h0_21 h0_22 h0_23 h0_24 h0_25 h0_f26 h0_f27 h0_f28 h0_f29 h0_f30 h0_f31 h0_32 h0_33 h0_f34 h0_35 h0_36 h0_37 h0_38 h0_39 h0_40 h0_f41 h0_f42 h0_f43 h0_f44 h0_45 h0_46 h0_47 h0_48 h0_49 h0_50 h0_f51 h0_52 h0_f53 h0_39 h0_39k h0_39c h0_38 h0_38k h0_38c) sz) (wd_c_X12_fogOf_7 h0 h0_f0 h0_1 h0_2 h0_3 h0_4 h0_5 h0_f6 h0_f7 h0_f8 h0_f9 h0_f10 h0_f11 h0_f12 h0_f13 h0_f14 h0_15 h0_16 h0_f17 h0_18 h0_19 h0_20 h0_21 h0_22 h0_23 h0_24 h0_25 h0_f26 h0_f27 h0_f28 h0_f29 h0_f30 h0_f31 h0_32 h0_33 h0_f34 h0_35 h0_36 h0_37 h0_38 h0_39 h0_40 h0_f41 h0_f42 h0_f43 h0_f44 h0_45 h0_46 h0_47 h0_48 h0_49 h0_50 h0_f51 h0_52 h0_f53 h0_39 h0_39k h0_39c h0_38 h0_38k (u))) (va_A (wd_c_X12_fogOf_7 h0 h0_f0 h0_1 h0_2 h0_3 h0_4 h0_5 h0_f6 h0_f7 h0_f8 h0_f9 h0_f10 h0_f11 h0_f12 h0_f13 h0_f14 h0_15 h0_16 h0_f17 h0_18 h0_19 h0_20 h0_21 h0_22 h0_23 h0_24 h0_25 h0_f26 h0_f27 h0_f28 h0_f29 h0_f30 h0_f31 h0_32 h0_33 h0_f34 h0_35 h0_36 h0_37 h0_38 h0_39 h0_40 h0_f41 h0_f42 h0_f43 h0_f44 h0_45 h0_46 h0_47 h0_48 h0_49 h0_50 h0_f51 h0_52 h0_f53 h0_39 h0_39k h0_39c h0_38 h0_38k h0_38c) sz)) 0 0 (va_A (wd_c_X12_fogOf_7 h0 h0_f0 h0_1 h0_2 h0_3 h0_4 h0_5 h0_f6 h0_f7 h0_f8 h0_f9 h0_f10 h0_f11 h0_f12 h0_f13 h0_f14 h0_15 h0_16 h0_f17 h0_18 h0_19 h0_20 h0_21 h0_22 h0_23 h0_24 h0_25 h0_f26 h0_f27 h0_f28 h0_f29 h0_f30 h0_f31 h0_32 h0_33 h0_f34 h0_35 h0_36 h0_37 h0_38 h0_39 h0_40 h0_f41 h0_f42 h0_f43 h0_f44 h0_45 h0_46 h0_47 h0_48 h0_49 h0_50 h0_f51 h0_52 h0_f53 h0_39 h0_39k h0_39c h0_38 h0_38k h0_38c) sz) := by
  refine Met.ofW (cc := cX12_fogOf) (maxL := 10) (ret := (some .long)) (by decide +kernel) rfl ?_
  intro p e s m args below meth c s₁ B hml hv
  obtain ⟨rfl, hsz, hP, hK, hD0⟩ := hv
  have hx := B.exec
  have hb := B.bytes
  have hr := B.returns
  have hts := atoms_spec (ws := wf_c_X12_fogOf_7) B.pre
  have hown : s.vm.findClass RX12 = some m.cls := findClass_of_methodNamed B.named
  have hlocks := B.notSynchronized
  subst hsz
  have hD := hD0.self (sz := s.heap.size)
  generalize hAe : va_A (wd_c_X12_fogOf_7 h0 h0_f0 h0_1 h0_2 h0_3 h0_4 h0_5 h0_f6 h0_f7 h0_f8 h0_f9 h0_f10 h0_f11 h0_f12 h0_f13 h0_f14 h0_15 h0_16 h0_f17 h0_18 h0_19 h0_20 h0_21 h0_22 h0_23 h0_24 h0_25 h0_f26 h0_f27 h0_f28 h0_f29 h0_f30 h0_f31 h0_32 h0_33 h0_f34 h0_35 h0_36 h0_37 h0_38 h0_39 h0_40 h0_f41 h0_f42 h0_f43 h0_f44 h0_45 h0_46 h0_47 h0_48 h0_49 h0_50 h0_f51 h0_52 h0_f53 h0_39 h0_39k h0_39c h0_38 h0_38k h0_38c) s.heap.size = A at hD ⊢
  have hA : ∀ q : Nat, s.heap.size ≤ q → A q := fun q h => by rw [← hAe]; exact Or.inr h
  have hP : va_P (dC, dI) vwCl (wd_c_X12_fogOf_7 h0 h0_f0 h0_1 h0_2 h0_3 h0_4 h0_5 h0_f6 h0_f7 h0_f8 h0_f9 h0_f10 h0_f11 h0_f12 h0_f13 h0_f14 h0_15 h0_16 h0_f17 h0_18 h0_19 h0_20 h0_21 h0_22 h0_23 h0_24 h0_25 h0_f26 h0_f27 h0_f28 h0_f29 h0_f30 h0_f31 h0_32 h0_33 h0_f34 h0_35 h0_36 h0_37 h0_38 h0_39 h0_40 h0_f41 h0_f42 h0_f43 h0_f44 h0_45 h0_46 h0_47 h0_48 h0_49 h0_50 h0_f51 h0_52 h0_f53 h0_39 h0_39k h0_39c h0_38 h0_38k h0_38c) s.heap := hP
  have hl := lv_entry ([.ref h0, .int p1, .int 7, .int p3, .long p4]) (n := 10) (Nat.le_of_ble_eq_true rfl)
  rw [lg_entry_eq]
  generalize (lg_sl ([.ref h0, .int p1, .int 7, .int p3, .long p4]) ++ List.replicate (10 - (lg_sl ([.ref h0, .int p1, .int 7, .int p3, .long p4])).length) Slot.unset).toArray = ls at hl ⊢
  have hl : lv_has ls 10 [(0, .ref h0), (1, .int p1), (2, .int 7), (3, .int p3), (4, .long p4)] := hl
  obtain ⟨H, hHe⟩ : ∃ H : Heap, s.heap = H := ⟨_, rfl⟩
  have hS : va_S A s.heap H [] := by rw [hHe]; exact va_S.rf
  have hP : va_P (dC, dI) vwCl (wd_c_X12_fogOf_7 h0 h0_f0 h0_1 h0_2 h0_3 h0_4 h0_5 h0_f6 h0_f7 h0_f8 h0_f9 h0_f10 h0_f11 h0_f12 h0_f13 h0_f14 h0_15 h0_16 h0_f17 h0_18 h0_19 h0_20 h0_21 h0_22 h0_23 h0_24 h0_25 h0_f26 h0_f27 h0_f28 h0_f29 h0_f30 h0_f31 h0_32 h0_33 h0_f34 h0_35 h0_36 h0_37 h0_38 h0_39 h0_40 h0_f41 h0_f42 h0_f43 h0_f44 h0_45 h0_46 h0_47 h0_48 h0_49 h0_50 h0_f51 h0_52 h0_f53 h0_39 h0_39k h0_39c h0_38 h0_38k h0_38c) H := by rw [← hHe]; exact hP
  rw [hHe]
  refine wj (fun G hG hU => ?_)
  as_aux_lemma =>
  have J11 : ∀ (n11 : Nat) (j11_l6 : Int32) (hM11 : MU j11_l6 < n11) (g_h0_f10 : RG h0_f10 0 240) (g_h0_f11 : RG h0_f11 (-1) 240) (g_h0_f17 : RG h0_f17 0 1) (g_h0_f26 : RG h0_f26 7 7) (g_h0_f27 : RG h0_f27 0 3) (g_h0_f28 : RG h0_f28 0 8) (g_h0_f29 : RG h0_f29 0 3) (g_h0_f30 : RG h0_f30 0 4) (g_h0_f31 : RG h0_f31 0 1) (g_h0_f34 : RG h0_f34 (-1) 3) (g_h0_f41 : RG h0_f41 0 40) (g_h0_f51 : RG h0_f51 0 10) (g_h0_f53 : RG h0_f53 0 1) (g_h0_f6 : RG h0_f6 0 240) (g_h0_f7 : RG h0_f7 0 4) (g_h0_f8 : RG h0_f8 0 720) (g_h0_f9 : RG h0_f9 0 240) (g_j11_l6 : RG j11_l6 0 3) (g_p1 : RG p1 0 2) (g_p3 : RG p3 0 100) (H : Heap) (locs : List Loc) (ls : Array Slot) (hP : va_P (dC, dI) vwCl (wd_c_X12_fogOf_7 h0 h0_f0 h0_1 h0_2 h0_3 h0_4 h0_5 h0_f6 h0_f7 h0_f8 h0_f9 h0_f10 h0_f11 h0_f12 h0_f13 h0_f14 h0_15 h0_16 h0_f17 h0_18 h0_19 h0_20 h0_21 h0_22 h0_23 h0_24 h0_25 h0_f26 h0_f27 h0_f28 h0_f29 h0_f30 h0_f31 h0_32 h0_33 h0_f34 h0_35 h0_36 h0_37 h0_38 h0_39 h0_40 h0_f41 h0_f42 h0_f43 h0_f44 h0_45 h0_46 h0_47 h0_48 h0_49 h0_50 h0_f51 h0_52 h0_f53 h0_39 h0_39k h0_39c h0_38 h0_38k h0_38c) H) (hD : va_D A (wd_c_X12_fogOf_7 h0 h0_f0 h0_1 h0_2 h0_3 h0_4 h0_5 h0_f6 h0_f7 h0_f8 h0_f9 h0_f10 h0_f11 h0_f12 h0_f13 h0_f14 h0_15 h0_16 h0_f17 h0_18 h0_19 h0_20 h0_21 h0_22 h0_23 h0_24 h0_25 h0_f26 h0_f27 h0_f28 h0_f29 h0_f30 h0_f31 h0_32 h0_33 h0_f34 h0_35 h0_36 h0_37 h0_38 h0_39 h0_40 h0_f41 h0_f42 h0_f43 h0_f44 h0_45 h0_46 h0_47 h0_48 h0_49 h0_50 h0_f51 h0_52 h0_f53 h0_39 h0_39k h0_39c h0_38 h0_38k h0_38c)) (hS : va_S A s.heap H locs) (hl : lv_has ls 10 [(6, .int j11_l6), (0, .ref h0), (1, .int p1), (4, .long p4)]), G H locs (F0 m 11 ls []) := by
    as_aux_lemma =>
    intro n11
    induction n11 with
    | zero => intros; exact absurd (by assumption) (Nat.not_lt_zero _)
    | succ n11 ih11 =>
      intro j11_l6 hM11 g_h0_f10 g_h0_f11 g_h0_f17 g_h0_f26 g_h0_f27 g_h0_f28 g_h0_f29 g_h0_f30 g_h0_f31 g_h0_f34 g_h0_f41 g_h0_f51 g_h0_f53 g_h0_f6 g_h0_f7 g_h0_f8 g_h0_f9 g_j11_l6 g_p1 g_p3 H locs ls hP hD hS hl
      have J44 : ∀ (g_h0_f10 : RG h0_f10 0 240) (g_h0_f11 : RG h0_f11 (-1) 240) (g_h0_f17 : RG h0_f17 0 1) (g_h0_f26 : RG h0_f26 7 7) (g_h0_f27 : RG h0_f27 1 3) (g_h0_f28 : RG h0_f28 0 8) (g_h0_f29 : RG h0_f29 0 3) (g_h0_f30 : RG h0_f30 0 4) (g_h0_f31 : RG h0_f31 0 1) (g_h0_f34 : RG h0_f34 (-1) 3) (g_h0_f41 : RG h0_f41 0 40) (g_h0_f51 : RG h0_f51 0 10) (g_h0_f53 : RG h0_f53 0 1) (g_h0_f6 : RG h0_f6 0 240) (g_h0_f7 : RG h0_f7 0 4) (g_h0_f8 : RG h0_f8 0 720) (g_h0_f9 : RG h0_f9 0 240) (g_j11_l6 : RG j11_l6 0 2) (g_p1 : RG p1 0 2) (g_p3 : RG p3 0 100) (H : Heap) (locs : List Loc) (ls : Array Slot) (hP : va_P (dC, dI) vwCl (wd_c_X12_fogOf_7 h0 h0_f0 h0_1 h0_2 h0_3 h0_4 h0_5 h0_f6 h0_f7 h0_f8 h0_f9 h0_f10 h0_f11 h0_f12 h0_f13 h0_f14 h0_15 h0_16 h0_f17 h0_18 h0_19 h0_20 h0_21 h0_22 h0_23 h0_24 h0_25 h0_f26 h0_f27 h0_f28 h0_f29 h0_f30 h0_f31 h0_32 h0_33 h0_f34 h0_35 h0_36 h0_37 h0_38 h0_39 h0_40 h0_f41 h0_f42 h0_f43 h0_f44 h0_45 h0_46 h0_47 h0_48 h0_49 h0_50 h0_f51 h0_52 h0_f53 h0_39 h0_39k h0_39c h0_38 h0_38k h0_38c) H) (hD : va_D A (wd_c_X12_fogOf_7 h0 h0_f0 h0_1 h0_2 h0_3 h0_4 h0_5 h0_f6 h0_f7 h0_f8 h0_f9 h0_f10 h0_f11 h0_f12 h0_f13 h0_f14 h0_15 h0_16 h0_f17 h0_18 h0_19 h0_20 h0_21 h0_22 h0_23 h0_24 h0_25 h0_f26 h0_f27 h0_f28 h0_f29 h0_f30 h0_f31 h0_32 h0_33 h0_f34 h0_35 h0_36 h0_37 h0_38 h0_39 h0_40 h0_f41 h0_f42 h0_f43 h0_f44 h0_45 h0_46 h0_47 h0_48 h0_49 h0_50 h0_f51 h0_52 h0_f53 h0_39 h0_39k h0_39c h0_38 h0_38k h0_38c)) (hS : va_S A s.heap H locs) (hl : lv_has ls 10 [(6, .int j11_l6), (0, .ref h0), (1, .int p1), (4, .long p4)]), G H locs (F0 m 44 ls []) := by
        as_aux_lemma =>
        intro g_h0_f10 g_h0_f11 g_h0_f17 g_h0_f26 g_h0_f27 g_h0_f28 g_h0_f29 g_h0_f30 g_h0_f31 g_h0_f34 g_h0_f41 g_h0_f51 g_h0_f53 g_h0_f6 g_h0_f7 g_h0_f8 g_h0_f9 g_j11_l6 g_p1 g_p3 H locs ls hP hD hS hl
        refine hG _ _ _ ?_
        obtain ⟨x_1, ex_1⟩ : ∃ y : Int32, y = j11_l6 + 1 := ⟨_, rfl⟩
        have g_2 : RG x_1 1 3 := RG_add ex_1 g_j11_l6 (RG_k 1 1 rfl) (by decide +kernel)
        refine lv_iinc (v := x_1) (lv' := [(6, .int x_1), (0, .ref h0), (1, .int p1), (4, .long p4)]) hx hb dX12_fogOf_44 hl (k := 0) rfl (by rw [ex_1]; rfl) (Nat.le_of_ble_eq_true rfl) rfl (fun ls hl => ?_)
        refine lv_goto (tgt := 11) hx hb dX12_fogOf_47 rfl ?_
        exact hU _ _ _ (ih11 x_1 (mu_s (MU_add ex_1 g_j11_l6 (q := 1) rfl (by decide +kernel)) hM11) g_h0_f10 g_h0_f11 g_h0_f17 g_h0_f26 (RG_w g_h0_f27 (by decide +kernel)) g_h0_f28 g_h0_f29 g_h0_f30 g_h0_f31 g_h0_f34 g_h0_f41 g_h0_f51 g_h0_f53 g_h0_f6 g_h0_f7 g_h0_f8 g_h0_f9 (RG_w g_2 (by decide +kernel)) g_p1 g_p3 _ _ _ hP hD hS (lv_sub hl [0, 1, 2, 3] rfl))
      refine hG _ _ _ ?_
      refine lv_iload hx hb dX12_fogOf_11 (lv_at hl 0 rfl) ?_
      refine lv_aload_n hx hb dX12_fogOf_13 rfl (lv_at hl 1 rfl) ?_
      refine va_get (D := (dC, dI)) (ci := 12) (v := .int h0_f27) (C := RX12) (T := TX12) (N := 54) hx hb hts iw_c_X12_fogOf_7_X12 hown hK hP 0 rfl rfl 27 (by decide +kernel) (hts (.fieldLink RX12 312 "BuoyVoteModel" "boats" "I") (List.mem_of_getElem? (i := 8) rfl)) (fun _ h9 => h9) rfl dX12_fogOf_14 ?_
      refine lv_icmp_ge (tgt := 50) hx hb dX12_fogOf_17 rfl (fun c_3 => ?_) (fun c_3 => ?_)
      · refine lv_lload hx hb dX12_fogOf_50 (lv_at hl 3 rfl) ?_
        have hK9 := hK.sub (tys' := []) [] rfl
        exact W.lret (v := p4) hx hb hr (fun t ht hW => ⟨⟨p4, h0_38c, rfl, (Or.inl (LG_any p4)), by rw [ht]; exact hP, va_K.moved hW.alike hK9, hD⟩, hS.F ht⟩) hS.2.2 dX12_fogOf_52
      · have d_4 := Int32.not_le.mp c_3
        have g_5 : RG j11_l6 0 2 := RG_lt1 g_j11_l6 g_h0_f27 d_4 (by decide +kernel)
        have g_6 : RG h0_f27 1 3 := RG_lt2 g_j11_l6 g_h0_f27 d_4 (by decide +kernel)
        refine lv_iload hx hb dX12_fogOf_20 (lv_at hl 0 rfl) ?_
        as_aux_lemma =>
        refine lv_iload_n hx hb dX12_fogOf_22 rfl (lv_at hl 2 rfl) ?_
        refine lv_icmp_eq (tgt := 44) hx hb dX12_fogOf_23 rfl (fun c_7 => ?_) (fun c_7 => ?_)
        · exact hU _ _ _ (J44 g_h0_f10 g_h0_f11 g_h0_f17 g_h0_f26 g_6 g_h0_f28 g_h0_f29 g_h0_f30 g_h0_f31 g_h0_f34 g_h0_f41 g_h0_f51 g_h0_f53 g_h0_f6 g_h0_f7 g_h0_f8 g_h0_f9 g_5 g_p1 g_p3 _ _ _ hP hD hS (lv_sub hl [0, 1, 2, 3] rfl))
        · refine lv_aload_n hx hb dX12_fogOf_26 rfl (lv_at hl 1 rfl) ?_
          refine va_get (D := (dC, dI)) (ci := 12) (v := .ref h0_38) (C := RX12) (T := TX12) (N := 54) hx hb hts iw_c_X12_fogOf_7_X12 hown hK hP 0 rfl rfl 38 (by decide +kernel) (hts (.fieldLink RX12 81 "BuoyVoteModel" "tally" "[I") (List.mem_of_getElem? (i := 9) rfl)) (fun _ h9 => h9) rfl dX12_fogOf_27 ?_
          refine lv_iload hx hb dX12_fogOf_30 (lv_at hl 0 rfl) ?_
          refine va_iald hx hb hK hP 2 1 rfl rfl (RG_in g_5 (by decide +kernel)) dX12_fogOf_32 ?_
          refine lv_topi (fun x_8 ex_8 => ?_)
          refine lv_aload_n hx hb dX12_fogOf_33 rfl (lv_at hl 1 rfl) ?_
          refine va_get (D := (dC, dI)) (ci := 12) (v := .ref h0_38) (C := RX12) (T := TX12) (N := 54) hx hb hts iw_c_X12_fogOf_7_X12 hown hK hP 0 rfl rfl 38 (by decide +kernel) (hts (.fieldLink RX12 81 "BuoyVoteModel" "tally" "[I") (List.mem_of_getElem? (i := 9) rfl)) (fun _ h9 => h9) rfl dX12_fogOf_34 ?_
          refine lv_iload_n hx hb dX12_fogOf_37 rfl (lv_at hl 2 rfl) ?_
          refine va_iald hx hb hK hP 2 1 rfl rfl (RG_in g_p1 (by decide +kernel)) dX12_fogOf_38 ?_
          refine lv_topi (fun x_9 ex_9 => ?_)
          refine lv_icmp_lt (tgt := 44) hx hb dX12_fogOf_39 rfl (fun c_10 => ?_) (fun c_10 => ?_)
          · have g_11 : RG x_8 (-2147483648) 2147483646 := RG_lt1 (RG_any x_8) (RG_any x_9) c_10 (by decide +kernel)
            have g_12 : RG x_9 (-2147483647) 2147483647 := RG_lt2 (RG_any x_8) (RG_any x_9) c_10 (by decide +kernel)
            exact hU _ _ _ (J44 g_h0_f10 g_h0_f11 g_h0_f17 g_h0_f26 g_6 g_h0_f28 g_h0_f29 g_h0_f30 g_h0_f31 g_h0_f34 g_h0_f41 g_h0_f51 g_h0_f53 g_h0_f6 g_h0_f7 g_h0_f8 g_h0_f9 g_5 g_p1 g_p3 _ _ _ hP hD hS (lv_sub hl [0, 1, 2, 3] rfl))
          · have d_13 := Int32.not_lt.mp c_10
            refine lv_lconst (v := 0) hx hb dX12_fogOf_42 (by decide +kernel) ?_
            as_aux_lemma =>
            have hK9 := hK.sub (tys' := []) [] rfl
            exact W.lret (v := 0) hx hb hr (fun t ht hW => ⟨⟨0, h0_38c, rfl, (Or.inr ⟨rfl, g_6⟩), by rw [ht]; exact hP, va_K.moved hW.alike hK9, hD⟩, hS.F ht⟩) hS.2.2 dX12_fogOf_43
  refine hG _ _ _ ?_
  refine lv_iload_n hx hb dX12_fogOf_0 rfl (lv_at hl 2 rfl) ?_
  refine lv_aload_n hx hb dX12_fogOf_1 rfl (lv_at hl 0 rfl) ?_
  refine va_get (D := (dC, dI)) (ci := 12) (v := .int h0_f26) (C := RX12) (T := TX12) (N := 54) hx hb hts iw_c_X12_fogOf_7_X12 hown hK hP 0 rfl rfl 26 (by decide +kernel) (hts (.fieldLink RX12 309 "BuoyVoteModel" "buoys" "I") (List.mem_of_getElem? (i := 1) rfl)) (fun _ h9 => h9) rfl dX12_fogOf_2 ?_
  refine lv_icmp_ne (tgt := 53) hx hb dX12_fogOf_5 rfl (fun c_14 => ?_) (fun c_14 => ?_)
  · have g_15 : RG h0_f26 8 8 := RG_ne1 g_h0_f26 (q := 7) rfl (fun q => c_14 q.symm) (by decide +kernel)
    refine lv_aload_n hx hb dX12_fogOf_53 rfl (lv_at hl 0 rfl) ?_
    refine va_get (D := (dC, dI)) (ci := 12) (v := .ref h0_39) (C := RX12) (T := TX12) (N := 54) hx hb hts iw_c_X12_fogOf_7_X12 hown hK hP 0 rfl rfl 39 (by decide +kernel) (hts (.fieldLink RX12 84 "BuoyVoteModel" "leans" "[I") (List.mem_of_getElem? (i := 2) rfl)) (fun _ h9 => h9) rfl dX12_fogOf_54 ?_
    refine lv_iload_n hx hb dX12_fogOf_57 rfl (lv_at hl 2 rfl) ?_
    refine va_iald hx hb hK hP 1 0 rfl rfl (RG_in (RG_k 7 7 rfl) (by decide +kernel)) dX12_fogOf_58 ?_
    refine lv_topi (fun x_16 ex_16 => ?_)
    have g_17 : RG x_16 (-1) 2 := AI_rd a_h0_39c ex_16
    refine lv_iconst (v := (-1)) hx hb dX12_fogOf_59 kc_iconst_m1 ?_
    as_aux_lemma =>
    refine lv_icmp_ne (tgt := 75) hx hb dX12_fogOf_60 rfl (fun c_18 => ?_) (fun c_18 => ?_)
    · have g_19 : RG x_16 0 2 := RG_ne1 g_17 (q := (-1)) rfl c_18 (by decide +kernel)
      refine lv_lload hx hb dX12_fogOf_75 (lv_at hl 4 rfl) ?_
      refine lv_iload_n hx hb dX12_fogOf_77 rfl (lv_at hl 3 rfl) ?_
      refine lv_i2l (v := p3.toInt64) hx hb dX12_fogOf_78 rfl ?_
      refine lv_topl (fun x_20 ex_20 => ?_)
      have g_21 : LG x_20 0 100 := LG_i2l ex_20 g_p3
      refine lv_lmul hx hb dX12_fogOf_79 ?_
      refine lv_topl (fun x_22 ex_22 => ?_)
      refine lv_ldc2 hx hb hown (hts (.constantLong RX12 545 (100)) (List.mem_of_getElem? (i := 3) rfl)) dX12_fogOf_80 ?_
      refine lv_ldiv hx hb dX12_fogOf_83 (by decide +kernel) ?_
      refine lv_topl (fun x_23 ex_23 => ?_)
      refine lv_lstore (lv' := [(6, .long x_23), (0, .ref h0), (1, .int p1), (2, .int 7), (3, .int p3), (4, .long p4)]) hx hb dX12_fogOf_84 hl (Nat.le_of_ble_eq_true rfl) rfl (fun ls hl => ?_)
      refine lv_aload_n hx hb dX12_fogOf_86 rfl (lv_at hl 1 rfl) ?_
      as_aux_lemma =>
      refine lv_iload_n hx hb dX12_fogOf_87 rfl (lv_at hl 2 rfl) ?_
      refine lv_iload_n hx hb dX12_fogOf_88 rfl (lv_at hl 3 rfl) ?_
      refine lv_iconst (v := 1) hx hb dX12_fogOf_89 kc_iconst_1 ?_
      refine lv_iadd hx hb dX12_fogOf_90 ?_
      refine lv_topi (fun x_24 ex_24 => ?_)
      obtain rfl : x_24 = 8 := ex_24.trans (by decide +kernel)
      refine lv_iload_n hx hb dX12_fogOf_91 rfl (lv_at hl 4 rfl) ?_
      refine lv_lload hx hb dX12_fogOf_92 (lv_at hl 0 rfl) ?_
      obtain ⟨hPc, hDc, hFc, hqc⟩ := cl_cut (wc := (wd_c_X12_fogOf_8 h0 h0_f0 h0_1 h0_2 h0_3 h0_4 h0_5 h0_f6 h0_f7 h0_f8 h0_f9 h0_f10 h0_f11 h0_f12 h0_f13 h0_f14 h0_15 h0_16 h0_f17 h0_18 h0_19 h0_20 h0_21 h0_22 h0_23 h0_24 h0_25 h0_f26 h0_f27 h0_f28 h0_f29 h0_f30 h0_f31 h0_32 h0_33 h0_f34 h0_35 h0_36 h0_37 h0_38 h0_39 h0_40 h0_f41 h0_f42 h0_f43 h0_f44 h0_45 h0_46 h0_47 h0_48 h0_49 h0_50 h0_f51 h0_52 h0_f53 h0_38 h0_38k h0_38c)) hP hD hS hA [0, 2] (by decide +kernel) rfl
      have hKc := hK.sub (tys' := [(h0_38k, .int)]) [1] rfl
      have hrv := va_recv hKc hPc (ci := 12) (q0 := 0) rfl rfl
      refine va_calll (va_runV (As := [.int p1, .int 8, .int p3, .long x_23]) (rest := []) ⟨hx, hb, hml, hown, hts⟩ (c_X12_fogOf_8 l dC dI H.size h0 p1 p3 x_23 h0_f0 h0_1 h0_2 h0_3 h0_4 h0_5 h0_f6 h0_f7 h0_f8 h0_f9 h0_f10 h0_f11 h0_f12 h0_f13 h0_f14 h0_15 h0_16 h0_f17 h0_18 h0_19 h0_20 h0_21 h0_22 h0_23 h0_24 h0_25 h0_f26 h0_f27 h0_f28 h0_f29 h0_f30 h0_f31 h0_32 h0_33 h0_f34 h0_35 h0_36 h0_37 h0_38 h0_39 h0_40 h0_f41 h0_f42 h0_f43 h0_f44 h0_45 h0_46 h0_47 h0_48 h0_49 h0_50 h0_f51 h0_52 h0_f53 h0_38k h0_38c g_p1 g_p3 g_h0_f6 g_h0_f7 g_h0_f8 g_h0_f9 g_h0_f10 g_h0_f11 g_h0_f17 g_15 g_h0_f27 g_h0_f28 g_h0_f29 g_h0_f30 g_h0_f31 g_h0_f34 g_h0_f41 g_h0_f51 g_h0_f53) (cwV 4 hts gf_c_X12_fogOf_7_c_X12_fogOf_8 rfl rfl rfl mdV_X12_fogOf ⟨Nat.le_of_ble_eq_true rfl, Nat.le_of_ble_eq_true rfl⟩) ⟨fun a U g mk q => by obtain ⟨q0, q1, qP, qK, qD⟩ := q; exact ⟨q0, q1, qP, va_K.moved (u := U) (U := U.calling g mk a) (Vm.Alike.refl U.vm) qK, qD⟩, hrv, fun U hU hW => ⟨rfl, by rw [hU], by rw [hU]; exact hPc, va_K.moved hW.alike hKc, hDc.weaken (fun _ _ _ _ => trivial)⟩⟩ rfl rfl hl.1 rfl (lv_room (Nat.le_of_ble_eq_true rfl)) dX12_fogOf_94 ⟨Nat.le_of_ble_eq_true rfl, Nat.le_of_ble_eq_true rfl⟩) hS (fun q _ h => hFc q h) hFc (fun r_25 u t H1 locs ht hvm hw hB hz1 hk1 hS => ?_)
      obtain ⟨hP1, hK1, hD1⟩ := hB
      rw [ht] at hP1
      obtain ⟨hP, hD⟩ := cl_put (w1 := (wd_c_X12_fogOf_8 h0 h0_f0 h0_1 h0_2 h0_3 h0_4 h0_5 h0_f6 h0_f7 h0_f8 h0_f9 h0_f10 h0_f11 h0_f12 h0_f13 h0_f14 h0_15 h0_16 h0_f17 h0_18 h0_19 h0_20 h0_21 h0_22 h0_23 h0_24 h0_25 h0_f26 h0_f27 h0_f28 h0_f29 h0_f30 h0_f31 h0_32 h0_33 h0_f34 h0_35 h0_36 h0_37 h0_38 h0_39 h0_40 h0_f41 h0_f42 h0_f43 h0_f44 h0_45 h0_46 h0_47 h0_48 h0_49 h0_50 h0_f51 h0_52 h0_f53 h0_38 h0_38k h0_38c)) (nw := (wd_c_X12_fogOf_7 h0 h0_f0 h0_1 h0_2 h0_3 h0_4 h0_5 h0_f6 h0_f7 h0_f8 h0_f9 h0_f10 h0_f11 h0_f12 h0_f13 h0_f14 h0_15 h0_16 h0_f17 h0_18 h0_19 h0_20 h0_21 h0_22 h0_23 h0_24 h0_25 h0_f26 h0_f27 h0_f28 h0_f29 h0_f30 h0_f31 h0_32 h0_33 h0_f34 h0_35 h0_36 h0_37 h0_38 h0_39 h0_40 h0_f41 h0_f42 h0_f43 h0_f44 h0_45 h0_46 h0_47 h0_48 h0_49 h0_50 h0_f51 h0_52 h0_f53 h0_39 h0_39k h0_39c h0_38 h0_38k h0_38c)) hP hD [0, 2] [3, 1, 4] 3 rfl hqc (by decide +kernel) rfl hk1 hFc hP1 hD1
      generalize H1 = H at hP hS ⊢
      as_aux_lemma =>
      rcases hw with h_26 | ⟨h_27, h_28⟩
      · refine lv_lstore (lv' := [(8, .long r_25), (6, .long x_23), (0, .ref h0), (1, .int p1), (2, .int 7), (3, .int p3), (4, .long p4)]) hx hb dX12_fogOf_97 hl (Nat.le_of_ble_eq_true rfl) rfl (fun ls hl => ?_)
        refine lv_aload_n hx hb dX12_fogOf_99 rfl (lv_at hl 2 rfl) ?_
        refine va_get (D := (dC, dI)) (ci := 12) (v := .ref h0_38) (C := RX12) (T := TX12) (N := 54) hx hb hts iw_c_X12_fogOf_7_X12 hown hK hP 0 rfl rfl 38 (by decide +kernel) (hts (.fieldLink RX12 81 "BuoyVoteModel" "tally" "[I") (List.mem_of_getElem? (i := 9) rfl)) (fun _ h9 => h9) rfl dX12_fogOf_100 ?_
        refine lv_aload_n hx hb dX12_fogOf_103 rfl (lv_at hl 2 rfl) ?_
        refine va_get (D := (dC, dI)) (ci := 12) (v := .ref h0_39) (C := RX12) (T := TX12) (N := 54) hx hb hts iw_c_X12_fogOf_7_X12 hown hK hP 0 rfl rfl 39 (by decide +kernel) (hts (.fieldLink RX12 84 "BuoyVoteModel" "leans" "[I") (List.mem_of_getElem? (i := 2) rfl)) (fun _ h9 => h9) rfl dX12_fogOf_104 ?_
        refine lv_iload_n hx hb dX12_fogOf_107 rfl (lv_at hl 4 rfl) ?_
        refine va_iald hx hb hK hP 1 0 rfl rfl (RG_in (RG_k 7 7 rfl) (by decide +kernel)) dX12_fogOf_108 ?_
        refine lv_topi (fun x_29 ex_29 => ?_)
        obtain rfl : x_16 = x_29 := (ex_29.trans ex_16.symm).symm
        refine lv_dup2_11 hx hb dX12_fogOf_109 rfl rfl ?_
        refine va_iald hx hb hK hP 2 1 rfl rfl (RG_in g_19 (by decide +kernel)) dX12_fogOf_110 ?_
        refine lv_topi (fun x_30 ex_30 => ?_)
        refine lv_iconst (v := 1) hx hb dX12_fogOf_111 kc_iconst_1 ?_
        as_aux_lemma =>
        refine lv_iadd hx hb dX12_fogOf_112 ?_
        refine lv_topi (fun x_31 ex_31 => ?_)
        refine va_iast hx hb hK hP hD hS 2 1 rfl rfl (RG_in g_19 (by decide +kernel)) dX12_fogOf_113 (fun H locs hP hD hS => ?_)
        have hP : va_P (dC, dI) vwCl (wd_c_X12_fogOf_7 h0 h0_f0 h0_1 h0_2 h0_3 h0_4 h0_5 h0_f6 h0_f7 h0_f8 h0_f9 h0_f10 h0_f11 h0_f12 h0_f13 h0_f14 h0_15 h0_16 h0_f17 h0_18 h0_19 h0_20 h0_21 h0_22 h0_23 h0_24 h0_25 h0_f26 h0_f27 h0_f28 h0_f29 h0_f30 h0_f31 h0_32 h0_33 h0_f34 h0_35 h0_36 h0_37 h0_38 h0_39 h0_40 h0_f41 h0_f42 h0_f43 h0_f44 h0_45 h0_46 h0_47 h0_48 h0_49 h0_50 h0_f51 h0_52 h0_f53 h0_39 h0_39k h0_39c h0_38 h0_38k (upd h0_38c (x_16 : Int32).toNatClampNeg x_31)) H := hP
        have hD : va_D A (wd_c_X12_fogOf_7 h0 h0_f0 h0_1 h0_2 h0_3 h0_4 h0_5 h0_f6 h0_f7 h0_f8 h0_f9 h0_f10 h0_f11 h0_f12 h0_f13 h0_f14 h0_15 h0_16 h0_f17 h0_18 h0_19 h0_20 h0_21 h0_22 h0_23 h0_24 h0_25 h0_f26 h0_f27 h0_f28 h0_f29 h0_f30 h0_f31 h0_32 h0_33 h0_f34 h0_35 h0_36 h0_37 h0_38 h0_39 h0_40 h0_f41 h0_f42 h0_f43 h0_f44 h0_45 h0_46 h0_47 h0_48 h0_49 h0_50 h0_f51 h0_52 h0_f53 h0_39 h0_39k h0_39c h0_38 h0_38k (upd h0_38c (x_16 : Int32).toNatClampNeg x_31)) := hD
        have l_33 : (upd h0_38c (x_16 : Int32).toNatClampNeg x_31) (x_16 : Int32).toNatClampNeg = x_31 := pk_us
        generalize (upd h0_38c (x_16 : Int32).toNatClampNeg x_31) = w_32 at hP hD l_33
        have hP : va_P (dC, dI) vwCl (wd_c_X12_fogOf_7 h0 h0_f0 h0_1 h0_2 h0_3 h0_4 h0_5 h0_f6 h0_f7 h0_f8 h0_f9 h0_f10 h0_f11 h0_f12 h0_f13 h0_f14 h0_15 h0_16 h0_f17 h0_18 h0_19 h0_20 h0_21 h0_22 h0_23 h0_24 h0_25 h0_f26 h0_f27 h0_f28 h0_f29 h0_f30 h0_f31 h0_32 h0_33 h0_f34 h0_35 h0_36 h0_37 h0_38 h0_39 h0_40 h0_f41 h0_f42 h0_f43 h0_f44 h0_45 h0_46 h0_47 h0_48 h0_49 h0_50 h0_f51 h0_52 h0_f53 h0_39 h0_39k h0_39c h0_38 h0_38k w_32) H := hP
        have hD : va_D A (wd_c_X12_fogOf_7 h0 h0_f0 h0_1 h0_2 h0_3 h0_4 h0_5 h0_f6 h0_f7 h0_f8 h0_f9 h0_f10 h0_f11 h0_f12 h0_f13 h0_f14 h0_15 h0_16 h0_f17 h0_18 h0_19 h0_20 h0_21 h0_22 h0_23 h0_24 h0_25 h0_f26 h0_f27 h0_f28 h0_f29 h0_f30 h0_f31 h0_32 h0_33 h0_f34 h0_35 h0_36 h0_37 h0_38 h0_39 h0_40 h0_f41 h0_f42 h0_f43 h0_f44 h0_45 h0_46 h0_47 h0_48 h0_49 h0_50 h0_f51 h0_52 h0_f53 h0_39 h0_39k h0_39c h0_38 h0_38k w_32) := hD
        refine lv_lload hx hb dX12_fogOf_114 (lv_at hl 0 rfl) ?_
        refine lv_aload_n hx hb dX12_fogOf_116 rfl (lv_at hl 2 rfl) ?_
        refine lv_iload_n hx hb dX12_fogOf_117 rfl (lv_at hl 3 rfl) ?_
        refine lv_iload_n hx hb dX12_fogOf_118 rfl (lv_at hl 4 rfl) ?_
        refine lv_iconst (v := 1) hx hb dX12_fogOf_119 kc_iconst_1 ?_
        as_aux_lemma =>
        refine lv_iadd hx hb dX12_fogOf_120 ?_
        refine lv_topi (fun x_34 ex_34 => ?_)
        obtain rfl : x_34 = 8 := ex_34.trans (by decide +kernel)
        refine lv_iload_n hx hb dX12_fogOf_121 rfl (lv_at hl 5 rfl) ?_
        refine lv_lload hx hb dX12_fogOf_122 (lv_at hl 6 rfl) ?_
        refine lv_lload hx hb dX12_fogOf_124 (lv_at hl 1 rfl) ?_
        refine lv_lsub hx hb dX12_fogOf_126 ?_
        refine lv_topl (fun x_35 ex_35 => ?_)
        obtain ⟨hPc, hDc, hFc, hqc⟩ := cl_cut (wc := (wd_c_X12_fogOf_8 h0 h0_f0 h0_1 h0_2 h0_3 h0_4 h0_5 h0_f6 h0_f7 h0_f8 h0_f9 h0_f10 h0_f11 h0_f12 h0_f13 h0_f14 h0_15 h0_16 h0_f17 h0_18 h0_19 h0_20 h0_21 h0_22 h0_23 h0_24 h0_25 h0_f26 h0_f27 h0_f28 h0_f29 h0_f30 h0_f31 h0_32 h0_33 h0_f34 h0_35 h0_36 h0_37 h0_38 h0_39 h0_40 h0_f41 h0_f42 h0_f43 h0_f44 h0_45 h0_46 h0_47 h0_48 h0_49 h0_50 h0_f51 h0_52 h0_f53 h0_38 h0_38k w_32)) hP hD hS hA [0, 2] (by decide +kernel) rfl
        have hKc := hK.sub (tys' := [(h0_38k, .int)]) [1] rfl
        have hrv := va_recv hKc hPc (ci := 12) (q0 := 0) rfl rfl
        refine va_calll (va_runV (As := [.int p1, .int 8, .int p3, .long x_35]) (rest := [.long r_25]) ⟨hx, hb, hml, hown, hts⟩ (c_X12_fogOf_8 l dC dI H.size h0 p1 p3 x_35 h0_f0 h0_1 h0_2 h0_3 h0_4 h0_5 h0_f6 h0_f7 h0_f8 h0_f9 h0_f10 h0_f11 h0_f12 h0_f13 h0_f14 h0_15 h0_16 h0_f17 h0_18 h0_19 h0_20 h0_21 h0_22 h0_23 h0_24 h0_25 h0_f26 h0_f27 h0_f28 h0_f29 h0_f30 h0_f31 h0_32 h0_33 h0_f34 h0_35 h0_36 h0_37 h0_38 h0_39 h0_40 h0_f41 h0_f42 h0_f43 h0_f44 h0_45 h0_46 h0_47 h0_48 h0_49 h0_50 h0_f51 h0_52 h0_f53 h0_38k w_32 g_p1 g_p3 g_h0_f6 g_h0_f7 g_h0_f8 g_h0_f9 g_h0_f10 g_h0_f11 g_h0_f17 g_15 g_h0_f27 g_h0_f28 g_h0_f29 g_h0_f30 g_h0_f31 g_h0_f34 g_h0_f41 g_h0_f51 g_h0_f53) (cwV 4 hts gf_c_X12_fogOf_7_c_X12_fogOf_8 rfl rfl rfl mdV_X12_fogOf ⟨Nat.le_of_ble_eq_true rfl, Nat.le_of_ble_eq_true rfl⟩) ⟨fun a U g mk q => by obtain ⟨q0, q1, qP, qK, qD⟩ := q; exact ⟨q0, q1, qP, va_K.moved (u := U) (U := U.calling g mk a) (Vm.Alike.refl U.vm) qK, qD⟩, hrv, fun U hU hW => ⟨rfl, by rw [hU], by rw [hU]; exact hPc, va_K.moved hW.alike hKc, hDc.weaken (fun _ _ _ _ => trivial)⟩⟩ rfl rfl hl.1 rfl (lv_room (Nat.le_of_ble_eq_true rfl)) dX12_fogOf_127 ⟨Nat.le_of_ble_eq_true rfl, Nat.le_of_ble_eq_true rfl⟩) hS (fun q _ h => hFc q h) hFc (fun r_36 u t H1 locs ht hvm hw hB hz1 hk1 hS => ?_)
        obtain ⟨hP1, hK1, hD1⟩ := hB
        rw [ht] at hP1
        obtain ⟨hP, hD⟩ := cl_put (w1 := (wd_c_X12_fogOf_8 h0 h0_f0 h0_1 h0_2 h0_3 h0_4 h0_5 h0_f6 h0_f7 h0_f8 h0_f9 h0_f10 h0_f11 h0_f12 h0_f13 h0_f14 h0_15 h0_16 h0_f17 h0_18 h0_19 h0_20 h0_21 h0_22 h0_23 h0_24 h0_25 h0_f26 h0_f27 h0_f28 h0_f29 h0_f30 h0_f31 h0_32 h0_33 h0_f34 h0_35 h0_36 h0_37 h0_38 h0_39 h0_40 h0_f41 h0_f42 h0_f43 h0_f44 h0_45 h0_46 h0_47 h0_48 h0_49 h0_50 h0_f51 h0_52 h0_f53 h0_38 h0_38k w_32)) (nw := (wd_c_X12_fogOf_7 h0 h0_f0 h0_1 h0_2 h0_3 h0_4 h0_5 h0_f6 h0_f7 h0_f8 h0_f9 h0_f10 h0_f11 h0_f12 h0_f13 h0_f14 h0_15 h0_16 h0_f17 h0_18 h0_19 h0_20 h0_21 h0_22 h0_23 h0_24 h0_25 h0_f26 h0_f27 h0_f28 h0_f29 h0_f30 h0_f31 h0_32 h0_33 h0_f34 h0_35 h0_36 h0_37 h0_38 h0_39 h0_40 h0_f41 h0_f42 h0_f43 h0_f44 h0_45 h0_46 h0_47 h0_48 h0_49 h0_50 h0_f51 h0_52 h0_f53 h0_39 h0_39k h0_39c h0_38 h0_38k w_32)) hP hD [0, 2] [3, 1, 4] 3 rfl hqc (by decide +kernel) rfl hk1 hFc hP1 hD1
        generalize H1 = H at hP hS ⊢
        as_aux_lemma =>
        rcases hw with h_37 | ⟨h_38, h_39⟩
        · refine lv_ladd hx hb dX12_fogOf_130 ?_
          refine lv_topl (fun x_40 ex_40 => ?_)
          refine lv_lstore (lv' := [(8, .long x_40), (6, .long x_23), (0, .ref h0), (1, .int p1), (2, .int 7), (3, .int p3), (4, .long p4)]) hx hb dX12_fogOf_131 hl (Nat.le_of_ble_eq_true rfl) rfl (fun ls hl => ?_)
          refine lv_aload_n hx hb dX12_fogOf_133 rfl (lv_at hl 2 rfl) ?_
          refine va_get (D := (dC, dI)) (ci := 12) (v := .ref h0_38) (C := RX12) (T := TX12) (N := 54) hx hb hts iw_c_X12_fogOf_7_X12 hown hK hP 0 rfl rfl 38 (by decide +kernel) (hts (.fieldLink RX12 81 "BuoyVoteModel" "tally" "[I") (List.mem_of_getElem? (i := 9) rfl)) (fun _ h9 => h9) rfl dX12_fogOf_134 ?_
          refine lv_aload_n hx hb dX12_fogOf_137 rfl (lv_at hl 2 rfl) ?_
          refine va_get (D := (dC, dI)) (ci := 12) (v := .ref h0_39) (C := RX12) (T := TX12) (N := 54) hx hb hts iw_c_X12_fogOf_7_X12 hown hK hP 0 rfl rfl 39 (by decide +kernel) (hts (.fieldLink RX12 84 "BuoyVoteModel" "leans" "[I") (List.mem_of_getElem? (i := 2) rfl)) (fun _ h9 => h9) rfl dX12_fogOf_138 ?_
          refine lv_iload_n hx hb dX12_fogOf_141 rfl (lv_at hl 4 rfl) ?_
          refine va_iald hx hb hK hP 1 0 rfl rfl (RG_in (RG_k 7 7 rfl) (by decide +kernel)) dX12_fogOf_142 ?_
          refine lv_topi (fun x_41 ex_41 => ?_)
          obtain rfl : x_16 = x_41 := (ex_41.trans ex_16.symm).symm
          refine lv_dup2_11 hx hb dX12_fogOf_143 rfl rfl ?_
          refine va_iald hx hb hK hP 2 1 rfl rfl (RG_in g_19 (by decide +kernel)) dX12_fogOf_144 ?_
          as_aux_lemma =>
          refine lv_topi (fun x_42 ex_42 => ?_)
          obtain rfl : x_31 = x_42 := (ex_42.trans l_33).symm
          refine lv_iconst (v := 1) hx hb dX12_fogOf_145 kc_iconst_1 ?_
          refine lv_isub hx hb dX12_fogOf_146 ?_
          refine lv_topi (fun x_43 ex_43 => ?_)
          refine va_iast hx hb hK hP hD hS 2 1 rfl rfl (RG_in g_19 (by decide +kernel)) dX12_fogOf_147 (fun H locs hP hD hS => ?_)
          have hP : va_P (dC, dI) vwCl (wd_c_X12_fogOf_7 h0 h0_f0 h0_1 h0_2 h0_3 h0_4 h0_5 h0_f6 h0_f7 h0_f8 h0_f9 h0_f10 h0_f11 h0_f12 h0_f13 h0_f14 h0_15 h0_16 h0_f17 h0_18 h0_19 h0_20 h0_21 h0_22 h0_23 h0_24 h0_25 h0_f26 h0_f27 h0_f28 h0_f29 h0_f30 h0_f31 h0_32 h0_33 h0_f34 h0_35 h0_36 h0_37 h0_38 h0_39 h0_40 h0_f41 h0_f42 h0_f43 h0_f44 h0_45 h0_46 h0_47 h0_48 h0_49 h0_50 h0_f51 h0_52 h0_f53 h0_39 h0_39k h0_39c h0_38 h0_38k (upd w_32 (x_16 : Int32).toNatClampNeg x_43)) H := hP
          have hD : va_D A (wd_c_X12_fogOf_7 h0 h0_f0 h0_1 h0_2 h0_3 h0_4 h0_5 h0_f6 h0_f7 h0_f8 h0_f9 h0_f10 h0_f11 h0_f12 h0_f13 h0_f14 h0_15 h0_16 h0_f17 h0_18 h0_19 h0_20 h0_21 h0_22 h0_23 h0_24 h0_25 h0_f26 h0_f27 h0_f28 h0_f29 h0_f30 h0_f31 h0_32 h0_33 h0_f34 h0_35 h0_36 h0_37 h0_38 h0_39 h0_40 h0_f41 h0_f42 h0_f43 h0_f44 h0_45 h0_46 h0_47 h0_48 h0_49 h0_50 h0_f51 h0_52 h0_f53 h0_39 h0_39k h0_39c h0_38 h0_38k (upd w_32 (x_16 : Int32).toNatClampNeg x_43)) := hD
          have l_45 : (upd w_32 (x_16 : Int32).toNatClampNeg x_43) (x_16 : Int32).toNatClampNeg = x_43 := pk_us
          generalize (upd w_32 (x_16 : Int32).toNatClampNeg x_43) = w_44 at hP hD l_45
          have hP : va_P (dC, dI) vwCl (wd_c_X12_fogOf_7 h0 h0_f0 h0_1 h0_2 h0_3 h0_4 h0_5 h0_f6 h0_f7 h0_f8 h0_f9 h0_f10 h0_f11 h0_f12 h0_f13 h0_f14 h0_15 h0_16 h0_f17 h0_18 h0_19 h0_20 h0_21 h0_22 h0_23 h0_24 h0_25 h0_f26 h0_f27 h0_f28 h0_f29 h0_f30 h0_f31 h0_32 h0_33 h0_f34 h0_35 h0_36 h0_37 h0_38 h0_39 h0_40 h0_f41 h0_f42 h0_f43 h0_f44 h0_45 h0_46 h0_47 h0_48 h0_49 h0_50 h0_f51 h0_52 h0_f53 h0_39 h0_39k h0_39c h0_38 h0_38k w_44) H := hP
          have hD : va_D A (wd_c_X12_fogOf_7 h0 h0_f0 h0_1 h0_2 h0_3 h0_4 h0_5 h0_f6 h0_f7 h0_f8 h0_f9 h0_f10 h0_f11 h0_f12 h0_f13 h0_f14 h0_15 h0_16 h0_f17 h0_18 h0_19 h0_20 h0_21 h0_22 h0_23 h0_24 h0_25 h0_f26 h0_f27 h0_f28 h0_f29 h0_f30 h0_f31 h0_32 h0_33 h0_f34 h0_35 h0_36 h0_37 h0_38 h0_39 h0_40 h0_f41 h0_f42 h0_f43 h0_f44 h0_45 h0_46 h0_47 h0_48 h0_49 h0_50 h0_f51 h0_52 h0_f53 h0_39 h0_39k h0_39c h0_38 h0_38k w_44) := hD
          refine lv_lload hx hb dX12_fogOf_148 (lv_at hl 0 rfl) ?_
          have hK9 := hK.sub (tys' := []) [] rfl
          exact W.lret (v := x_40) hx hb hr (fun t ht hW => ⟨⟨x_40, w_44, rfl, (Or.inl (LG_any x_40)), by rw [ht]; exact hP, va_K.moved hW.alike hK9, hD⟩, hS.F ht⟩) hS.2.2 dX12_fogOf_150
        · rw [h_38]
          refine lv_ladd hx hb dX12_fogOf_130 ?_
          as_aux_lemma =>
          refine lv_topl (fun x_46 ex_46 => ?_)
          refine lv_lstore (lv' := [(8, .long x_46), (6, .long x_23), (0, .ref h0), (1, .int p1), (2, .int 7), (3, .int p3), (4, .long p4)]) hx hb dX12_fogOf_131 hl (Nat.le_of_ble_eq_true rfl) rfl (fun ls hl => ?_)
          refine lv_aload_n hx hb dX12_fogOf_133 rfl (lv_at hl 2 rfl) ?_
          refine va_get (D := (dC, dI)) (ci := 12) (v := .ref h0_38) (C := RX12) (T := TX12) (N := 54) hx hb hts iw_c_X12_fogOf_7_X12 hown hK hP 0 rfl rfl 38 (by decide +kernel) (hts (.fieldLink RX12 81 "BuoyVoteModel" "tally" "[I") (List.mem_of_getElem? (i := 9) rfl)) (fun _ h9 => h9) rfl dX12_fogOf_134 ?_
          refine lv_aload_n hx hb dX12_fogOf_137 rfl (lv_at hl 2 rfl) ?_
          refine va_get (D := (dC, dI)) (ci := 12) (v := .ref h0_39) (C := RX12) (T := TX12) (N := 54) hx hb hts iw_c_X12_fogOf_7_X12 hown hK hP 0 rfl rfl 39 (by decide +kernel) (hts (.fieldLink RX12 84 "BuoyVoteModel" "leans" "[I") (List.mem_of_getElem? (i := 2) rfl)) (fun _ h9 => h9) rfl dX12_fogOf_138 ?_
          refine lv_iload_n hx hb dX12_fogOf_141 rfl (lv_at hl 4 rfl) ?_
          refine va_iald hx hb hK hP 1 0 rfl rfl (RG_in (RG_k 7 7 rfl) (by decide +kernel)) dX12_fogOf_142 ?_
          refine lv_topi (fun x_47 ex_47 => ?_)
          obtain rfl : x_16 = x_47 := (ex_47.trans ex_16.symm).symm
          refine lv_dup2_11 hx hb dX12_fogOf_143 rfl rfl ?_
          refine va_iald hx hb hK hP 2 1 rfl rfl (RG_in g_19 (by decide +kernel)) dX12_fogOf_144 ?_
          refine lv_topi (fun x_48 ex_48 => ?_)
          obtain rfl : x_31 = x_48 := (ex_48.trans l_33).symm
          refine lv_iconst (v := 1) hx hb dX12_fogOf_145 kc_iconst_1 ?_
          as_aux_lemma =>
          refine lv_isub hx hb dX12_fogOf_146 ?_
          refine lv_topi (fun x_49 ex_49 => ?_)
          refine va_iast hx hb hK hP hD hS 2 1 rfl rfl (RG_in g_19 (by decide +kernel)) dX12_fogOf_147 (fun H locs hP hD hS => ?_)
          have hP : va_P (dC, dI) vwCl (wd_c_X12_fogOf_7 h0 h0_f0 h0_1 h0_2 h0_3 h0_4 h0_5 h0_f6 h0_f7 h0_f8 h0_f9 h0_f10 h0_f11 h0_f12 h0_f13 h0_f14 h0_15 h0_16 h0_f17 h0_18 h0_19 h0_20 h0_21 h0_22 h0_23 h0_24 h0_25 h0_f26 h0_f27 h0_f28 h0_f29 h0_f30 h0_f31 h0_32 h0_33 h0_f34 h0_35 h0_36 h0_37 h0_38 h0_39 h0_40 h0_f41 h0_f42 h0_f43 h0_f44 h0_45 h0_46 h0_47 h0_48 h0_49 h0_50 h0_f51 h0_52 h0_f53 h0_39 h0_39k h0_39c h0_38 h0_38k (upd w_32 (x_16 : Int32).toNatClampNeg x_49)) H := hP
          have hD : va_D A (wd_c_X12_fogOf_7 h0 h0_f0 h0_1 h0_2 h0_3 h0_4 h0_5 h0_f6 h0_f7 h0_f8 h0_f9 h0_f10 h0_f11 h0_f12 h0_f13 h0_f14 h0_15 h0_16 h0_f17 h0_18 h0_19 h0_20 h0_21 h0_22 h0_23 h0_24 h0_25 h0_f26 h0_f27 h0_f28 h0_f29 h0_f30 h0_f31 h0_32 h0_33 h0_f34 h0_35 h0_36 h0_37 h0_38 h0_39 h0_40 h0_f41 h0_f42 h0_f43 h0_f44 h0_45 h0_46 h0_47 h0_48 h0_49 h0_50 h0_f51 h0_52 h0_f53 h0_39 h0_39k h0_39c h0_38 h0_38k (upd w_32 (x_16 : Int32).toNatClampNeg x_49)) := hD
          have l_51 : (upd w_32 (x_16 : Int32).toNatClampNeg x_49) (x_16 : Int32).toNatClampNeg = x_49 := pk_us
          generalize (upd w_32 (x_16 : Int32).toNatClampNeg x_49) = w_50 at hP hD l_51
          have hP : va_P (dC, dI) vwCl (wd_c_X12_fogOf_7 h0 h0_f0 h0_1 h0_2 h0_3 h0_4 h0_5 h0_f6 h0_f7 h0_f8 h0_f9 h0_f10 h0_f11 h0_f12 h0_f13 h0_f14 h0_15 h0_16 h0_f17 h0_18 h0_19 h0_20 h0_21 h0_22 h0_23 h0_24 h0_25 h0_f26 h0_f27 h0_f28 h0_f29 h0_f30 h0_f31 h0_32 h0_33 h0_f34 h0_35 h0_36 h0_37 h0_38 h0_39 h0_40 h0_f41 h0_f42 h0_f43 h0_f44 h0_45 h0_46 h0_47 h0_48 h0_49 h0_50 h0_f51 h0_52 h0_f53 h0_39 h0_39k h0_39c h0_38 h0_38k w_50) H := hP
          have hD : va_D A (wd_c_X12_fogOf_7 h0 h0_f0 h0_1 h0_2 h0_3 h0_4 h0_5 h0_f6 h0_f7 h0_f8 h0_f9 h0_f10 h0_f11 h0_f12 h0_f13 h0_f14 h0_15 h0_16 h0_f17 h0_18 h0_19 h0_20 h0_21 h0_22 h0_23 h0_24 h0_25 h0_f26 h0_f27 h0_f28 h0_f29 h0_f30 h0_f31 h0_32 h0_33 h0_f34 h0_35 h0_36 h0_37 h0_38 h0_39 h0_40 h0_f41 h0_f42 h0_f43 h0_f44 h0_45 h0_46 h0_47 h0_48 h0_49 h0_50 h0_f51 h0_52 h0_f53 h0_39 h0_39k h0_39c h0_38 h0_38k w_50) := hD
          refine lv_lload hx hb dX12_fogOf_148 (lv_at hl 0 rfl) ?_
          have hK9 := hK.sub (tys' := []) [] rfl
          exact W.lret (v := x_46) hx hb hr (fun t ht hW => ⟨⟨x_46, w_50, rfl, (Or.inl (LG_any x_46)), by rw [ht]; exact hP, va_K.moved hW.alike hK9, hD⟩, hS.F ht⟩) hS.2.2 dX12_fogOf_150
      · rw [h_27]
        refine lv_lstore (lv' := [(8, .long 0), (6, .long x_23), (0, .ref h0), (1, .int p1), (2, .int 7), (3, .int p3), (4, .long p4)]) hx hb dX12_fogOf_97 hl (Nat.le_of_ble_eq_true rfl) rfl (fun ls hl => ?_)
        as_aux_lemma =>
        refine lv_aload_n hx hb dX12_fogOf_99 rfl (lv_at hl 2 rfl) ?_
        refine va_get (D := (dC, dI)) (ci := 12) (v := .ref h0_38) (C := RX12) (T := TX12) (N := 54) hx hb hts iw_c_X12_fogOf_7_X12 hown hK hP 0 rfl rfl 38 (by decide +kernel) (hts (.fieldLink RX12 81 "BuoyVoteModel" "tally" "[I") (List.mem_of_getElem? (i := 9) rfl)) (fun _ h9 => h9) rfl dX12_fogOf_100 ?_
        refine lv_aload_n hx hb dX12_fogOf_103 rfl (lv_at hl 2 rfl) ?_
        refine va_get (D := (dC, dI)) (ci := 12) (v := .ref h0_39) (C := RX12) (T := TX12) (N := 54) hx hb hts iw_c_X12_fogOf_7_X12 hown hK hP 0 rfl rfl 39 (by decide +kernel) (hts (.fieldLink RX12 84 "BuoyVoteModel" "leans" "[I") (List.mem_of_getElem? (i := 2) rfl)) (fun _ h9 => h9) rfl dX12_fogOf_104 ?_
        refine lv_iload_n hx hb dX12_fogOf_107 rfl (lv_at hl 4 rfl) ?_
        refine va_iald hx hb hK hP 1 0 rfl rfl (RG_in (RG_k 7 7 rfl) (by decide +kernel)) dX12_fogOf_108 ?_
        refine lv_topi (fun x_52 ex_52 => ?_)
        obtain rfl : x_16 = x_52 := (ex_52.trans ex_16.symm).symm
        refine lv_dup2_11 hx hb dX12_fogOf_109 rfl rfl ?_
        refine va_iald hx hb hK hP 2 1 rfl rfl (RG_in g_19 (by decide +kernel)) dX12_fogOf_110 ?_
        refine lv_topi (fun x_53 ex_53 => ?_)
        refine lv_iconst (v := 1) hx hb dX12_fogOf_111 kc_iconst_1 ?_
        refine lv_iadd hx hb dX12_fogOf_112 ?_
        refine lv_topi (fun x_54 ex_54 => ?_)
        as_aux_lemma =>
        refine va_iast hx hb hK hP hD hS 2 1 rfl rfl (RG_in g_19 (by decide +kernel)) dX12_fogOf_113 (fun H locs hP hD hS => ?_)
        have hP : va_P (dC, dI) vwCl (wd_c_X12_fogOf_7 h0 h0_f0 h0_1 h0_2 h0_3 h0_4 h0_5 h0_f6 h0_f7 h0_f8 h0_f9 h0_f10 h0_f11 h0_f12 h0_f13 h0_f14 h0_15 h0_16 h0_f17 h0_18 h0_19 h0_20 h0_21 h0_22 h0_23 h0_24 h0_25 h0_f26 h0_f27 h0_f28 h0_f29 h0_f30 h0_f31 h0_32 h0_33 h0_f34 h0_35 h0_36 h0_37 h0_38 h0_39 h0_40 h0_f41 h0_f42 h0_f43 h0_f44 h0_45 h0_46 h0_47 h0_48 h0_49 h0_50 h0_f51 h0_52 h0_f53 h0_39 h0_39k h0_39c h0_38 h0_38k (upd h0_38c (x_16 : Int32).toNatClampNeg x_54)) H := hP
        have hD : va_D A (wd_c_X12_fogOf_7 h0 h0_f0 h0_1 h0_2 h0_3 h0_4 h0_5 h0_f6 h0_f7 h0_f8 h0_f9 h0_f10 h0_f11 h0_f12 h0_f13 h0_f14 h0_15 h0_16 h0_f17 h0_18 h0_19 h0_20 h0_21 h0_22 h0_23 h0_24 h0_25 h0_f26 h0_f27 h0_f28 h0_f29 h0_f30 h0_f31 h0_32 h0_33 h0_f34 h0_35 h0_36 h0_37 h0_38 h0_39 h0_40 h0_f41 h0_f42 h0_f43 h0_f44 h0_45 h0_46 h0_47 h0_48 h0_49 h0_50 h0_f51 h0_52 h0_f53 h0_39 h0_39k h0_39c h0_38 h0_38k (upd h0_38c (x_16 : Int32).toNatClampNeg x_54)) := hD
        have l_56 : (upd h0_38c (x_16 : Int32).toNatClampNeg x_54) (x_16 : Int32).toNatClampNeg = x_54 := pk_us
        generalize (upd h0_38c (x_16 : Int32).toNatClampNeg x_54) = w_55 at hP hD l_56
        have hP : va_P (dC, dI) vwCl (wd_c_X12_fogOf_7 h0 h0_f0 h0_1 h0_2 h0_3 h0_4 h0_5 h0_f6 h0_f7 h0_f8 h0_f9 h0_f10 h0_f11 h0_f12 h0_f13 h0_f14 h0_15 h0_16 h0_f17 h0_18 h0_19 h0_20 h0_21 h0_22 h0_23 h0_24 h0_25 h0_f26 h0_f27 h0_f28 h0_f29 h0_f30 h0_f31 h0_32 h0_33 h0_f34 h0_35 h0_36 h0_37 h0_38 h0_39 h0_40 h0_f41 h0_f42 h0_f43 h0_f44 h0_45 h0_46 h0_47 h0_48 h0_49 h0_50 h0_f51 h0_52 h0_f53 h0_39 h0_39k h0_39c h0_38 h0_38k w_55) H := hP
        have hD : va_D A (wd_c_X12_fogOf_7 h0 h0_f0 h0_1 h0_2 h0_3 h0_4 h0_5 h0_f6 h0_f7 h0_f8 h0_f9 h0_f10 h0_f11 h0_f12 h0_f13 h0_f14 h0_15 h0_16 h0_f17 h0_18 h0_19 h0_20 h0_21 h0_22 h0_23 h0_24 h0_25 h0_f26 h0_f27 h0_f28 h0_f29 h0_f30 h0_f31 h0_32 h0_33 h0_f34 h0_35 h0_36 h0_37 h0_38 h0_39 h0_40 h0_f41 h0_f42 h0_f43 h0_f44 h0_45 h0_46 h0_47 h0_48 h0_49 h0_50 h0_f51 h0_52 h0_f53 h0_39 h0_39k h0_39c h0_38 h0_38k w_55) := hD
        refine lv_lload hx hb dX12_fogOf_114 (lv_at hl 0 rfl) ?_
        refine lv_aload_n hx hb dX12_fogOf_116 rfl (lv_at hl 2 rfl) ?_
        refine lv_iload_n hx hb dX12_fogOf_117 rfl (lv_at hl 3 rfl) ?_
        refine lv_iload_n hx hb dX12_fogOf_118 rfl (lv_at hl 4 rfl) ?_
        refine lv_iconst (v := 1) hx hb dX12_fogOf_119 kc_iconst_1 ?_
        refine lv_iadd hx hb dX12_fogOf_120 ?_
        refine lv_topi (fun x_57 ex_57 => ?_)
        as_aux_lemma =>
        obtain rfl : x_57 = 8 := ex_57.trans (by decide +kernel)
        refine lv_iload_n hx hb dX12_fogOf_121 rfl (lv_at hl 5 rfl) ?_
        refine lv_lload hx hb dX12_fogOf_122 (lv_at hl 6 rfl) ?_
        refine lv_lload hx hb dX12_fogOf_124 (lv_at hl 1 rfl) ?_
        refine lv_lsub hx hb dX12_fogOf_126 ?_
        refine lv_topl (fun x_58 ex_58 => ?_)
        obtain ⟨hPc, hDc, hFc, hqc⟩ := cl_cut (wc := (wd_c_X12_fogOf_8 h0 h0_f0 h0_1 h0_2 h0_3 h0_4 h0_5 h0_f6 h0_f7 h0_f8 h0_f9 h0_f10 h0_f11 h0_f12 h0_f13 h0_f14 h0_15 h0_16 h0_f17 h0_18 h0_19 h0_20 h0_21 h0_22 h0_23 h0_24 h0_25 h0_f26 h0_f27 h0_f28 h0_f29 h0_f30 h0_f31 h0_32 h0_33 h0_f34 h0_35 h0_36 h0_37 h0_38 h0_39 h0_40 h0_f41 h0_f42 h0_f43 h0_f44 h0_45 h0_46 h0_47 h0_48 h0_49 h0_50 h0_f51 h0_52 h0_f53 h0_38 h0_38k w_55)) hP hD hS hA [0, 2] (by decide +kernel) rfl
        have hKc := hK.sub (tys' := [(h0_38k, .int)]) [1] rfl
        have hrv := va_recv hKc hPc (ci := 12) (q0 := 0) rfl rfl
        refine va_calll (va_runV (As := [.int p1, .int 8, .int p3, .long x_58]) (rest := [.long 0]) ⟨hx, hb, hml, hown, hts⟩ (c_X12_fogOf_8 l dC dI H.size h0 p1 p3 x_58 h0_f0 h0_1 h0_2 h0_3 h0_4 h0_5 h0_f6 h0_f7 h0_f8 h0_f9 h0_f10 h0_f11 h0_f12 h0_f13 h0_f14 h0_15 h0_16 h0_f17 h0_18 h0_19 h0_20 h0_21 h0_22 h0_23 h0_24 h0_25 h0_f26 h0_f27 h0_f28 h0_f29 h0_f30 h0_f31 h0_32 h0_33 h0_f34 h0_35 h0_36 h0_37 h0_38 h0_39 h0_40 h0_f41 h0_f42 h0_f43 h0_f44 h0_45 h0_46 h0_47 h0_48 h0_49 h0_50 h0_f51 h0_52 h0_f53 h0_38k w_55 g_p1 g_p3 g_h0_f6 g_h0_f7 g_h0_f8 g_h0_f9 g_h0_f10 g_h0_f11 g_h0_f17 g_15 (RG_w h_28 (by decide +kernel)) g_h0_f28 g_h0_f29 g_h0_f30 g_h0_f31 g_h0_f34 g_h0_f41 g_h0_f51 g_h0_f53) (cwV 4 hts gf_c_X12_fogOf_7_c_X12_fogOf_8 rfl rfl rfl mdV_X12_fogOf ⟨Nat.le_of_ble_eq_true rfl, Nat.le_of_ble_eq_true rfl⟩) ⟨fun a U g mk q => by obtain ⟨q0, q1, qP, qK, qD⟩ := q; exact ⟨q0, q1, qP, va_K.moved (u := U) (U := U.calling g mk a) (Vm.Alike.refl U.vm) qK, qD⟩, hrv, fun U hU hW => ⟨rfl, by rw [hU], by rw [hU]; exact hPc, va_K.moved hW.alike hKc, hDc.weaken (fun _ _ _ _ => trivial)⟩⟩ rfl rfl hl.1 rfl (lv_room (Nat.le_of_ble_eq_true rfl)) dX12_fogOf_127 ⟨Nat.le_of_ble_eq_true rfl, Nat.le_of_ble_eq_true rfl⟩) hS (fun q _ h => hFc q h) hFc (fun r_59 u t H1 locs ht hvm hw hB hz1 hk1 hS => ?_)
        obtain ⟨hP1, hK1, hD1⟩ := hB
        rw [ht] at hP1
        obtain ⟨hP, hD⟩ := cl_put (w1 := (wd_c_X12_fogOf_8 h0 h0_f0 h0_1 h0_2 h0_3 h0_4 h0_5 h0_f6 h0_f7 h0_f8 h0_f9 h0_f10 h0_f11 h0_f12 h0_f13 h0_f14 h0_15 h0_16 h0_f17 h0_18 h0_19 h0_20 h0_21 h0_22 h0_23 h0_24 h0_25 h0_f26 h0_f27 h0_f28 h0_f29 h0_f30 h0_f31 h0_32 h0_33 h0_f34 h0_35 h0_36 h0_37 h0_38 h0_39 h0_40 h0_f41 h0_f42 h0_f43 h0_f44 h0_45 h0_46 h0_47 h0_48 h0_49 h0_50 h0_f51 h0_52 h0_f53 h0_38 h0_38k w_55)) (nw := (wd_c_X12_fogOf_7 h0 h0_f0 h0_1 h0_2 h0_3 h0_4 h0_5 h0_f6 h0_f7 h0_f8 h0_f9 h0_f10 h0_f11 h0_f12 h0_f13 h0_f14 h0_15 h0_16 h0_f17 h0_18 h0_19 h0_20 h0_21 h0_22 h0_23 h0_24 h0_25 h0_f26 h0_f27 h0_f28 h0_f29 h0_f30 h0_f31 h0_32 h0_33 h0_f34 h0_35 h0_36 h0_37 h0_38 h0_39 h0_40 h0_f41 h0_f42 h0_f43 h0_f44 h0_45 h0_46 h0_47 h0_48 h0_49 h0_50 h0_f51 h0_52 h0_f53 h0_39 h0_39k h0_39c h0_38 h0_38k w_55)) hP hD [0, 2] [3, 1, 4] 3 rfl hqc (by decide +kernel) rfl hk1 hFc hP1 hD1
        generalize H1 = H at hP hS ⊢
        as_aux_lemma =>
        rcases hw with h_60 | ⟨h_61, h_62⟩
        · refine lv_ladd hx hb dX12_fogOf_130 ?_
          refine lv_topl (fun x_63 ex_63 => ?_)
          refine lv_lstore (lv' := [(8, .long x_63), (6, .long x_23), (0, .ref h0), (1, .int p1), (2, .int 7), (3, .int p3), (4, .long p4)]) hx hb dX12_fogOf_131 hl (Nat.le_of_ble_eq_true rfl) rfl (fun ls hl => ?_)
          refine lv_aload_n hx hb dX12_fogOf_133 rfl (lv_at hl 2 rfl) ?_
          refine va_get (D := (dC, dI)) (ci := 12) (v := .ref h0_38) (C := RX12) (T := TX12) (N := 54) hx hb hts iw_c_X12_fogOf_7_X12 hown hK hP 0 rfl rfl 38 (by decide +kernel) (hts (.fieldLink RX12 81 "BuoyVoteModel" "tally" "[I") (List.mem_of_getElem? (i := 9) rfl)) (fun _ h9 => h9) rfl dX12_fogOf_134 ?_
          refine lv_aload_n hx hb dX12_fogOf_137 rfl (lv_at hl 2 rfl) ?_
          refine va_get (D := (dC, dI)) (ci := 12) (v := .ref h0_39) (C := RX12) (T := TX12) (N := 54) hx hb hts iw_c_X12_fogOf_7_X12 hown hK hP 0 rfl rfl 39 (by decide +kernel) (hts (.fieldLink RX12 84 "BuoyVoteModel" "leans" "[I") (List.mem_of_getElem? (i := 2) rfl)) (fun _ h9 => h9) rfl dX12_fogOf_138 ?_
          refine lv_iload_n hx hb dX12_fogOf_141 rfl (lv_at hl 4 rfl) ?_
          refine va_iald hx hb hK hP 1 0 rfl rfl (RG_in (RG_k 7 7 rfl) (by decide +kernel)) dX12_fogOf_142 ?_
          refine lv_topi (fun x_64 ex_64 => ?_)
          obtain rfl : x_16 = x_64 := (ex_64.trans ex_16.symm).symm
          refine lv_dup2_11 hx hb dX12_fogOf_143 rfl rfl ?_
          refine va_iald hx hb hK hP 2 1 rfl rfl (RG_in g_19 (by decide +kernel)) dX12_fogOf_144 ?_
          as_aux_lemma =>
          refine lv_topi (fun x_65 ex_65 => ?_)
          obtain rfl : x_54 = x_65 := (ex_65.trans l_56).symm
          refine lv_iconst (v := 1) hx hb dX12_fogOf_145 kc_iconst_1 ?_
          refine lv_isub hx hb dX12_fogOf_146 ?_
          refine lv_topi (fun x_66 ex_66 => ?_)
          refine va_iast hx hb hK hP hD hS 2 1 rfl rfl (RG_in g_19 (by decide +kernel)) dX12_fogOf_147 (fun H locs hP hD hS => ?_)
          have hP : va_P (dC, dI) vwCl (wd_c_X12_fogOf_7 h0 h0_f0 h0_1 h0_2 h0_3 h0_4 h0_5 h0_f6 h0_f7 h0_f8 h0_f9 h0_f10 h0_f11 h0_f12 h0_f13 h0_f14 h0_15 h0_16 h0_f17 h0_18 h0_19 h0_20 h0_21 h0_22 h0_23 h0_24 h0_25 h0_f26 h0_f27 h0_f28 h0_f29 h0_f30 h0_f31 h0_32 h0_33 h0_f34 h0_35 h0_36 h0_37 h0_38 h0_39 h0_40 h0_f41 h0_f42 h0_f43 h0_f44 h0_45 h0_46 h0_47 h0_48 h0_49 h0_50 h0_f51 h0_52 h0_f53 h0_39 h0_39k h0_39c h0_38 h0_38k (upd w_55 (x_16 : Int32).toNatClampNeg x_66)) H := hP
          have hD : va_D A (wd_c_X12_fogOf_7 h0 h0_f0 h0_1 h0_2 h0_3 h0_4 h0_5 h0_f6 h0_f7 h0_f8 h0_f9 h0_f10 h0_f11 h0_f12 h0_f13 h0_f14 h0_15 h0_16 h0_f17 h0_18 h0_19 h0_20 h0_21 h0_22 h0_23 h0_24 h0_25 h0_f26 h0_f27 h0_f28 h0_f29 h0_f30 h0_f31 h0_32 h0_33 h0_f34 h0_35 h0_36 h0_37 h0_38 h0_39 h0_40 h0_f41 h0_f42 h0_f43 h0_f44 h0_45 h0_46 h0_47 h0_48 h0_49 h0_50 h0_f51 h0_52 h0_f53 h0_39 h0_39k h0_39c h0_38 h0_38k (upd w_55 (x_16 : Int32).toNatClampNeg x_66)) := hD
          have l_68 : (upd w_55 (x_16 : Int32).toNatClampNeg x_66) (x_16 : Int32).toNatClampNeg = x_66 := pk_us
          generalize (upd w_55 (x_16 : Int32).toNatClampNeg x_66) = w_67 at hP hD l_68
          have hP : va_P (dC, dI) vwCl (wd_c_X12_fogOf_7 h0 h0_f0 h0_1 h0_2 h0_3 h0_4 h0_5 h0_f6 h0_f7 h0_f8 h0_f9 h0_f10 h0_f11 h0_f12 h0_f13 h0_f14 h0_15 h0_16 h0_f17 h0_18 h0_19 h0_20 h0_21 h0_22 h0_23 h0_24 h0_25 h0_f26 h0_f27 h0_f28 h0_f29 h0_f30 h0_f31 h0_32 h0_33 h0_f34 h0_35 h0_36 h0_37 h0_38 h0_39 h0_40 h0_f41 h0_f42 h0_f43 h0_f44 h0_45 h0_46 h0_47 h0_48 h0_49 h0_50 h0_f51 h0_52 h0_f53 h0_39 h0_39k h0_39c h0_38 h0_38k w_67) H := hP
          have hD : va_D A (wd_c_X12_fogOf_7 h0 h0_f0 h0_1 h0_2 h0_3 h0_4 h0_5 h0_f6 h0_f7 h0_f8 h0_f9 h0_f10 h0_f11 h0_f12 h0_f13 h0_f14 h0_15 h0_16 h0_f17 h0_18 h0_19 h0_20 h0_21 h0_22 h0_23 h0_24 h0_25 h0_f26 h0_f27 h0_f28 h0_f29 h0_f30 h0_f31 h0_32 h0_33 h0_f34 h0_35 h0_36 h0_37 h0_38 h0_39 h0_40 h0_f41 h0_f42 h0_f43 h0_f44 h0_45 h0_46 h0_47 h0_48 h0_49 h0_50 h0_f51 h0_52 h0_f53 h0_39 h0_39k h0_39c h0_38 h0_38k w_67) := hD
          refine lv_lload hx hb dX12_fogOf_148 (lv_at hl 0 rfl) ?_
          have hK9 := hK.sub (tys' := []) [] rfl
          exact W.lret (v := x_63) hx hb hr (fun t ht hW => ⟨⟨x_63, w_67, rfl, (Or.inl (LG_any x_63)), by rw [ht]; exact hP, va_K.moved hW.alike hK9, hD⟩, hS.F ht⟩) hS.2.2 dX12_fogOf_150
        · rw [h_61]
          refine lv_ladd hx hb dX12_fogOf_130 ?_
          as_aux_lemma =>
          refine lv_topl (fun x_69 ex_69 => ?_)
          obtain rfl : x_69 = 0 := ex_69.trans (by decide +kernel)
          refine lv_lstore (lv' := [(8, .long 0), (6, .long x_23), (0, .ref h0), (1, .int p1), (2, .int 7), (3, .int p3), (4, .long p4)]) hx hb dX12_fogOf_131 hl (Nat.le_of_ble_eq_true rfl) rfl (fun ls hl => ?_)
          refine lv_aload_n hx hb dX12_fogOf_133 rfl (lv_at hl 2 rfl) ?_
          refine va_get (D := (dC, dI)) (ci := 12) (v := .ref h0_38) (C := RX12) (T := TX12) (N := 54) hx hb hts iw_c_X12_fogOf_7_X12 hown hK hP 0 rfl rfl 38 (by decide +kernel) (hts (.fieldLink RX12 81 "BuoyVoteModel" "tally" "[I") (List.mem_of_getElem? (i := 9) rfl)) (fun _ h9 => h9) rfl dX12_fogOf_134 ?_
          refine lv_aload_n hx hb dX12_fogOf_137 rfl (lv_at hl 2 rfl) ?_
          refine va_get (D := (dC, dI)) (ci := 12) (v := .ref h0_39) (C := RX12) (T := TX12) (N := 54) hx hb hts iw_c_X12_fogOf_7_X12 hown hK hP 0 rfl rfl 39 (by decide +kernel) (hts (.fieldLink RX12 84 "BuoyVoteModel" "leans" "[I") (List.mem_of_getElem? (i := 2) rfl)) (fun _ h9 => h9) rfl dX12_fogOf_138 ?_
          refine lv_iload_n hx hb dX12_fogOf_141 rfl (lv_at hl 4 rfl) ?_
          refine va_iald hx hb hK hP 1 0 rfl rfl (RG_in (RG_k 7 7 rfl) (by decide +kernel)) dX12_fogOf_142 ?_
          refine lv_topi (fun x_70 ex_70 => ?_)
          obtain rfl : x_16 = x_70 := (ex_70.trans ex_16.symm).symm
          refine lv_dup2_11 hx hb dX12_fogOf_143 rfl rfl ?_
          refine va_iald hx hb hK hP 2 1 rfl rfl (RG_in g_19 (by decide +kernel)) dX12_fogOf_144 ?_
          refine lv_topi (fun x_71 ex_71 => ?_)
          as_aux_lemma =>
          obtain rfl : x_54 = x_71 := (ex_71.trans l_56).symm
          refine lv_iconst (v := 1) hx hb dX12_fogOf_145 kc_iconst_1 ?_
          refine lv_isub hx hb dX12_fogOf_146 ?_
          refine lv_topi (fun x_72 ex_72 => ?_)
          refine va_iast hx hb hK hP hD hS 2 1 rfl rfl (RG_in g_19 (by decide +kernel)) dX12_fogOf_147 (fun H locs hP hD hS => ?_)
          have hP : va_P (dC, dI) vwCl (wd_c_X12_fogOf_7 h0 h0_f0 h0_1 h0_2 h0_3 h0_4 h0_5 h0_f6 h0_f7 h0_f8 h0_f9 h0_f10 h0_f11 h0_f12 h0_f13 h0_f14 h0_15 h0_16 h0_f17 h0_18 h0_19 h0_20 h0_21 h0_22 h0_23 h0_24 h0_25 h0_f26 h0_f27 h0_f28 h0_f29 h0_f30 h0_f31 h0_32 h0_33 h0_f34 h0_35 h0_36 h0_37 h0_38 h0_39 h0_40 h0_f41 h0_f42 h0_f43 h0_f44 h0_45 h0_46 h0_47 h0_48 h0_49 h0_50 h0_f51 h0_52 h0_f53 h0_39 h0_39k h0_39c h0_38 h0_38k (upd w_55 (x_16 : Int32).toNatClampNeg x_72)) H := hP
          have hD : va_D A (wd_c_X12_fogOf_7 h0 h0_f0 h0_1 h0_2 h0_3 h0_4 h0_5 h0_f6 h0_f7 h0_f8 h0_f9 h0_f10 h0_f11 h0_f12 h0_f13 h0_f14 h0_15 h0_16 h0_f17 h0_18 h0_19 h0_20 h0_21 h0_22 h0_23 h0_24 h0_25 h0_f26 h0_f27 h0_f28 h0_f29 h0_f30 h0_f31 h0_32 h0_33 h0_f34 h0_35 h0_36 h0_37 h0_38 h0_39 h0_40 h0_f41 h0_f42 h0_f43 h0_f44 h0_45 h0_46 h0_47 h0_48 h0_49 h0_50 h0_f51 h0_52 h0_f53 h0_39 h0_39k h0_39c h0_38 h0_38k (upd w_55 (x_16 : Int32).toNatClampNeg x_72)) := hD
          have l_74 : (upd w_55 (x_16 : Int32).toNatClampNeg x_72) (x_16 : Int32).toNatClampNeg = x_72 := pk_us
          generalize (upd w_55 (x_16 : Int32).toNatClampNeg x_72) = w_73 at hP hD l_74
          have hP : va_P (dC, dI) vwCl (wd_c_X12_fogOf_7 h0 h0_f0 h0_1 h0_2 h0_3 h0_4 h0_5 h0_f6 h0_f7 h0_f8 h0_f9 h0_f10 h0_f11 h0_f12 h0_f13 h0_f14 h0_15 h0_16 h0_f17 h0_18 h0_19 h0_20 h0_21 h0_22 h0_23 h0_24 h0_25 h0_f26 h0_f27 h0_f28 h0_f29 h0_f30 h0_f31 h0_32 h0_33 h0_f34 h0_35 h0_36 h0_37 h0_38 h0_39 h0_40 h0_f41 h0_f42 h0_f43 h0_f44 h0_45 h0_46 h0_47 h0_48 h0_49 h0_50 h0_f51 h0_52 h0_f53 h0_39 h0_39k h0_39c h0_38 h0_38k w_73) H := hP
          have hD : va_D A (wd_c_X12_fogOf_7 h0 h0_f0 h0_1 h0_2 h0_3 h0_4 h0_5 h0_f6 h0_f7 h0_f8 h0_f9 h0_f10 h0_f11 h0_f12 h0_f13 h0_f14 h0_15 h0_16 h0_f17 h0_18 h0_19 h0_20 h0_21 h0_22 h0_23 h0_24 h0_25 h0_f26 h0_f27 h0_f28 h0_f29 h0_f30 h0_f31 h0_32 h0_33 h0_f34 h0_35 h0_36 h0_37 h0_38 h0_39 h0_40 h0_f41 h0_f42 h0_f43 h0_f44 h0_45 h0_46 h0_47 h0_48 h0_49 h0_50 h0_f51 h0_52 h0_f53 h0_39 h0_39k h0_39c h0_38 h0_38k w_73) := hD
          refine lv_lload hx hb dX12_fogOf_148 (lv_at hl 0 rfl) ?_
          have hK9 := hK.sub (tys' := []) [] rfl
          exact W.lret (v := 0) hx hb hr (fun t ht hW => ⟨⟨0, w_73, rfl, (Or.inr ⟨rfl, h_28⟩), by rw [ht]; exact hP, va_K.moved hW.alike hK9, hD⟩, hS.F ht⟩) hS.2.2 dX12_fogOf_150
    · have g_75 : RG x_16 (-1) (-1) := RG_eq1 g_17 (RG_k (-1) (-1) rfl) c_18 (by decide +kernel)
      refine lv_aload_n hx hb dX12_fogOf_63 rfl (lv_at hl 0 rfl) ?_
      as_aux_lemma =>
      refine lv_iload_n hx hb dX12_fogOf_64 rfl (lv_at hl 1 rfl) ?_
      refine lv_iload_n hx hb dX12_fogOf_65 rfl (lv_at hl 2 rfl) ?_
      refine lv_iconst (v := 1) hx hb dX12_fogOf_66 kc_iconst_1 ?_
      refine lv_iadd hx hb dX12_fogOf_67 ?_
      refine lv_topi (fun x_76 ex_76 => ?_)
      obtain rfl : x_76 = 8 := ex_76.trans (by decide +kernel)
      refine lv_iload_n hx hb dX12_fogOf_68 rfl (lv_at hl 3 rfl) ?_
      refine lv_lload hx hb dX12_fogOf_69 (lv_at hl 4 rfl) ?_
      obtain ⟨hPc, hDc, hFc, hqc⟩ := cl_cut (wc := (wd_c_X12_fogOf_8 h0 h0_f0 h0_1 h0_2 h0_3 h0_4 h0_5 h0_f6 h0_f7 h0_f8 h0_f9 h0_f10 h0_f11 h0_f12 h0_f13 h0_f14 h0_15 h0_16 h0_f17 h0_18 h0_19 h0_20 h0_21 h0_22 h0_23 h0_24 h0_25 h0_f26 h0_f27 h0_f28 h0_f29 h0_f30 h0_f31 h0_32 h0_33 h0_f34 h0_35 h0_36 h0_37 h0_38 h0_39 h0_40 h0_f41 h0_f42 h0_f43 h0_f44 h0_45 h0_46 h0_47 h0_48 h0_49 h0_50 h0_f51 h0_52 h0_f53 h0_38 h0_38k h0_38c)) hP hD hS hA [0, 2] (by decide +kernel) rfl
      have hKc := hK.sub (tys' := [(h0_38k, .int)]) [1] rfl
      have hrv := va_recv hKc hPc (ci := 12) (q0 := 0) rfl rfl
      refine va_calll (va_runV (As := [.int p1, .int 8, .int p3, .long p4]) (rest := []) ⟨hx, hb, hml, hown, hts⟩ (c_X12_fogOf_8 l dC dI H.size h0 p1 p3 p4 h0_f0 h0_1 h0_2 h0_3 h0_4 h0_5 h0_f6 h0_f7 h0_f8 h0_f9 h0_f10 h0_f11 h0_f12 h0_f13 h0_f14 h0_15 h0_16 h0_f17 h0_18 h0_19 h0_20 h0_21 h0_22 h0_23 h0_24 h0_25 h0_f26 h0_f27 h0_f28 h0_f29 h0_f30 h0_f31 h0_32 h0_33 h0_f34 h0_35 h0_36 h0_37 h0_38 h0_39 h0_40 h0_f41 h0_f42 h0_f43 h0_f44 h0_45 h0_46 h0_47 h0_48 h0_49 h0_50 h0_f51 h0_52 h0_f53 h0_38k h0_38c g_p1 g_p3 g_h0_f6 g_h0_f7 g_h0_f8 g_h0_f9 g_h0_f10 g_h0_f11 g_h0_f17 g_15 g_h0_f27 g_h0_f28 g_h0_f29 g_h0_f30 g_h0_f31 g_h0_f34 g_h0_f41 g_h0_f51 g_h0_f53) (cwV 4 hts gf_c_X12_fogOf_7_c_X12_fogOf_8 rfl rfl rfl mdV_X12_fogOf ⟨Nat.le_of_ble_eq_true rfl, Nat.le_of_ble_eq_true rfl⟩) ⟨fun a U g mk q => by obtain ⟨q0, q1, qP, qK, qD⟩ := q; exact ⟨q0, q1, qP, va_K.moved (u := U) (U := U.calling g mk a) (Vm.Alike.refl U.vm) qK, qD⟩, hrv, fun U hU hW => ⟨rfl, by rw [hU], by rw [hU]; exact hPc, va_K.moved hW.alike hKc, hDc.weaken (fun _ _ _ _ => trivial)⟩⟩ rfl rfl hl.1 rfl (lv_room (Nat.le_of_ble_eq_true rfl)) dX12_fogOf_71 ⟨Nat.le_of_ble_eq_true rfl, Nat.le_of_ble_eq_true rfl⟩) hS (fun q _ h => hFc q h) hFc (fun r_77 u t H1 locs ht hvm hw hB hz1 hk1 hS => ?_)
      obtain ⟨hP1, hK1, hD1⟩ := hB
      rw [ht] at hP1
      obtain ⟨hP, hD⟩ := cl_put (w1 := (wd_c_X12_fogOf_8 h0 h0_f0 h0_1 h0_2 h0_3 h0_4 h0_5 h0_f6 h0_f7 h0_f8 h0_f9 h0_f10 h0_f11 h0_f12 h0_f13 h0_f14 h0_15 h0_16 h0_f17 h0_18 h0_19 h0_20 h0_21 h0_22 h0_23 h0_24 h0_25 h0_f26 h0_f27 h0_f28 h0_f29 h0_f30 h0_f31 h0_32 h0_33 h0_f34 h0_35 h0_36 h0_37 h0_38 h0_39 h0_40 h0_f41 h0_f42 h0_f43 h0_f44 h0_45 h0_46 h0_47 h0_48 h0_49 h0_50 h0_f51 h0_52 h0_f53 h0_38 h0_38k h0_38c)) (nw := (wd_c_X12_fogOf_7 h0 h0_f0 h0_1 h0_2 h0_3 h0_4 h0_5 h0_f6 h0_f7 h0_f8 h0_f9 h0_f10 h0_f11 h0_f12 h0_f13 h0_f14 h0_15 h0_16 h0_f17 h0_18 h0_19 h0_20 h0_21 h0_22 h0_23 h0_24 h0_25 h0_f26 h0_f27 h0_f28 h0_f29 h0_f30 h0_f31 h0_32 h0_33 h0_f34 h0_35 h0_36 h0_37 h0_38 h0_39 h0_40 h0_f41 h0_f42 h0_f43 h0_f44 h0_45 h0_46 h0_47 h0_48 h0_49 h0_50 h0_f51 h0_52 h0_f53 h0_39 h0_39k h0_39c h0_38 h0_38k h0_38c)) hP hD [0, 2] [3, 1, 4] 3 rfl hqc (by decide +kernel) rfl hk1 hFc hP1 hD1
      generalize H1 = H at hP hS ⊢
      as_aux_lemma =>
      rcases hw with h_78 | ⟨h_79, h_80⟩
      · have hK9 := hK.sub (tys' := []) [] rfl
        exact W.lret (v := r_77) hx hb hr (fun t ht hW => ⟨⟨r_77, h0_38c, rfl, (Or.inl h_78), by rw [ht]; exact hP, va_K.moved hW.alike hK9, hD⟩, hS.F ht⟩) hS.2.2 dX12_fogOf_74
      · rw [h_79]
        have hK9 := hK.sub (tys' := []) [] rfl
        exact W.lret (v := 0) hx hb hr (fun t ht hW => ⟨⟨0, h0_38c, rfl, (Or.inr ⟨rfl, h_80⟩), by rw [ht]; exact hP, va_K.moved hW.alike hK9, hD⟩, hS.F ht⟩) hS.2.2 dX12_fogOf_74
  · have g_81 : RG h0_f26 7 7 := RG_eq1 g_h0_f26 (RG_k 7 7 rfl) c_14.symm (by decide +kernel)
    refine lv_iconst (v := 0) hx hb dX12_fogOf_8 kc_iconst_0 ?_
    refine lv_istore (lv' := [(6, .int 0), (0, .ref h0), (1, .int p1), (2, .int 7), (3, .int p3), (4, .long p4)]) hx hb dX12_fogOf_9 hl (Nat.le_of_ble_eq_true rfl) rfl (fun ls hl => ?_)
    exact hU _ _ _ (J11 _ 0 (Nat.lt_succ_self _) g_h0_f10 g_h0_f11 g_h0_f17 g_81 g_h0_f27 g_h0_f28 g_h0_f29 g_h0_f30 g_h0_f31 g_h0_f34 g_h0_f41 g_h0_f51 g_h0_f53 g_h0_f6 g_h0_f7 g_h0_f8 g_h0_f9 (RG_w (RG_k 0 0 rfl) (by decide +kernel)) g_p1 g_p3 _ _ _ hP hD hS (lv_sub hl [0, 1, 2, 5] rfl))
noncomputable def wd_c_X12_fogOf_6 (a0 : Nat) (a1 : Int32) (a2 : Nat) (a3 : Nat) (a4 : Nat) (a5 : Nat) (a6 : Nat) (a7 : Int32) (a8 : Int32) (a9 : Int32) (a10 : Int32) (a11 : Int32) (a12 : Int32) (a13 : Int32) (a14 : Int32) (a15 : Int32) (a16 : Nat) (a17 : Nat) (a18 : Int32) (a19 : Nat) (a20 : Nat) (a21 : Nat) (a22 : Nat) (a23 : Nat) (a24 : Nat) (a25 : Nat) (a26 : Nat) (a27 : Int32) (a28 : Int32) (a29 : Int32) (a30 : Int32) (a31 : Int32) (a32 : Int32) (a33 : Nat) (a34 : Nat) (a35 : Int32) (a36 : Nat) (a37 : Nat) (a38 : Nat) (a39 : Nat) (a40 : Nat) (a41 : Nat) (a42 : Int32) (a43 : Int64) (a44 : Int32) (a45 : Int32) (a46 : Nat) (a47 : Nat) (a48 : Nat) (a49 : Nat) (a50 : Nat) (a51 : Nat) (a52 : Int32) (a53 : Nat) (a54 : Int32) (a55 : Nat) (a56 : ClassId) (a57 : Nat → Int32) (a58 : Nat) (a59 : ClassId) (a60 : Nat → Int32) : va_W := [(a0, .inr (12, [.int a1, .ref a2, .ref a3, .ref a4, .ref a5, .ref a6, .int a7, .int a8, .int a9, .int a10, .int a11, .int a12, .int a13, .int a14, .int a15, .ref a16, .ref a17, .int a18, .ref a19, .ref a20, .ref a21, .ref a22, .ref a23, .ref a24, .ref a25, .ref a26, .int a27, .int a28, .int a29, .int a30, .int a31, .int a32, .ref a33, .ref a34, .int a35, .ref a36, .ref a37, .ref a38, .ref a39, .ref a40, .ref a41, .int a42, .long a43, .int a44, .int a45, .ref a46, .ref a47, .ref a48, .ref a49, .ref a50, .ref a51, .int a52, .ref a53, .int a54])), (a55, .inl (a56, 8, .inl a57)), (a58, .inl (a59, 3, .inl a60))]
noncomputable def wf_c_X12_fogOf_6 : List Cond := List.cons (.code yX12_fogOf cX12_fogOf 10 (some .long)) (@HAppend.hAppend (List Cond) (List Cond) (List Cond) _ [.fieldLink RX12 309 "BuoyVoteModel" "buoys" "I", .fieldLink RX12 84 "BuoyVoteModel" "leans" "[I", .constantLong RX12 545 (100), .methodLink RX12 541 yX12_fogOf, .instanceMethod yX12_fogOf, .selects RX12 yX12_fogOf yX12_fogOf, .initialized RX12, .fieldLink RX12 312 "BuoyVoteModel" "boats" "I", .fieldLink RX12 81 "BuoyVoteModel" "tally" "[I"] wsX120)
theorem iw_c_X12_fogOf_6_X12 : ∀ w ∈ wsX120, w ∈ wf_c_X12_fogOf_6 := fun w h => List.mem_cons_of_mem _ (List.mem_append_right _ h)
set_option maxRecDepth 20000 in
theorem gf_c_X12_fogOf_6_c_X12_fogOf_7 : GoodIn wf_c_X12_fogOf_6 (wsV RX12 541 RX12 yX12_fogOf wf_c_X12_fogOf_7) := goodIn_app (gi_l [4, 5, 6, 7] rfl rfl) (gi_cons (j := 0) rfl rfl (goodIn_app (gi_l [1, 2, 3, 4, 5, 6, 7, 8, 9] rfl rfl) (goodIn_sub iw_c_X12_fogOf_6_X12 gw_X12)))
set_option maxHeartbeats 4000000 in
set_option maxRecDepth 100000 in
theorem c_X12_fogOf_6 (l : Launch) (dC : Nat → ClassId) (dI : Nat → Nat → Nat) (sz : Nat) (h0 : Nat) (p1 : Int32) (p3 : Int32) (p4 : Int64) (h0_f0 : Int32) (h0_1 : Nat) (h0_2 : Nat) (h0_3 : Nat) (h0_4 : Nat) (h0_5 : Nat) (h0_f6 : Int32) (h0_f7 : Int32) (h0_f8 : Int32) (h0_f9 : Int32) (h0_f10 : Int32) (h0_f11 : Int32) (h0_f12 : Int32) (h0_f13 : Int32) (h0_f14 : Int32) (h0_15 : Nat) (h0_16 : Nat) (h0_f17 : Int32) (h0_18 : Nat) (h0_19 : Nat) (h0_20 : Nat) (h0_21 : Nat) (h0_22 : Nat) (h0_23 : Nat) (h0_24 : Nat) (h0_25 : Nat) (h0_f26 : Int32) (h0_f27 : Int32) (h0_f28 : Int32) (h0_f29 : Int32) (h0_f30 : Int32) (h0_f31 : Int32) (h0_32 : Nat) (h0_33 : Nat) (h0_f34 : Int32) (h0_35 : Nat) (h0_36 : Nat) (h0_37 : Nat) (h0_38 : Nat) (h0_39 : Nat) (h0_40 : Nat) (h0_f41 : Int32) (h0_f42 : Int64) (h0_f43 : Int32) (h0_f44 : Int32) (h0_45 : Nat) (h0_46 : Nat) (h0_47 : Nat) (h0_48 : Nat) (h0_49 : Nat) (h0_50 : Nat) (h0_f51 : Int32) (h0_52 : Nat) (h0_f53 : Int32) (h0_39k : ClassId) (h0_39c : Nat → Int32) (h0_38k : ClassId) (h0_38c : Nat → Int32) (g_p1 : RG p1 0 2) (g_p3 : RG p3 0 100) (g_h0_f6 : RG h0_f6 0 240) (g_h0_f7 : RG h0_f7 0 4) (g_h0_f8 : RG h0_f8 0 720) (g_h0_f9 : RG h0_f9 0 240) (g_h0_f10 : RG h0_f10 0 240) (g_h0_f11 : RG h0_f11 (-1) 240) (g_h0_f17 : RG h0_f17 0 1) (g_h0_f26 : RG h0_f26 6 8) (g_h0_f27 : RG h0_f27 0 3) (g_h0_f28 : RG h0_f28 0 8) (g_h0_f29 : RG h0_f29 0 3) (g_h0_f30 : RG h0_f30 0 4) (g_h0_f31 : RG h0_f31 0 1) (g_h0_f34 : RG h0_f34 (-1) 3) (g_h0_f41 : RG h0_f41 0 40) (g_h0_f51 : RG h0_f51 0 10) (g_h0_f53 : RG h0_f53 0 1) (a_h0_39c : AI h0_39c (-1) 2) : Met l yX12_fogOf wf_c_X12_fogOf_6 ({ frames := 2, cells := 0, slots := 0, locals := 58 }) (va_Pc [.ref h0, .int p1, .int 6, .int p3, .long p4] (fun U => U.heap.size = sz ∧ va_P (dC, dI) vwCl (wd_c_X12_fogOf_6 h0 h0_f0 h0_1 h0_2 h0_3 h0_4 h0_5 h0_f6 h0_f7 h0_f8 h0_f9 h0_f10 h0_f11 h0_f12 h0_f13 h0_f14 h0_15 h0_16 h0_f17 h0_18 h0_19 h0_20 h0_21 h0_22 h0_23 h0_24 h0_25 h0_f26 h0_f27 h0_f28 h0_f29 h0_f30 h0_f31 h0_32 h0_33 h0_f34 h0_35 h0_36 h0_37 h0_38 h0_39 h0_40 h0_f41 h0_f42 h0_f43 h0_f44 h0_45 h0_46 h0_47 h0_48 h0_49 h0_50 h0_f51 h0_52 h0_f53 h0_39 h0_39k h0_39c h0_38 h0_38k h0_38c) U.heap ∧ va_K (dC, dI) vwCl [(h0_39k, .int), (h0_38k, .int)] U ∧ va_D (fun _ => True) (wd_c_X12_fogOf_6 h0 h0_f0 h0_1 h0_2 h0_3 h0_4 h0_5 h0_f6 h0_f7 h0_f8 h0_f9 h0_f10 h0_f11 h0_f12 h0_f13 h0_f14 h0_15 h0_16 h0_f17 h0_18 h0_19 h0_20 h0_21 h0_22 h0_23 h0_24 h0_25 h0_f26 h0_f27 h0_f28 h0_f29 h0_f30 h0_f31 h0_32 h0_33 h0_f34 h0_35 h0_36 h0_37 h0_38 h0_39 h0_40 h0_f41 h0_f42 h0_f43 h0_f44 h0_45 h0_46 h0_47 h0_48 h0_49 h0_50 h0_f51 h0_52 h0_f53 h0_39 h0_39k h0_39c h0_38 h0_38k h0_38c))) (va_Ql (fun (r : Int64) (u : (Nat → Int32)) => (LG r (-9223372036854775808) 9223372036854775807) ∨ (r = 0 ∧ RG h0_f27 1 3)) (fun (u : (Nat → Int32)) t => va_P (dC, dI) vwCl (wd_c_X12_fogOf_6 h0 h0_f0 h0_1 h0_2 h0_3 h0_4 h0_5 h0_f6 h0_f7 h0_f8 h0_f9 h0_f10 h0_f11 h0_f12 h0_f13 h0_f14 h0_15 h0_16 h0_f17 h0_18 h0_19 h0_20 h0_21 h0_22 h0_23 h0_24 h0_25 h0_f26 h0_f27 h0_f28 h0_f29 h0_f30 h0_f31 h0_32 h0_33 h0_f34 h0_35 h0_36 h0_37 h0_38 h0_39 h0_40 h0_f41 h0_f42 h0_f43 h0_f44 h0_45 h0_46 h0_47 h0_48 h0_49 h0_50 h0_f51 h0_52 h0_f53 h0_39 h0_39k h0_39c h0_38 h0_38k (u)) t.heap ∧ va_K (dC, dI) vwCl [] t ∧ va_D (va_A (wd_c_X12_fogOf_6 h0 h0_f0 h0_1 h0_2 h0_3 h0_4 h0_5 h0_f6 h0_f7 h0_f8 h0_f9 h0_f10 h0_f11 h0_f12 h0_f13 h0_f14 h0_15 h0_16 h0_f17 h0_18 h0_19 h0_20 h0_21 h0_22 h0_23 h0_24 h0_25 h0_f26 h0_f27 h0_f28 h0_f29 h0_f30 h0_f31 h0_32 h0_33 h0_f34 h0_35 h0_36 h0_37 h0_38 h0_39 h0_40 h0_f41 h0_f42 h0_f43 h0_f44 h0_45 h0_46 h0_47 h0_48 h0_49 h0_50 h0_f51 h0_52 h0_f53 h0_39 h0_39k h0_39c h0_38 h0_38k h0_38c) sz) (wd_c_X12_fogOf_6 h0 h0_f0 h0_1 h0_2 h0_3 h0_4 h0_5 h0_f6 h0_f7 h0_f8 h0_f9 h0_f10 h0_f11 h0_f12 h0_f13 h0_f14 h0_15 h0_16 h0_f17 h0_18 h0_19 h0_20 h0_21 h0_22 h0_23 h0_24 h0_25 h0_f26 h0_f27 h0_f28 h0_f29 h0_f30 h0_f31 h0_32 h0_33 h0_f34 h0_35 h0_36 h0_37 h0_38 h0_39 h0_40 h0_f41 h0_f42 h0_f43 h0_f44 h0_45 h0_46 h0_47 h0_48 h0_49 h0_50 h0_f51 h0_52 h0_f53 h0_39 h0_39k h0_39c h0_38 h0_38k (u))) (va_A (wd_c_X12_fogOf_6 h0 h0_f0 h0_1 h0_2 h0_3 h0_4 h0_5 h0_f6 h0_f7 h0_f8 h0_f9 h0_f10 h0_f11 h0_f12 h0_f13 h0_f14 h0_15 h0_16 h0_f17 h0_18 h0_19 h0_20 h0_21 h0_22 h0_23 h0_24 h0_25 h0_f26 h0_f27 h0_f28 h0_f29 h0_f30 h0_f31 h0_32 h0_33 h0_f34 h0_35 h0_36 h0_37 h0_38 h0_39 h0_40 h0_f41 h0_f42 h0_f43 h0_f44 h0_45 h0_46 h0_47 h0_48 h0_49 h0_50 h0_f51 h0_52 h0_f53 h0_39 h0_39k h0_39c h0_38 h0_38k h0_38c) sz)) 0 0 (va_A (wd_c_X12_fogOf_6 h0 h0_f0 h0_1 h0_2 h0_3 h0_4 h0_5 h0_f6 h0_f7 h0_f8 h0_f9 h0_f10 h0_f11 h0_f12 h0_f13 h0_f14 h0_15 h0_16 h0_f17 h0_18 h0_19 h0_20 h0_21 h0_22 h0_23 h0_24 h0_25 h0_f26 h0_f27 h0_f28 h0_f29 h0_f30 h0_f31 h0_32 h0_33 h0_f34 h0_35 h0_36 h0_37 h0_38 h0_39 h0_40 h0_f41 h0_f42 h0_f43 h0_f44 h0_45 h0_46 h0_47 h0_48 h0_49 h0_50 h0_f51 h0_52 h0_f53 h0_39 h0_39k h0_39c h0_38 h0_38k h0_38c) sz) := by
  refine Met.ofW (cc := cX12_fogOf) (maxL := 10) (ret := (some .long)) (by decide +kernel) rfl ?_
  intro p e s m args below meth c s₁ B hml hv
  obtain ⟨rfl, hsz, hP, hK, hD0⟩ := hv
  have hx := B.exec
  have hb := B.bytes
  have hr := B.returns
  have hts := atoms_spec (ws := wf_c_X12_fogOf_6) B.pre
  have hown : s.vm.findClass RX12 = some m.cls := findClass_of_methodNamed B.named
  have hlocks := B.notSynchronized
  subst hsz
  have hD := hD0.self (sz := s.heap.size)
  generalize hAe : va_A (wd_c_X12_fogOf_6 h0 h0_f0 h0_1 h0_2 h0_3 h0_4 h0_5 h0_f6 h0_f7 h0_f8 h0_f9 h0_f10 h0_f11 h0_f12 h0_f13 h0_f14 h0_15 h0_16 h0_f17 h0_18 h0_19 h0_20 h0_21 h0_22 h0_23 h0_24 h0_25 h0_f26 h0_f27 h0_f28 h0_f29 h0_f30 h0_f31 h0_32 h0_33 h0_f34 h0_35 h0_36 h0_37 h0_38 h0_39 h0_40 h0_f41 h0_f42 h0_f43 h0_f44 h0_45 h0_46 h0_47 h0_48 h0_49 h0_50 h0_f51 h0_52 h0_f53 h0_39 h0_39k h0_39c h0_38 h0_38k h0_38c) s.heap.size = A at hD ⊢
  have hA : ∀ q : Nat, s.heap.size ≤ q → A q := fun q h => by rw [← hAe]; exact Or.inr h
  have hP : va_P (dC, dI) vwCl (wd_c_X12_fogOf_6 h0 h0_f0 h0_1 h0_2 h0_3 h0_4 h0_5 h0_f6 h0_f7 h0_f8 h0_f9 h0_f10 h0_f11 h0_f12 h0_f13 h0_f14 h0_15 h0_16 h0_f17 h0_18 h0_19 h0_20 h0_21 h0_22 h0_23 h0_24 h0_25 h0_f26 h0_f27 h0_f28 h0_f29 h0_f30 h0_f31 h0_32 h0_33 h0_f34 h0_35 h0_36 h0_37 h0_38 h0_39 h0_40 h0_f41 h0_f42 h0_f43 h0_f44 h0_45 h0_46 h0_47 h0_48 h0_49 h0_50 h0_f51 h0_52 h0_f53 h0_39 h0_39k h0_39c h0_38 h0_38k h0_38c) s.heap := hP
  have hl := lv_entry ([.ref h0, .int p1, .int 6, .int p3, .long p4]) (n := 10) (Nat.le_of_ble_eq_true rfl)
  rw [lg_entry_eq]
  generalize (lg_sl ([.ref h0, .int p1, .int 6, .int p3, .long p4]) ++ List.replicate (10 - (lg_sl ([.ref h0, .int p1, .int 6, .int p3, .long p4])).length) Slot.unset).toArray = ls at hl ⊢
  have hl : lv_has ls 10 [(0, .ref h0), (1, .int p1), (2, .int 6), (3, .int p3), (4, .long p4)] := hl
  obtain ⟨H, hHe⟩ : ∃ H : Heap, s.heap = H := ⟨_, rfl⟩
  have hS : va_S A s.heap H [] := by rw [hHe]; exact va_S.rf
  have hP : va_P (dC, dI) vwCl (wd_c_X12_fogOf_6 h0 h0_f0 h0_1 h0_2 h0_3 h0_4 h0_5 h0_f6 h0_f7 h0_f8 h0_f9 h0_f10 h0_f11 h0_f12 h0_f13 h0_f14 h0_15 h0_16 h0_f17 h0_18 h0_19 h0_20 h0_21 h0_22 h0_23 h0_24 h0_25 h0_f26 h0_f27 h0_f28 h0_f29 h0_f30 h0_f31 h0_32 h0_33 h0_f34 h0_35 h0_36 h0_37 h0_38 h0_39 h0_40 h0_f41 h0_f42 h0_f43 h0_f44 h0_45 h0_46 h0_47 h0_48 h0_49 h0_50 h0_f51 h0_52 h0_f53 h0_39 h0_39k h0_39c h0_38 h0_38k h0_38c) H := by rw [← hHe]; exact hP
  rw [hHe]
  refine wj (fun G hG hU => ?_)
  as_aux_lemma =>
  have J11 : ∀ (n11 : Nat) (j11_l6 : Int32) (hM11 : MU j11_l6 < n11) (g_h0_f10 : RG h0_f10 0 240) (g_h0_f11 : RG h0_f11 (-1) 240) (g_h0_f17 : RG h0_f17 0 1) (g_h0_f26 : RG h0_f26 6 6) (g_h0_f27 : RG h0_f27 0 3) (g_h0_f28 : RG h0_f28 0 8) (g_h0_f29 : RG h0_f29 0 3) (g_h0_f30 : RG h0_f30 0 4) (g_h0_f31 : RG h0_f31 0 1) (g_h0_f34 : RG h0_f34 (-1) 3) (g_h0_f41 : RG h0_f41 0 40) (g_h0_f51 : RG h0_f51 0 10) (g_h0_f53 : RG h0_f53 0 1) (g_h0_f6 : RG h0_f6 0 240) (g_h0_f7 : RG h0_f7 0 4) (g_h0_f8 : RG h0_f8 0 720) (g_h0_f9 : RG h0_f9 0 240) (g_j11_l6 : RG j11_l6 0 3) (g_p1 : RG p1 0 2) (g_p3 : RG p3 0 100) (H : Heap) (locs : List Loc) (ls : Array Slot) (hP : va_P (dC, dI) vwCl (wd_c_X12_fogOf_6 h0 h0_f0 h0_1 h0_2 h0_3 h0_4 h0_5 h0_f6 h0_f7 h0_f8 h0_f9 h0_f10 h0_f11 h0_f12 h0_f13 h0_f14 h0_15 h0_16 h0_f17 h0_18 h0_19 h0_20 h0_21 h0_22 h0_23 h0_24 h0_25 h0_f26 h0_f27 h0_f28 h0_f29 h0_f30 h0_f31 h0_32 h0_33 h0_f34 h0_35 h0_36 h0_37 h0_38 h0_39 h0_40 h0_f41 h0_f42 h0_f43 h0_f44 h0_45 h0_46 h0_47 h0_48 h0_49 h0_50 h0_f51 h0_52 h0_f53 h0_39 h0_39k h0_39c h0_38 h0_38k h0_38c) H) (hD : va_D A (wd_c_X12_fogOf_6 h0 h0_f0 h0_1 h0_2 h0_3 h0_4 h0_5 h0_f6 h0_f7 h0_f8 h0_f9 h0_f10 h0_f11 h0_f12 h0_f13 h0_f14 h0_15 h0_16 h0_f17 h0_18 h0_19 h0_20 h0_21 h0_22 h0_23 h0_24 h0_25 h0_f26 h0_f27 h0_f28 h0_f29 h0_f30 h0_f31 h0_32 h0_33 h0_f34 h0_35 h0_36 h0_37 h0_38 h0_39 h0_40 h0_f41 h0_f42 h0_f43 h0_f44 h0_45 h0_46 h0_47 h0_48 h0_49 h0_50 h0_f51 h0_52 h0_f53 h0_39 h0_39k h0_39c h0_38 h0_38k h0_38c)) (hS : va_S A s.heap H locs) (hl : lv_has ls 10 [(6, .int j11_l6), (0, .ref h0), (1, .int p1), (4, .long p4)]), G H locs (F0 m 11 ls []) := by
    as_aux_lemma =>
    intro n11
    induction n11 with
    | zero => intros; exact absurd (by assumption) (Nat.not_lt_zero _)
    | succ n11 ih11 =>
      intro j11_l6 hM11 g_h0_f10 g_h0_f11 g_h0_f17 g_h0_f26 g_h0_f27 g_h0_f28 g_h0_f29 g_h0_f30 g_h0_f31 g_h0_f34 g_h0_f41 g_h0_f51 g_h0_f53 g_h0_f6 g_h0_f7 g_h0_f8 g_h0_f9 g_j11_l6 g_p1 g_p3 H locs ls hP hD hS hl
      have J44 : ∀ (g_h0_f10 : RG h0_f10 0 240) (g_h0_f11 : RG h0_f11 (-1) 240) (g_h0_f17 : RG h0_f17 0 1) (g_h0_f26 : RG h0_f26 6 6) (g_h0_f27 : RG h0_f27 1 3) (g_h0_f28 : RG h0_f28 0 8) (g_h0_f29 : RG h0_f29 0 3) (g_h0_f30 : RG h0_f30 0 4) (g_h0_f31 : RG h0_f31 0 1) (g_h0_f34 : RG h0_f34 (-1) 3) (g_h0_f41 : RG h0_f41 0 40) (g_h0_f51 : RG h0_f51 0 10) (g_h0_f53 : RG h0_f53 0 1) (g_h0_f6 : RG h0_f6 0 240) (g_h0_f7 : RG h0_f7 0 4) (g_h0_f8 : RG h0_f8 0 720) (g_h0_f9 : RG h0_f9 0 240) (g_j11_l6 : RG j11_l6 0 2) (g_p1 : RG p1 0 2) (g_p3 : RG p3 0 100) (H : Heap) (locs : List Loc) (ls : Array Slot) (hP : va_P (dC, dI) vwCl (wd_c_X12_fogOf_6 h0 h0_f0 h0_1 h0_2 h0_3 h0_4 h0_5 h0_f6 h0_f7 h0_f8 h0_f9 h0_f10 h0_f11 h0_f12 h0_f13 h0_f14 h0_15 h0_16 h0_f17 h0_18 h0_19 h0_20 h0_21 h0_22 h0_23 h0_24 h0_25 h0_f26 h0_f27 h0_f28 h0_f29 h0_f30 h0_f31 h0_32 h0_33 h0_f34 h0_35 h0_36 h0_37 h0_38 h0_39 h0_40 h0_f41 h0_f42 h0_f43 h0_f44 h0_45 h0_46 h0_47 h0_48 h0_49 h0_50 h0_f51 h0_52 h0_f53 h0_39 h0_39k h0_39c h0_38 h0_38k h0_38c) H) (hD : va_D A (wd_c_X12_fogOf_6 h0 h0_f0 h0_1 h0_2 h0_3 h0_4 h0_5 h0_f6 h0_f7 h0_f8 h0_f9 h0_f10 h0_f11 h0_f12 h0_f13 h0_f14 h0_15 h0_16 h0_f17 h0_18 h0_19 h0_20 h0_21 h0_22 h0_23 h0_24 h0_25 h0_f26 h0_f27 h0_f28 h0_f29 h0_f30 h0_f31 h0_32 h0_33 h0_f34 h0_35 h0_36 h0_37 h0_38 h0_39 h0_40 h0_f41 h0_f42 h0_f43 h0_f44 h0_45 h0_46 h0_47 h0_48 h0_49 h0_50 h0_f51 h0_52 h0_f53 h0_39 h0_39k h0_39c h0_38 h0_38k h0_38c)) (hS : va_S A s.heap H locs) (hl : lv_has ls 10 [(6, .int j11_l6), (0, .ref h0), (1, .int p1), (4, .long p4)]), G H locs (F0 m 44 ls []) := by
        as_aux_lemma =>
        intro g_h0_f10 g_h0_f11 g_h0_f17 g_h0_f26 g_h0_f27 g_h0_f28 g_h0_f29 g_h0_f30 g_h0_f31 g_h0_f34 g_h0_f41 g_h0_f51 g_h0_f53 g_h0_f6 g_h0_f7 g_h0_f8 g_h0_f9 g_j11_l6 g_p1 g_p3 H locs ls hP hD hS hl
        refine hG _ _ _ ?_
        obtain ⟨x_1, ex_1⟩ : ∃ y : Int32, y = j11_l6 + 1 := ⟨_, rfl⟩
        have g_2 : RG x_1 1 3 := RG_add ex_1 g_j11_l6 (RG_k 1 1 rfl) (by decide +kernel)
        refine lv_iinc (v := x_1) (lv' := [(6, .int x_1), (0, .ref h0), (1, .int p1), (4, .long p4)]) hx hb dX12_fogOf_44 hl (k := 0) rfl (by rw [ex_1]; rfl) (Nat.le_of_ble_eq_true rfl) rfl (fun ls hl => ?_)
        refine lv_goto (tgt := 11) hx hb dX12_fogOf_47 rfl ?_
        exact hU _ _ _ (ih11 x_1 (mu_s (MU_add ex_1 g_j11_l6 (q := 1) rfl (by decide +kernel)) hM11) g_h0_f10 g_h0_f11 g_h0_f17 g_h0_f26 (RG_w g_h0_f27 (by decide +kernel)) g_h0_f28 g_h0_f29 g_h0_f30 g_h0_f31 g_h0_f34 g_h0_f41 g_h0_f51 g_h0_f53 g_h0_f6 g_h0_f7 g_h0_f8 g_h0_f9 (RG_w g_2 (by decide +kernel)) g_p1 g_p3 _ _ _ hP hD hS (lv_sub hl [0, 1, 2, 3] rfl))
      refine hG _ _ _ ?_
      refine lv_iload hx hb dX12_fogOf_11 (lv_at hl 0 rfl) ?_
      refine lv_aload_n hx hb dX12_fogOf_13 rfl (lv_at hl 1 rfl) ?_
      refine va_get (D := (dC, dI)) (ci := 12) (v := .int h0_f27) (C := RX12) (T := TX12) (N := 54) hx hb hts iw_c_X12_fogOf_6_X12 hown hK hP 0 rfl rfl 27 (by decide +kernel) (hts (.fieldLink RX12 312 "BuoyVoteModel" "boats" "I") (List.mem_of_getElem? (i := 8) rfl)) (fun _ h9 => h9) rfl dX12_fogOf_14 ?_
      refine lv_icmp_ge (tgt := 50) hx hb dX12_fogOf_17 rfl (fun c_3 => ?_) (fun c_3 => ?_)
      · refine lv_lload hx hb dX12_fogOf_50 (lv_at hl 3 rfl) ?_
        have hK9 := hK.sub (tys' := []) [] rfl
        exact W.lret (v := p4) hx hb hr (fun t ht hW => ⟨⟨p4, h0_38c, rfl, (Or.inl (LG_any p4)), by rw [ht]; exact hP, va_K.moved hW.alike hK9, hD⟩, hS.F ht⟩) hS.2.2 dX12_fogOf_52
      · have d_4 := Int32.not_le.mp c_3
        have g_5 : RG j11_l6 0 2 := RG_lt1 g_j11_l6 g_h0_f27 d_4 (by decide +kernel)
        have g_6 : RG h0_f27 1 3 := RG_lt2 g_j11_l6 g_h0_f27 d_4 (by decide +kernel)
        refine lv_iload hx hb dX12_fogOf_20 (lv_at hl 0 rfl) ?_
        as_aux_lemma =>
        refine lv_iload_n hx hb dX12_fogOf_22 rfl (lv_at hl 2 rfl) ?_
        refine lv_icmp_eq (tgt := 44) hx hb dX12_fogOf_23 rfl (fun c_7 => ?_) (fun c_7 => ?_)
        · exact hU _ _ _ (J44 g_h0_f10 g_h0_f11 g_h0_f17 g_h0_f26 g_6 g_h0_f28 g_h0_f29 g_h0_f30 g_h0_f31 g_h0_f34 g_h0_f41 g_h0_f51 g_h0_f53 g_h0_f6 g_h0_f7 g_h0_f8 g_h0_f9 g_5 g_p1 g_p3 _ _ _ hP hD hS (lv_sub hl [0, 1, 2, 3] rfl))
        · refine lv_aload_n hx hb dX12_fogOf_26 rfl (lv_at hl 1 rfl) ?_
          refine va_get (D := (dC, dI)) (ci := 12) (v := .ref h0_38) (C := RX12) (T := TX12) (N := 54) hx hb hts iw_c_X12_fogOf_6_X12 hown hK hP 0 rfl rfl 38 (by decide +kernel) (hts (.fieldLink RX12 81 "BuoyVoteModel" "tally" "[I") (List.mem_of_getElem? (i := 9) rfl)) (fun _ h9 => h9) rfl dX12_fogOf_27 ?_
          refine lv_iload hx hb dX12_fogOf_30 (lv_at hl 0 rfl) ?_
          refine va_iald hx hb hK hP 2 1 rfl rfl (RG_in g_5 (by decide +kernel)) dX12_fogOf_32 ?_
          refine lv_topi (fun x_8 ex_8 => ?_)
          refine lv_aload_n hx hb dX12_fogOf_33 rfl (lv_at hl 1 rfl) ?_
          refine va_get (D := (dC, dI)) (ci := 12) (v := .ref h0_38) (C := RX12) (T := TX12) (N := 54) hx hb hts iw_c_X12_fogOf_6_X12 hown hK hP 0 rfl rfl 38 (by decide +kernel) (hts (.fieldLink RX12 81 "BuoyVoteModel" "tally" "[I") (List.mem_of_getElem? (i := 9) rfl)) (fun _ h9 => h9) rfl dX12_fogOf_34 ?_
          refine lv_iload_n hx hb dX12_fogOf_37 rfl (lv_at hl 2 rfl) ?_
          refine va_iald hx hb hK hP 2 1 rfl rfl (RG_in g_p1 (by decide +kernel)) dX12_fogOf_38 ?_
          refine lv_topi (fun x_9 ex_9 => ?_)
          refine lv_icmp_lt (tgt := 44) hx hb dX12_fogOf_39 rfl (fun c_10 => ?_) (fun c_10 => ?_)
          · have g_11 : RG x_8 (-2147483648) 2147483646 := RG_lt1 (RG_any x_8) (RG_any x_9) c_10 (by decide +kernel)
            have g_12 : RG x_9 (-2147483647) 2147483647 := RG_lt2 (RG_any x_8) (RG_any x_9) c_10 (by decide +kernel)
            exact hU _ _ _ (J44 g_h0_f10 g_h0_f11 g_h0_f17 g_h0_f26 g_6 g_h0_f28 g_h0_f29 g_h0_f30 g_h0_f31 g_h0_f34 g_h0_f41 g_h0_f51 g_h0_f53 g_h0_f6 g_h0_f7 g_h0_f8 g_h0_f9 g_5 g_p1 g_p3 _ _ _ hP hD hS (lv_sub hl [0, 1, 2, 3] rfl))
          · have d_13 := Int32.not_lt.mp c_10
            refine lv_lconst (v := 0) hx hb dX12_fogOf_42 (by decide +kernel) ?_
            as_aux_lemma =>
            have hK9 := hK.sub (tys' := []) [] rfl
            exact W.lret (v := 0) hx hb hr (fun t ht hW => ⟨⟨0, h0_38c, rfl, (Or.inr ⟨rfl, g_6⟩), by rw [ht]; exact hP, va_K.moved hW.alike hK9, hD⟩, hS.F ht⟩) hS.2.2 dX12_fogOf_43
  refine hG _ _ _ ?_
  refine lv_iload_n hx hb dX12_fogOf_0 rfl (lv_at hl 2 rfl) ?_
  refine lv_aload_n hx hb dX12_fogOf_1 rfl (lv_at hl 0 rfl) ?_
  refine va_get (D := (dC, dI)) (ci := 12) (v := .int h0_f26) (C := RX12) (T := TX12) (N := 54) hx hb hts iw_c_X12_fogOf_6_X12 hown hK hP 0 rfl rfl 26 (by decide +kernel) (hts (.fieldLink RX12 309 "BuoyVoteModel" "buoys" "I") (List.mem_of_getElem? (i := 1) rfl)) (fun _ h9 => h9) rfl dX12_fogOf_2 ?_
  refine lv_icmp_ne (tgt := 53) hx hb dX12_fogOf_5 rfl (fun c_14 => ?_) (fun c_14 => ?_)
  · have g_15 : RG h0_f26 7 8 := RG_ne1 g_h0_f26 (q := 6) rfl (fun q => c_14 q.symm) (by decide +kernel)
    refine lv_aload_n hx hb dX12_fogOf_53 rfl (lv_at hl 0 rfl) ?_
    refine va_get (D := (dC, dI)) (ci := 12) (v := .ref h0_39) (C := RX12) (T := TX12) (N := 54) hx hb hts iw_c_X12_fogOf_6_X12 hown hK hP 0 rfl rfl 39 (by decide +kernel) (hts (.fieldLink RX12 84 "BuoyVoteModel" "leans" "[I") (List.mem_of_getElem? (i := 2) rfl)) (fun _ h9 => h9) rfl dX12_fogOf_54 ?_
    refine lv_iload_n hx hb dX12_fogOf_57 rfl (lv_at hl 2 rfl) ?_
    refine va_iald hx hb hK hP 1 0 rfl rfl (RG_in (RG_k 6 6 rfl) (by decide +kernel)) dX12_fogOf_58 ?_
    refine lv_topi (fun x_16 ex_16 => ?_)
    have g_17 : RG x_16 (-1) 2 := AI_rd a_h0_39c ex_16
    refine lv_iconst (v := (-1)) hx hb dX12_fogOf_59 kc_iconst_m1 ?_
    as_aux_lemma =>
    refine lv_icmp_ne (tgt := 75) hx hb dX12_fogOf_60 rfl (fun c_18 => ?_) (fun c_18 => ?_)
    · have g_19 : RG x_16 0 2 := RG_ne1 g_17 (q := (-1)) rfl c_18 (by decide +kernel)
      refine lv_lload hx hb dX12_fogOf_75 (lv_at hl 4 rfl) ?_
      refine lv_iload_n hx hb dX12_fogOf_77 rfl (lv_at hl 3 rfl) ?_
      refine lv_i2l (v := p3.toInt64) hx hb dX12_fogOf_78 rfl ?_
      refine lv_topl (fun x_20 ex_20 => ?_)
      have g_21 : LG x_20 0 100 := LG_i2l ex_20 g_p3
      refine lv_lmul hx hb dX12_fogOf_79 ?_
      refine lv_topl (fun x_22 ex_22 => ?_)
      refine lv_ldc2 hx hb hown (hts (.constantLong RX12 545 (100)) (List.mem_of_getElem? (i := 3) rfl)) dX12_fogOf_80 ?_
      refine lv_ldiv hx hb dX12_fogOf_83 (by decide +kernel) ?_
      refine lv_topl (fun x_23 ex_23 => ?_)
      refine lv_lstore (lv' := [(6, .long x_23), (0, .ref h0), (1, .int p1), (2, .int 6), (3, .int p3), (4, .long p4)]) hx hb dX12_fogOf_84 hl (Nat.le_of_ble_eq_true rfl) rfl (fun ls hl => ?_)
      refine lv_aload_n hx hb dX12_fogOf_86 rfl (lv_at hl 1 rfl) ?_
      as_aux_lemma =>
      refine lv_iload_n hx hb dX12_fogOf_87 rfl (lv_at hl 2 rfl) ?_
      refine lv_iload_n hx hb dX12_fogOf_88 rfl (lv_at hl 3 rfl) ?_
      refine lv_iconst (v := 1) hx hb dX12_fogOf_89 kc_iconst_1 ?_
      refine lv_iadd hx hb dX12_fogOf_90 ?_
      refine lv_topi (fun x_24 ex_24 => ?_)
      obtain rfl : x_24 = 7 := ex_24.trans (by decide +kernel)
      refine lv_iload_n hx hb dX12_fogOf_91 rfl (lv_at hl 4 rfl) ?_
      refine lv_lload hx hb dX12_fogOf_92 (lv_at hl 0 rfl) ?_
      obtain ⟨hPc, hDc, hFc, hqc⟩ := cl_cut (wc := (wd_c_X12_fogOf_7 h0 h0_f0 h0_1 h0_2 h0_3 h0_4 h0_5 h0_f6 h0_f7 h0_f8 h0_f9 h0_f10 h0_f11 h0_f12 h0_f13 h0_f14 h0_15 h0_16 h0_f17 h0_18 h0_19 h0_20 h0_21 h0_22 h0_23 h0_24 h0_25 h0_f26 h0_f27 h0_f28 h0_f29 h0_f30 h0_f31 h0_32 h0_33 h0_f34 h0_35 h0_36 h0_37 h0_38 h0_39 h0_40 h0_f41 h0_f42 h0_f43 h0_f44 h0_45 h0_46 h0_47 h0_48 h0_49 h0_50 h0_f51 h0_52 h0_f53 h0_39 h0_39k h0_39c h0_38 h0_38k h0_38c)) hP hD hS hA [0, 1, 2] (by decide +kernel) rfl
      have hKc := hK.sub (tys' := [(h0_39k, .int), (h0_38k, .int)]) [0, 1] rfl
      have hrv := va_recv hKc hPc (ci := 12) (q0 := 0) rfl rfl
      refine va_calll (va_runV (As := [.int p1, .int 7, .int p3, .long x_23]) (rest := []) ⟨hx, hb, hml, hown, hts⟩ (c_X12_fogOf_7 l dC dI H.size h0 p1 p3 x_23 h0_f0 h0_1 h0_2 h0_3 h0_4 h0_5 h0_f6 h0_f7 h0_f8 h0_f9 h0_f10 h0_f11 h0_f12 h0_f13 h0_f14 h0_15 h0_16 h0_f17 h0_18 h0_19 h0_20 h0_21 h0_22 h0_23 h0_24 h0_25 h0_f26 h0_f27 h0_f28 h0_f29 h0_f30 h0_f31 h0_32 h0_33 h0_f34 h0_35 h0_36 h0_37 h0_38 h0_39 h0_40 h0_f41 h0_f42 h0_f43 h0_f44 h0_45 h0_46 h0_47 h0_48 h0_49 h0_50 h0_f51 h0_52 h0_f53 h0_39k h0_39c h0_38k h0_38c g_p1 g_p3 g_h0_f6 g_h0_f7 g_h0_f8 g_h0_f9 g_h0_f10 g_h0_f11 g_h0_f17 g_15 g_h0_f27 g_h0_f28 g_h0_f29 g_h0_f30 g_h0_f31 g_h0_f34 g_h0_f41 g_h0_f51 g_h0_f53 a_h0_39c) (cwV 4 hts gf_c_X12_fogOf_6_c_X12_fogOf_7 rfl rfl rfl mdV_X12_fogOf ⟨Nat.le_of_ble_eq_true rfl, Nat.le_of_ble_eq_true rfl⟩) ⟨fun a U g mk q => by obtain ⟨q0, q1, qP, qK, qD⟩ := q; exact ⟨q0, q1, qP, va_K.moved (u := U) (U := U.calling g mk a) (Vm.Alike.refl U.vm) qK, qD⟩, hrv, fun U hU hW => ⟨rfl, by rw [hU], by rw [hU]; exact hPc, va_K.moved hW.alike hKc, hDc.weaken (fun _ _ _ _ => trivial)⟩⟩ rfl rfl hl.1 rfl (lv_room (Nat.le_of_ble_eq_true rfl)) dX12_fogOf_94 ⟨Nat.le_of_ble_eq_true rfl, Nat.le_of_ble_eq_true rfl⟩) hS (fun q _ h => hFc q h) hFc (fun r_25 w_26 t H1 locs ht hvm hw hB hz1 hk1 hS => ?_)
      obtain ⟨hP1, hK1, hD1⟩ := hB
      rw [ht] at hP1
      obtain ⟨hP, hD⟩ := cl_put (w1 := (wd_c_X12_fogOf_7 h0 h0_f0 h0_1 h0_2 h0_3 h0_4 h0_5 h0_f6 h0_f7 h0_f8 h0_f9 h0_f10 h0_f11 h0_f12 h0_f13 h0_f14 h0_15 h0_16 h0_f17 h0_18 h0_19 h0_20 h0_21 h0_22 h0_23 h0_24 h0_25 h0_f26 h0_f27 h0_f28 h0_f29 h0_f30 h0_f31 h0_32 h0_33 h0_f34 h0_35 h0_36 h0_37 h0_38 h0_39 h0_40 h0_f41 h0_f42 h0_f43 h0_f44 h0_45 h0_46 h0_47 h0_48 h0_49 h0_50 h0_f51 h0_52 h0_f53 h0_39 h0_39k h0_39c h0_38 h0_38k w_26)) (nw := (wd_c_X12_fogOf_6 h0 h0_f0 h0_1 h0_2 h0_3 h0_4 h0_5 h0_f6 h0_f7 h0_f8 h0_f9 h0_f10 h0_f11 h0_f12 h0_f13 h0_f14 h0_15 h0_16 h0_f17 h0_18 h0_19 h0_20 h0_21 h0_22 h0_23 h0_24 h0_25 h0_f26 h0_f27 h0_f28 h0_f29 h0_f30 h0_f31 h0_32 h0_33 h0_f34 h0_35 h0_36 h0_37 h0_38 h0_39 h0_40 h0_f41 h0_f42 h0_f43 h0_f44 h0_45 h0_46 h0_47 h0_48 h0_49 h0_50 h0_f51 h0_52 h0_f53 h0_39 h0_39k h0_39c h0_38 h0_38k w_26)) hP hD [0, 1, 2] [3, 4, 5] 3 rfl hqc (by decide +kernel) rfl hk1 hFc hP1 hD1
      generalize H1 = H at hP hS ⊢
      as_aux_lemma =>
      rcases hw with h_27 | ⟨h_28, h_29⟩
      · refine lv_lstore (lv' := [(8, .long r_25), (6, .long x_23), (0, .ref h0), (1, .int p1), (2, .int 6), (3, .int p3), (4, .long p4)]) hx hb dX12_fogOf_97 hl (Nat.le_of_ble_eq_true rfl) rfl (fun ls hl => ?_)
        refine lv_aload_n hx hb dX12_fogOf_99 rfl (lv_at hl 2 rfl) ?_
        refine va_get (D := (dC, dI)) (ci := 12) (v := .ref h0_38) (C := RX12) (T := TX12) (N := 54) hx hb hts iw_c_X12_fogOf_6_X12 hown hK hP 0 rfl rfl 38 (by decide +kernel) (hts (.fieldLink RX12 81 "BuoyVoteModel" "tally" "[I") (List.mem_of_getElem? (i := 9) rfl)) (fun _ h9 => h9) rfl dX12_fogOf_100 ?_
        refine lv_aload_n hx hb dX12_fogOf_103 rfl (lv_at hl 2 rfl) ?_
        refine va_get (D := (dC, dI)) (ci := 12) (v := .ref h0_39) (C := RX12) (T := TX12) (N := 54) hx hb hts iw_c_X12_fogOf_6_X12 hown hK hP 0 rfl rfl 39 (by decide +kernel) (hts (.fieldLink RX12 84 "BuoyVoteModel" "leans" "[I") (List.mem_of_getElem? (i := 2) rfl)) (fun _ h9 => h9) rfl dX12_fogOf_104 ?_
        refine lv_iload_n hx hb dX12_fogOf_107 rfl (lv_at hl 4 rfl) ?_
        refine va_iald hx hb hK hP 1 0 rfl rfl (RG_in (RG_k 6 6 rfl) (by decide +kernel)) dX12_fogOf_108 ?_
        refine lv_topi (fun x_30 ex_30 => ?_)
        obtain rfl : x_16 = x_30 := (ex_30.trans ex_16.symm).symm
        refine lv_dup2_11 hx hb dX12_fogOf_109 rfl rfl ?_
        refine va_iald hx hb hK hP 2 1 rfl rfl (RG_in g_19 (by decide +kernel)) dX12_fogOf_110 ?_
        refine lv_topi (fun x_31 ex_31 => ?_)
        refine lv_iconst (v := 1) hx hb dX12_fogOf_111 kc_iconst_1 ?_
        as_aux_lemma =>
        refine lv_iadd hx hb dX12_fogOf_112 ?_
        refine lv_topi (fun x_32 ex_32 => ?_)
        refine va_iast hx hb hK hP hD hS 2 1 rfl rfl (RG_in g_19 (by decide +kernel)) dX12_fogOf_113 (fun H locs hP hD hS => ?_)
        have hP : va_P (dC, dI) vwCl (wd_c_X12_fogOf_6 h0 h0_f0 h0_1 h0_2 h0_3 h0_4 h0_5 h0_f6 h0_f7 h0_f8 h0_f9 h0_f10 h0_f11 h0_f12 h0_f13 h0_f14 h0_15 h0_16 h0_f17 h0_18 h0_19 h0_20 h0_21 h0_22 h0_23 h0_24 h0_25 h0_f26 h0_f27 h0_f28 h0_f29 h0_f30 h0_f31 h0_32 h0_33 h0_f34 h0_35 h0_36 h0_37 h0_38 h0_39 h0_40 h0_f41 h0_f42 h0_f43 h0_f44 h0_45 h0_46 h0_47 h0_48 h0_49 h0_50 h0_f51 h0_52 h0_f53 h0_39 h0_39k h0_39c h0_38 h0_38k (upd w_26 (x_16 : Int32).toNatClampNeg x_32)) H := hP
        have hD : va_D A (wd_c_X12_fogOf_6 h0 h0_f0 h0_1 h0_2 h0_3 h0_4 h0_5 h0_f6 h0_f7 h0_f8 h0_f9 h0_f10 h0_f11 h0_f12 h0_f13 h0_f14 h0_15 h0_16 h0_f17 h0_18 h0_19 h0_20 h0_21 h0_22 h0_23 h0_24 h0_25 h0_f26 h0_f27 h0_f28 h0_f29 h0_f30 h0_f31 h0_32 h0_33 h0_f34 h0_35 h0_36 h0_37 h0_38 h0_39 h0_40 h0_f41 h0_f42 h0_f43 h0_f44 h0_45 h0_46 h0_47 h0_48 h0_49 h0_50 h0_f51 h0_52 h0_f53 h0_39 h0_39k h0_39c h0_38 h0_38k (upd w_26 (x_16 : Int32).toNatClampNeg x_32)) := hD
        have l_34 : (upd w_26 (x_16 : Int32).toNatClampNeg x_32) (x_16 : Int32).toNatClampNeg = x_32 := pk_us
        generalize (upd w_26 (x_16 : Int32).toNatClampNeg x_32) = w_33 at hP hD l_34
        have hP : va_P (dC, dI) vwCl (wd_c_X12_fogOf_6 h0 h0_f0 h0_1 h0_2 h0_3 h0_4 h0_5 h0_f6 h0_f7 h0_f8 h0_f9 h0_f10 h0_f11 h0_f12 h0_f13 h0_f14 h0_15 h0_16 h0_f17 h0_18 h0_19 h0_20 h0_21 h0_22 h0_23 h0_24 h0_25 h0_f26 h0_f27 h0_f28 h0_f29 h0_f30 h0_f31 h0_32 h0_33 h0_f34 h0_35 h0_36 h0_37 h0_38 h0_39 h0_40 h0_f41 h0_f42 h0_f43 h0_f44 h0_45 h0_46 h0_47 h0_48 h0_49 h0_50 h0_f51 h0_52 h0_f53 h0_39 h0_39k h0_39c h0_38 h0_38k w_33) H := hP
        have hD : va_D A (wd_c_X12_fogOf_6 h0 h0_f0 h0_1 h0_2 h0_3 h0_4 h0_5 h0_f6 h0_f7 h0_f8 h0_f9 h0_f10 h0_f11 h0_f12 h0_f13 h0_f14 h0_15 h0_16 h0_f17 h0_18 h0_19 h0_20 h0_21 h0_22 h0_23 h0_24 h0_25 h0_f26 h0_f27 h0_f28 h0_f29 h0_f30 h0_f31 h0_32 h0_33 h0_f34 h0_35 h0_36 h0_37 h0_38 h0_39 h0_40 h0_f41 h0_f42 h0_f43 h0_f44 h0_45 h0_46 h0_47 h0_48 h0_49 h0_50 h0_f51 h0_52 h0_f53 h0_39 h0_39k h0_39c h0_38 h0_38k w_33) := hD
        refine lv_lload hx hb dX12_fogOf_114 (lv_at hl 0 rfl) ?_
        refine lv_aload_n hx hb dX12_fogOf_116 rfl (lv_at hl 2 rfl) ?_
        refine lv_iload_n hx hb dX12_fogOf_117 rfl (lv_at hl 3 rfl) ?_
        refine lv_iload_n hx hb dX12_fogOf_118 rfl (lv_at hl 4 rfl) ?_
        refine lv_iconst (v := 1) hx hb dX12_fogOf_119 kc_iconst_1 ?_
        as_aux_lemma =>
        refine lv_iadd hx hb dX12_fogOf_120 ?_
        refine lv_topi (fun x_35 ex_35 => ?_)
        obtain rfl : x_35 = 7 := ex_35.trans (by decide +kernel)
        refine lv_iload_n hx hb dX12_fogOf_121 rfl (lv_at hl 5 rfl) ?_
        refine lv_lload hx hb dX12_fogOf_122 (lv_at hl 6 rfl) ?_
        refine lv_lload hx hb dX12_fogOf_124 (lv_at hl 1 rfl) ?_
        refine lv_lsub hx hb dX12_fogOf_126 ?_
        refine lv_topl (fun x_36 ex_36 => ?_)
        obtain ⟨hPc, hDc, hFc, hqc⟩ := cl_cut (wc := (wd_c_X12_fogOf_7 h0 h0_f0 h0_1 h0_2 h0_3 h0_4 h0_5 h0_f6 h0_f7 h0_f8 h0_f9 h0_f10 h0_f11 h0_f12 h0_f13 h0_f14 h0_15 h0_16 h0_f17 h0_18 h0_19 h0_20 h0_21 h0_22 h0_23 h0_24 h0_25 h0_f26 h0_f27 h0_f28 h0_f29 h0_f30 h0_f31 h0_32 h0_33 h0_f34 h0_35 h0_36 h0_37 h0_38 h0_39 h0_40 h0_f41 h0_f42 h0_f43 h0_f44 h0_45 h0_46 h0_47 h0_48 h0_49 h0_50 h0_f51 h0_52 h0_f53 h0_39 h0_39k h0_39c h0_38 h0_38k w_33)) hP hD hS hA [0, 1, 2] (by decide +kernel) rfl
        have hKc := hK.sub (tys' := [(h0_39k, .int), (h0_38k, .int)]) [0, 1] rfl
        have hrv := va_recv hKc hPc (ci := 12) (q0 := 0) rfl rfl
        refine va_calll (va_runV (As := [.int p1, .int 7, .int p3, .long x_36]) (rest := [.long r_25]) ⟨hx, hb, hml, hown, hts⟩ (c_X12_fogOf_7 l dC dI H.size h0 p1 p3 x_36 h0_f0 h0_1 h0_2 h0_3 h0_4 h0_5 h0_f6 h0_f7 h0_f8 h0_f9 h0_f10 h0_f11 h0_f12 h0_f13 h0_f14 h0_15 h0_16 h0_f17 h0_18 h0_19 h0_20 h0_21 h0_22 h0_23 h0_24 h0_25 h0_f26 h0_f27 h0_f28 h0_f29 h0_f30 h0_f31 h0_32 h0_33 h0_f34 h0_35 h0_36 h0_37 h0_38 h0_39 h0_40 h0_f41 h0_f42 h0_f43 h0_f44 h0_45 h0_46 h0_47 h0_48 h0_49 h0_50 h0_f51 h0_52 h0_f53 h0_39k h0_39c h0_38k w_33 g_p1 g_p3 g_h0_f6 g_h0_f7 g_h0_f8 g_h0_f9 g_h0_f10 g_h0_f11 g_h0_f17 g_15 g_h0_f27 g_h0_f28 g_h0_f29 g_h0_f30 g_h0_f31 g_h0_f34 g_h0_f41 g_h0_f51 g_h0_f53 a_h0_39c) (cwV 4 hts gf_c_X12_fogOf_6_c_X12_fogOf_7 rfl rfl rfl mdV_X12_fogOf ⟨Nat.le_of_ble_eq_true rfl, Nat.le_of_ble_eq_true rfl⟩) ⟨fun a U g mk q => by obtain ⟨q0, q1, qP, qK, qD⟩ := q; exact ⟨q0, q1, qP, va_K.moved (u := U) (U := U.calling g mk a) (Vm.Alike.refl U.vm) qK, qD⟩, hrv, fun U hU hW => ⟨rfl, by rw [hU], by rw [hU]; exact hPc, va_K.moved hW.alike hKc, hDc.weaken (fun _ _ _ _ => trivial)⟩⟩ rfl rfl hl.1 rfl (lv_room (Nat.le_of_ble_eq_true rfl)) dX12_fogOf_127 ⟨Nat.le_of_ble_eq_true rfl, Nat.le_of_ble_eq_true rfl⟩) hS (fun q _ h => hFc q h) hFc (fun r_37 w_38 t H1 locs ht hvm hw hB hz1 hk1 hS => ?_)
        obtain ⟨hP1, hK1, hD1⟩ := hB
        rw [ht] at hP1
        obtain ⟨hP, hD⟩ := cl_put (w1 := (wd_c_X12_fogOf_7 h0 h0_f0 h0_1 h0_2 h0_3 h0_4 h0_5 h0_f6 h0_f7 h0_f8 h0_f9 h0_f10 h0_f11 h0_f12 h0_f13 h0_f14 h0_15 h0_16 h0_f17 h0_18 h0_19 h0_20 h0_21 h0_22 h0_23 h0_24 h0_25 h0_f26 h0_f27 h0_f28 h0_f29 h0_f30 h0_f31 h0_32 h0_33 h0_f34 h0_35 h0_36 h0_37 h0_38 h0_39 h0_40 h0_f41 h0_f42 h0_f43 h0_f44 h0_45 h0_46 h0_47 h0_48 h0_49 h0_50 h0_f51 h0_52 h0_f53 h0_39 h0_39k h0_39c h0_38 h0_38k w_38)) (nw := (wd_c_X12_fogOf_6 h0 h0_f0 h0_1 h0_2 h0_3 h0_4 h0_5 h0_f6 h0_f7 h0_f8 h0_f9 h0_f10 h0_f11 h0_f12 h0_f13 h0_f14 h0_15 h0_16 h0_f17 h0_18 h0_19 h0_20 h0_21 h0_22 h0_23 h0_24 h0_25 h0_f26 h0_f27 h0_f28 h0_f29 h0_f30 h0_f31 h0_32 h0_33 h0_f34 h0_35 h0_36 h0_37 h0_38 h0_39 h0_40 h0_f41 h0_f42 h0_f43 h0_f44 h0_45 h0_46 h0_47 h0_48 h0_49 h0_50 h0_f51 h0_52 h0_f53 h0_39 h0_39k h0_39c h0_38 h0_38k w_38)) hP hD [0, 1, 2] [3, 4, 5] 3 rfl hqc (by decide +kernel) rfl hk1 hFc hP1 hD1
        generalize H1 = H at hP hS ⊢
        as_aux_lemma =>
        rcases hw with h_39 | ⟨h_40, h_41⟩
        · refine lv_ladd hx hb dX12_fogOf_130 ?_
          refine lv_topl (fun x_42 ex_42 => ?_)
          refine lv_lstore (lv' := [(8, .long x_42), (6, .long x_23), (0, .ref h0), (1, .int p1), (2, .int 6), (3, .int p3), (4, .long p4)]) hx hb dX12_fogOf_131 hl (Nat.le_of_ble_eq_true rfl) rfl (fun ls hl => ?_)
          refine lv_aload_n hx hb dX12_fogOf_133 rfl (lv_at hl 2 rfl) ?_
          refine va_get (D := (dC, dI)) (ci := 12) (v := .ref h0_38) (C := RX12) (T := TX12) (N := 54) hx hb hts iw_c_X12_fogOf_6_X12 hown hK hP 0 rfl rfl 38 (by decide +kernel) (hts (.fieldLink RX12 81 "BuoyVoteModel" "tally" "[I") (List.mem_of_getElem? (i := 9) rfl)) (fun _ h9 => h9) rfl dX12_fogOf_134 ?_
          refine lv_aload_n hx hb dX12_fogOf_137 rfl (lv_at hl 2 rfl) ?_
          refine va_get (D := (dC, dI)) (ci := 12) (v := .ref h0_39) (C := RX12) (T := TX12) (N := 54) hx hb hts iw_c_X12_fogOf_6_X12 hown hK hP 0 rfl rfl 39 (by decide +kernel) (hts (.fieldLink RX12 84 "BuoyVoteModel" "leans" "[I") (List.mem_of_getElem? (i := 2) rfl)) (fun _ h9 => h9) rfl dX12_fogOf_138 ?_
          refine lv_iload_n hx hb dX12_fogOf_141 rfl (lv_at hl 4 rfl) ?_
          refine va_iald hx hb hK hP 1 0 rfl rfl (RG_in (RG_k 6 6 rfl) (by decide +kernel)) dX12_fogOf_142 ?_
          refine lv_topi (fun x_43 ex_43 => ?_)
          obtain rfl : x_16 = x_43 := (ex_43.trans ex_16.symm).symm
          refine lv_dup2_11 hx hb dX12_fogOf_143 rfl rfl ?_
          refine va_iald hx hb hK hP 2 1 rfl rfl (RG_in g_19 (by decide +kernel)) dX12_fogOf_144 ?_
          as_aux_lemma =>
          refine lv_topi (fun x_44 ex_44 => ?_)
          refine lv_iconst (v := 1) hx hb dX12_fogOf_145 kc_iconst_1 ?_
          refine lv_isub hx hb dX12_fogOf_146 ?_
          refine lv_topi (fun x_45 ex_45 => ?_)
          refine va_iast hx hb hK hP hD hS 2 1 rfl rfl (RG_in g_19 (by decide +kernel)) dX12_fogOf_147 (fun H locs hP hD hS => ?_)
          have hP : va_P (dC, dI) vwCl (wd_c_X12_fogOf_6 h0 h0_f0 h0_1 h0_2 h0_3 h0_4 h0_5 h0_f6 h0_f7 h0_f8 h0_f9 h0_f10 h0_f11 h0_f12 h0_f13 h0_f14 h0_15 h0_16 h0_f17 h0_18 h0_19 h0_20 h0_21 h0_22 h0_23 h0_24 h0_25 h0_f26 h0_f27 h0_f28 h0_f29 h0_f30 h0_f31 h0_32 h0_33 h0_f34 h0_35 h0_36 h0_37 h0_38 h0_39 h0_40 h0_f41 h0_f42 h0_f43 h0_f44 h0_45 h0_46 h0_47 h0_48 h0_49 h0_50 h0_f51 h0_52 h0_f53 h0_39 h0_39k h0_39c h0_38 h0_38k (upd w_38 (x_16 : Int32).toNatClampNeg x_45)) H := hP
          have hD : va_D A (wd_c_X12_fogOf_6 h0 h0_f0 h0_1 h0_2 h0_3 h0_4 h0_5 h0_f6 h0_f7 h0_f8 h0_f9 h0_f10 h0_f11 h0_f12 h0_f13 h0_f14 h0_15 h0_16 h0_f17 h0_18 h0_19 h0_20 h0_21 h0_22 h0_23 h0_24 h0_25 h0_f26 h0_f27 h0_f28 h0_f29 h0_f30 h0_f31 h0_32 h0_33 h0_f34 h0_35 h0_36 h0_37 h0_38 h0_39 h0_40 h0_f41 h0_f42 h0_f43 h0_f44 h0_45 h0_46 h0_47 h0_48 h0_49 h0_50 h0_f51 h0_52 h0_f53 h0_39 h0_39k h0_39c h0_38 h0_38k (upd w_38 (x_16 : Int32).toNatClampNeg x_45)) := hD
          have l_47 : (upd w_38 (x_16 : Int32).toNatClampNeg x_45) (x_16 : Int32).toNatClampNeg = x_45 := pk_us
          generalize (upd w_38 (x_16 : Int32).toNatClampNeg x_45) = w_46 at hP hD l_47
          have hP : va_P (dC, dI) vwCl (wd_c_X12_fogOf_6 h0 h0_f0 h0_1 h0_2 h0_3 h0_4 h0_5 h0_f6 h0_f7 h0_f8 h0_f9 h0_f10 h0_f11 h0_f12 h0_f13 h0_f14 h0_15 h0_16 h0_f17 h0_18 h0_19 h0_20 h0_21 h0_22 h0_23 h0_24 h0_25 h0_f26 h0_f27 h0_f28 h0_f29 h0_f30 h0_f31 h0_32 h0_33 h0_f34 h0_35 h0_36 h0_37 h0_38 h0_39 h0_40 h0_f41 h0_f42 h0_f43 h0_f44 h0_45 h0_46 h0_47 h0_48 h0_49 h0_50 h0_f51 h0_52 h0_f53 h0_39 h0_39k h0_39c h0_38 h0_38k w_46) H := hP
          have hD : va_D A (wd_c_X12_fogOf_6 h0 h0_f0 h0_1 h0_2 h0_3 h0_4 h0_5 h0_f6 h0_f7 h0_f8 h0_f9 h0_f10 h0_f11 h0_f12 h0_f13 h0_f14 h0_15 h0_16 h0_f17 h0_18 h0_19 h0_20 h0_21 h0_22 h0_23 h0_24 h0_25 h0_f26 h0_f27 h0_f28 h0_f29 h0_f30 h0_f31 h0_32 h0_33 h0_f34 h0_35 h0_36 h0_37 h0_38 h0_39 h0_40 h0_f41 h0_f42 h0_f43 h0_f44 h0_45 h0_46 h0_47 h0_48 h0_49 h0_50 h0_f51 h0_52 h0_f53 h0_39 h0_39k h0_39c h0_38 h0_38k w_46) := hD
          refine lv_lload hx hb dX12_fogOf_148 (lv_at hl 0 rfl) ?_
          have hK9 := hK.sub (tys' := []) [] rfl
          exact W.lret (v := x_42) hx hb hr (fun t ht hW => ⟨⟨x_42, w_46, rfl, (Or.inl (LG_any x_42)), by rw [ht]; exact hP, va_K.moved hW.alike hK9, hD⟩, hS.F ht⟩) hS.2.2 dX12_fogOf_150
        · rw [h_40]
          refine lv_ladd hx hb dX12_fogOf_130 ?_
          as_aux_lemma =>
          refine lv_topl (fun x_48 ex_48 => ?_)
          refine lv_lstore (lv' := [(8, .long x_48), (6, .long x_23), (0, .ref h0), (1, .int p1), (2, .int 6), (3, .int p3), (4, .long p4)]) hx hb dX12_fogOf_131 hl (Nat.le_of_ble_eq_true rfl) rfl (fun ls hl => ?_)
          refine lv_aload_n hx hb dX12_fogOf_133 rfl (lv_at hl 2 rfl) ?_
          refine va_get (D := (dC, dI)) (ci := 12) (v := .ref h0_38) (C := RX12) (T := TX12) (N := 54) hx hb hts iw_c_X12_fogOf_6_X12 hown hK hP 0 rfl rfl 38 (by decide +kernel) (hts (.fieldLink RX12 81 "BuoyVoteModel" "tally" "[I") (List.mem_of_getElem? (i := 9) rfl)) (fun _ h9 => h9) rfl dX12_fogOf_134 ?_
          refine lv_aload_n hx hb dX12_fogOf_137 rfl (lv_at hl 2 rfl) ?_
          refine va_get (D := (dC, dI)) (ci := 12) (v := .ref h0_39) (C := RX12) (T := TX12) (N := 54) hx hb hts iw_c_X12_fogOf_6_X12 hown hK hP 0 rfl rfl 39 (by decide +kernel) (hts (.fieldLink RX12 84 "BuoyVoteModel" "leans" "[I") (List.mem_of_getElem? (i := 2) rfl)) (fun _ h9 => h9) rfl dX12_fogOf_138 ?_
          refine lv_iload_n hx hb dX12_fogOf_141 rfl (lv_at hl 4 rfl) ?_
          refine va_iald hx hb hK hP 1 0 rfl rfl (RG_in (RG_k 6 6 rfl) (by decide +kernel)) dX12_fogOf_142 ?_
          refine lv_topi (fun x_49 ex_49 => ?_)
          obtain rfl : x_16 = x_49 := (ex_49.trans ex_16.symm).symm
          refine lv_dup2_11 hx hb dX12_fogOf_143 rfl rfl ?_
          refine va_iald hx hb hK hP 2 1 rfl rfl (RG_in g_19 (by decide +kernel)) dX12_fogOf_144 ?_
          refine lv_topi (fun x_50 ex_50 => ?_)
          refine lv_iconst (v := 1) hx hb dX12_fogOf_145 kc_iconst_1 ?_
          as_aux_lemma =>
          refine lv_isub hx hb dX12_fogOf_146 ?_
          refine lv_topi (fun x_51 ex_51 => ?_)
          refine va_iast hx hb hK hP hD hS 2 1 rfl rfl (RG_in g_19 (by decide +kernel)) dX12_fogOf_147 (fun H locs hP hD hS => ?_)
          have hP : va_P (dC, dI) vwCl (wd_c_X12_fogOf_6 h0 h0_f0 h0_1 h0_2 h0_3 h0_4 h0_5 h0_f6 h0_f7 h0_f8 h0_f9 h0_f10 h0_f11 h0_f12 h0_f13 h0_f14 h0_15 h0_16 h0_f17 h0_18 h0_19 h0_20 h0_21 h0_22 h0_23 h0_24 h0_25 h0_f26 h0_f27 h0_f28 h0_f29 h0_f30 h0_f31 h0_32 h0_33 h0_f34 h0_35 h0_36 h0_37 h0_38 h0_39 h0_40 h0_f41 h0_f42 h0_f43 h0_f44 h0_45 h0_46 h0_47 h0_48 h0_49 h0_50 h0_f51 h0_52 h0_f53 h0_39 h0_39k h0_39c h0_38 h0_38k (upd w_38 (x_16 : Int32).toNatClampNeg x_51)) H := hP
          have hD : va_D A (wd_c_X12_fogOf_6 h0 h0_f0 h0_1 h0_2 h0_3 h0_4 h0_5 h0_f6 h0_f7 h0_f8 h0_f9 h0_f10 h0_f11 h0_f12 h0_f13 h0_f14 h0_15 h0_16 h0_f17 h0_18 h0_19 h0_20 h0_21 h0_22 h0_23 h0_24 h0_25 h0_f26 h0_f27 h0_f28 h0_f29 h0_f30 h0_f31 h0_32 h0_33 h0_f34 h0_35 h0_36 h0_37 h0_38 h0_39 h0_40 h0_f41 h0_f42 h0_f43 h0_f44 h0_45 h0_46 h0_47 h0_48 h0_49 h0_50 h0_f51 h0_52 h0_f53 h0_39 h0_39k h0_39c h0_38 h0_38k (upd w_38 (x_16 : Int32).toNatClampNeg x_51)) := hD
          have l_53 : (upd w_38 (x_16 : Int32).toNatClampNeg x_51) (x_16 : Int32).toNatClampNeg = x_51 := pk_us
          generalize (upd w_38 (x_16 : Int32).toNatClampNeg x_51) = w_52 at hP hD l_53
          have hP : va_P (dC, dI) vwCl (wd_c_X12_fogOf_6 h0 h0_f0 h0_1 h0_2 h0_3 h0_4 h0_5 h0_f6 h0_f7 h0_f8 h0_f9 h0_f10 h0_f11 h0_f12 h0_f13 h0_f14 h0_15 h0_16 h0_f17 h0_18 h0_19 h0_20 h0_21 h0_22 h0_23 h0_24 h0_25 h0_f26 h0_f27 h0_f28 h0_f29 h0_f30 h0_f31 h0_32 h0_33 h0_f34 h0_35 h0_36 h0_37 h0_38 h0_39 h0_40 h0_f41 h0_f42 h0_f43 h0_f44 h0_45 h0_46 h0_47 h0_48 h0_49 h0_50 h0_f51 h0_52 h0_f53 h0_39 h0_39k h0_39c h0_38 h0_38k w_52) H := hP
          have hD : va_D A (wd_c_X12_fogOf_6 h0 h0_f0 h0_1 h0_2 h0_3 h0_4 h0_5 h0_f6 h0_f7 h0_f8 h0_f9 h0_f10 h0_f11 h0_f12 h0_f13 h0_f14 h0_15 h0_16 h0_f17 h0_18 h0_19 h0_20 h0_21 h0_22 h0_23 h0_24 h0_25 h0_f26 h0_f27 h0_f28 h0_f29 h0_f30 h0_f31 h0_32 h0_33 h0_f34 h0_35 h0_36 h0_37 h0_38 h0_39 h0_40 h0_f41 h0_f42 h0_f43 h0_f44 h0_45 h0_46 h0_47 h0_48 h0_49 h0_50 h0_f51 h0_52 h0_f53 h0_39 h0_39k h0_39c h0_38 h0_38k w_52) := hD
          refine lv_lload hx hb dX12_fogOf_148 (lv_at hl 0 rfl) ?_
          have hK9 := hK.sub (tys' := []) [] rfl
          exact W.lret (v := x_48) hx hb hr (fun t ht hW => ⟨⟨x_48, w_52, rfl, (Or.inl (LG_any x_48)), by rw [ht]; exact hP, va_K.moved hW.alike hK9, hD⟩, hS.F ht⟩) hS.2.2 dX12_fogOf_150
      · rw [h_28]
        refine lv_lstore (lv' := [(8, .long 0), (6, .long x_23), (0, .ref h0), (1, .int p1), (2, .int 6), (3, .int p3), (4, .long p4)]) hx hb dX12_fogOf_97 hl (Nat.le_of_ble_eq_true rfl) rfl (fun ls hl => ?_)
        as_aux_lemma =>
        refine lv_aload_n hx hb dX12_fogOf_99 rfl (lv_at hl 2 rfl) ?_
        refine va_get (D := (dC, dI)) (ci := 12) (v := .ref h0_38) (C := RX12) (T := TX12) (N := 54) hx hb hts iw_c_X12_fogOf_6_X12 hown hK hP 0 rfl rfl 38 (by decide +kernel) (hts (.fieldLink RX12 81 "BuoyVoteModel" "tally" "[I") (List.mem_of_getElem? (i := 9) rfl)) (fun _ h9 => h9) rfl dX12_fogOf_100 ?_
        refine lv_aload_n hx hb dX12_fogOf_103 rfl (lv_at hl 2 rfl) ?_
        refine va_get (D := (dC, dI)) (ci := 12) (v := .ref h0_39) (C := RX12) (T := TX12) (N := 54) hx hb hts iw_c_X12_fogOf_6_X12 hown hK hP 0 rfl rfl 39 (by decide +kernel) (hts (.fieldLink RX12 84 "BuoyVoteModel" "leans" "[I") (List.mem_of_getElem? (i := 2) rfl)) (fun _ h9 => h9) rfl dX12_fogOf_104 ?_
        refine lv_iload_n hx hb dX12_fogOf_107 rfl (lv_at hl 4 rfl) ?_
        refine va_iald hx hb hK hP 1 0 rfl rfl (RG_in (RG_k 6 6 rfl) (by decide +kernel)) dX12_fogOf_108 ?_
        refine lv_topi (fun x_54 ex_54 => ?_)
        obtain rfl : x_16 = x_54 := (ex_54.trans ex_16.symm).symm
        refine lv_dup2_11 hx hb dX12_fogOf_109 rfl rfl ?_
        refine va_iald hx hb hK hP 2 1 rfl rfl (RG_in g_19 (by decide +kernel)) dX12_fogOf_110 ?_
        refine lv_topi (fun x_55 ex_55 => ?_)
        refine lv_iconst (v := 1) hx hb dX12_fogOf_111 kc_iconst_1 ?_
        refine lv_iadd hx hb dX12_fogOf_112 ?_
        refine lv_topi (fun x_56 ex_56 => ?_)
        as_aux_lemma =>
        refine va_iast hx hb hK hP hD hS 2 1 rfl rfl (RG_in g_19 (by decide +kernel)) dX12_fogOf_113 (fun H locs hP hD hS => ?_)
        have hP : va_P (dC, dI) vwCl (wd_c_X12_fogOf_6 h0 h0_f0 h0_1 h0_2 h0_3 h0_4 h0_5 h0_f6 h0_f7 h0_f8 h0_f9 h0_f10 h0_f11 h0_f12 h0_f13 h0_f14 h0_15 h0_16 h0_f17 h0_18 h0_19 h0_20 h0_21 h0_22 h0_23 h0_24 h0_25 h0_f26 h0_f27 h0_f28 h0_f29 h0_f30 h0_f31 h0_32 h0_33 h0_f34 h0_35 h0_36 h0_37 h0_38 h0_39 h0_40 h0_f41 h0_f42 h0_f43 h0_f44 h0_45 h0_46 h0_47 h0_48 h0_49 h0_50 h0_f51 h0_52 h0_f53 h0_39 h0_39k h0_39c h0_38 h0_38k (upd w_26 (x_16 : Int32).toNatClampNeg x_56)) H := hP
        have hD : va_D A (wd_c_X12_fogOf_6 h0 h0_f0 h0_1 h0_2 h0_3 h0_4 h0_5 h0_f6 h0_f7 h0_f8 h0_f9 h0_f10 h0_f11 h0_f12 h0_f13 h0_f14 h0_15 h0_16 h0_f17 h0_18 h0_19 h0_20 h0_21 h0_22 h0_23 h0_24 h0_25 h0_f26 h0_f27 h0_f28 h0_f29 h0_f30 h0_f31 h0_32 h0_33 h0_f34 h0_35 h0_36 h0_37 h0_38 h0_39 h0_40 h0_f41 h0_f42 h0_f43 h0_f44 h0_45 h0_46 h0_47 h0_48 h0_49 h0_50 h0_f51 h0_52 h0_f53 h0_39 h0_39k h0_39c h0_38 h0_38k (upd w_26 (x_16 : Int32).toNatClampNeg x_56)) := hD
        have l_58 : (upd w_26 (x_16 : Int32).toNatClampNeg x_56) (x_16 : Int32).toNatClampNeg = x_56 := pk_us
        generalize (upd w_26 (x_16 : Int32).toNatClampNeg x_56) = w_57 at hP hD l_58
        have hP : va_P (dC, dI) vwCl (wd_c_X12_fogOf_6 h0 h0_f0 h0_1 h0_2 h0_3 h0_4 h0_5 h0_f6 h0_f7 h0_f8 h0_f9 h0_f10 h0_f11 h0_f12 h0_f13 h0_f14 h0_15 h0_16 h0_f17 h0_18 h0_19 h0_20 h0_21 h0_22 h0_23 h0_24 h0_25 h0_f26 h0_f27 h0_f28 h0_f29 h0_f30 h0_f31 h0_32 h0_33 h0_f34 h0_35 h0_36 h0_37 h0_38 h0_39 h0_40 h0_f41 h0_f42 h0_f43 h0_f44 h0_45 h0_46 h0_47 h0_48 h0_49 h0_50 h0_f51 h0_52 h0_f53 h0_39 h0_39k h0_39c h0_38 h0_38k w_57) H := hP
        have hD : va_D A (wd_c_X12_fogOf_6 h0 h0_f0 h0_1 h0_2 h0_3 h0_4 h0_5 h0_f6 h0_f7 h0_f8 h0_f9 h0_f10 h0_f11 h0_f12 h0_f13 h0_f14 h0_15 h0_16 h0_f17 h0_18 h0_19 h0_20 h0_21 h0_22 h0_23 h0_24 h0_25 h0_f26 h0_f27 h0_f28 h0_f29 h0_f30 h0_f31 h0_32 h0_33 h0_f34 h0_35 h0_36 h0_37 h0_38 h0_39 h0_40 h0_f41 h0_f42 h0_f43 h0_f44 h0_45 h0_46 h0_47 h0_48 h0_49 h0_50 h0_f51 h0_52 h0_f53 h0_39 h0_39k h0_39c h0_38 h0_38k w_57) := hD
        refine lv_lload hx hb dX12_fogOf_114 (lv_at hl 0 rfl) ?_
        refine lv_aload_n hx hb dX12_fogOf_116 rfl (lv_at hl 2 rfl) ?_
        refine lv_iload_n hx hb dX12_fogOf_117 rfl (lv_at hl 3 rfl) ?_
        refine lv_iload_n hx hb dX12_fogOf_118 rfl (lv_at hl 4 rfl) ?_
        refine lv_iconst (v := 1) hx hb dX12_fogOf_119 kc_iconst_1 ?_
        refine lv_iadd hx hb dX12_fogOf_120 ?_
        refine lv_topi (fun x_59 ex_59 => ?_)
        as_aux_lemma =>
        obtain rfl : x_59 = 7 := ex_59.trans (by decide +kernel)
        refine lv_iload_n hx hb dX12_fogOf_121 rfl (lv_at hl 5 rfl) ?_
        refine lv_lload hx hb dX12_fogOf_122 (lv_at hl 6 rfl) ?_
        refine lv_lload hx hb dX12_fogOf_124 (lv_at hl 1 rfl) ?_
        refine lv_lsub hx hb dX12_fogOf_126 ?_
        refine lv_topl (fun x_60 ex_60 => ?_)
        obtain ⟨hPc, hDc, hFc, hqc⟩ := cl_cut (wc := (wd_c_X12_fogOf_7 h0 h0_f0 h0_1 h0_2 h0_3 h0_4 h0_5 h0_f6 h0_f7 h0_f8 h0_f9 h0_f10 h0_f11 h0_f12 h0_f13 h0_f14 h0_15 h0_16 h0_f17 h0_18 h0_19 h0_20 h0_21 h0_22 h0_23 h0_24 h0_25 h0_f26 h0_f27 h0_f28 h0_f29 h0_f30 h0_f31 h0_32 h0_33 h0_f34 h0_35 h0_36 h0_37 h0_38 h0_39 h0_40 h0_f41 h0_f42 h0_f43 h0_f44 h0_45 h0_46 h0_47 h0_48 h0_49 h0_50 h0_f51 h0_52 h0_f53 h0_39 h0_39k h0_39c h0_38 h0_38k w_57)) hP hD hS hA [0, 1, 2] (by decide +kernel) rfl
        have hKc := hK.sub (tys' := [(h0_39k, .int), (h0_38k, .int)]) [0, 1] rfl
        have hrv := va_recv hKc hPc (ci := 12) (q0 := 0) rfl rfl
        refine va_calll (va_runV (As := [.int p1, .int 7, .int p3, .long x_60]) (rest := [.long 0]) ⟨hx, hb, hml, hown, hts⟩ (c_X12_fogOf_7 l dC dI H.size h0 p1 p3 x_60 h0_f0 h0_1 h0_2 h0_3 h0_4 h0_5 h0_f6 h0_f7 h0_f8 h0_f9 h0_f10 h0_f11 h0_f12 h0_f13 h0_f14 h0_15 h0_16 h0_f17 h0_18 h0_19 h0_20 h0_21 h0_22 h0_23 h0_24 h0_25 h0_f26 h0_f27 h0_f28 h0_f29 h0_f30 h0_f31 h0_32 h0_33 h0_f34 h0_35 h0_36 h0_37 h0_38 h0_39 h0_40 h0_f41 h0_f42 h0_f43 h0_f44 h0_45 h0_46 h0_47 h0_48 h0_49 h0_50 h0_f51 h0_52 h0_f53 h0_39k h0_39c h0_38k w_57 g_p1 g_p3 g_h0_f6 g_h0_f7 g_h0_f8 g_h0_f9 g_h0_f10 g_h0_f11 g_h0_f17 g_15 (RG_w h_29 (by decide +kernel)) g_h0_f28 g_h0_f29 g_h0_f30 g_h0_f31 g_h0_f34 g_h0_f41 g_h0_f51 g_h0_f53 a_h0_39c) (cwV 4 hts gf_c_X12_fogOf_6_c_X12_fogOf_7 rfl rfl rfl mdV_X12_fogOf ⟨Nat.le_of_ble_eq_true rfl, Nat.le_of_ble_eq_true rfl⟩) ⟨fun a U g mk q => by obtain ⟨q0, q1, qP, qK, qD⟩ := q; exact ⟨q0, q1, qP, va_K.moved (u := U) (U := U.calling g mk a) (Vm.Alike.refl U.vm) qK, qD⟩, hrv, fun U hU hW => ⟨rfl, by rw [hU], by rw [hU]; exact hPc, va_K.moved hW.alike hKc, hDc.weaken (fun _ _ _ _ => trivial)⟩⟩ rfl rfl hl.1 rfl (lv_room (Nat.le_of_ble_eq_true rfl)) dX12_fogOf_127 ⟨Nat.le_of_ble_eq_true rfl, Nat.le_of_ble_eq_true rfl⟩) hS (fun q _ h => hFc q h) hFc (fun r_61 w_62 t H1 locs ht hvm hw hB hz1 hk1 hS => ?_)
        obtain ⟨hP1, hK1, hD1⟩ := hB
        rw [ht] at hP1
        obtain ⟨hP, hD⟩ := cl_put (w1 := (wd_c_X12_fogOf_7 h0 h0_f0 h0_1 h0_2 h0_3 h0_4 h0_5 h0_f6 h0_f7 h0_f8 h0_f9 h0_f10 h0_f11 h0_f12 h0_f13 h0_f14 h0_15 h0_16 h0_f17 h0_18 h0_19 h0_20 h0_21 h0_22 h0_23 h0_24 h0_25 h0_f26 h0_f27 h0_f28 h0_f29 h0_f30 h0_f31 h0_32 h0_33 h0_f34 h0_35 h0_36 h0_37 h0_38 h0_39 h0_40 h0_f41 h0_f42 h0_f43 h0_f44 h0_45 h0_46 h0_47 h0_48 h0_49 h0_50 h0_f51 h0_52 h0_f53 h0_39 h0_39k h0_39c h0_38 h0_38k w_62)) (nw := (wd_c_X12_fogOf_6 h0 h0_f0 h0_1 h0_2 h0_3 h0_4 h0_5 h0_f6 h0_f7 h0_f8 h0_f9 h0_f10 h0_f11 h0_f12 h0_f13 h0_f14 h0_15 h0_16 h0_f17 h0_18 h0_19 h0_20 h0_21 h0_22 h0_23 h0_24 h0_25 h0_f26 h0_f27 h0_f28 h0_f29 h0_f30 h0_f31 h0_32 h0_33 h0_f34 h0_35 h0_36 h0_37 h0_38 h0_39 h0_40 h0_f41 h0_f42 h0_f43 h0_f44 h0_45 h0_46 h0_47 h0_48 h0_49 h0_50 h0_f51 h0_52 h0_f53 h0_39 h0_39k h0_39c h0_38 h0_38k w_62)) hP hD [0, 1, 2] [3, 4, 5] 3 rfl hqc (by decide +kernel) rfl hk1 hFc hP1 hD1
        generalize H1 = H at hP hS ⊢
        as_aux_lemma =>
        rcases hw with h_63 | ⟨h_64, h_65⟩
        · refine lv_ladd hx hb dX12_fogOf_130 ?_
          refine lv_topl (fun x_66 ex_66 => ?_)
          refine lv_lstore (lv' := [(8, .long x_66), (6, .long x_23), (0, .ref h0), (1, .int p1), (2, .int 6), (3, .int p3), (4, .long p4)]) hx hb dX12_fogOf_131 hl (Nat.le_of_ble_eq_true rfl) rfl (fun ls hl => ?_)
          refine lv_aload_n hx hb dX12_fogOf_133 rfl (lv_at hl 2 rfl) ?_
          refine va_get (D := (dC, dI)) (ci := 12) (v := .ref h0_38) (C := RX12) (T := TX12) (N := 54) hx hb hts iw_c_X12_fogOf_6_X12 hown hK hP 0 rfl rfl 38 (by decide +kernel) (hts (.fieldLink RX12 81 "BuoyVoteModel" "tally" "[I") (List.mem_of_getElem? (i := 9) rfl)) (fun _ h9 => h9) rfl dX12_fogOf_134 ?_
          refine lv_aload_n hx hb dX12_fogOf_137 rfl (lv_at hl 2 rfl) ?_
          refine va_get (D := (dC, dI)) (ci := 12) (v := .ref h0_39) (C := RX12) (T := TX12) (N := 54) hx hb hts iw_c_X12_fogOf_6_X12 hown hK hP 0 rfl rfl 39 (by decide +kernel) (hts (.fieldLink RX12 84 "BuoyVoteModel" "leans" "[I") (List.mem_of_getElem? (i := 2) rfl)) (fun _ h9 => h9) rfl dX12_fogOf_138 ?_
          refine lv_iload_n hx hb dX12_fogOf_141 rfl (lv_at hl 4 rfl) ?_
          refine va_iald hx hb hK hP 1 0 rfl rfl (RG_in (RG_k 6 6 rfl) (by decide +kernel)) dX12_fogOf_142 ?_
          refine lv_topi (fun x_67 ex_67 => ?_)
          obtain rfl : x_16 = x_67 := (ex_67.trans ex_16.symm).symm
          refine lv_dup2_11 hx hb dX12_fogOf_143 rfl rfl ?_
          refine va_iald hx hb hK hP 2 1 rfl rfl (RG_in g_19 (by decide +kernel)) dX12_fogOf_144 ?_
          as_aux_lemma =>
          refine lv_topi (fun x_68 ex_68 => ?_)
          refine lv_iconst (v := 1) hx hb dX12_fogOf_145 kc_iconst_1 ?_
          refine lv_isub hx hb dX12_fogOf_146 ?_
          refine lv_topi (fun x_69 ex_69 => ?_)
          refine va_iast hx hb hK hP hD hS 2 1 rfl rfl (RG_in g_19 (by decide +kernel)) dX12_fogOf_147 (fun H locs hP hD hS => ?_)
          have hP : va_P (dC, dI) vwCl (wd_c_X12_fogOf_6 h0 h0_f0 h0_1 h0_2 h0_3 h0_4 h0_5 h0_f6 h0_f7 h0_f8 h0_f9 h0_f10 h0_f11 h0_f12 h0_f13 h0_f14 h0_15 h0_16 h0_f17 h0_18 h0_19 h0_20 h0_21 h0_22 h0_23 h0_24 h0_25 h0_f26 h0_f27 h0_f28 h0_f29 h0_f30 h0_f31 h0_32 h0_33 h0_f34 h0_35 h0_36 h0_37 h0_38 h0_39 h0_40 h0_f41 h0_f42 h0_f43 h0_f44 h0_45 h0_46 h0_47 h0_48 h0_49 h0_50 h0_f51 h0_52 h0_f53 h0_39 h0_39k h0_39c h0_38 h0_38k (upd w_62 (x_16 : Int32).toNatClampNeg x_69)) H := hP
          have hD : va_D A (wd_c_X12_fogOf_6 h0 h0_f0 h0_1 h0_2 h0_3 h0_4 h0_5 h0_f6 h0_f7 h0_f8 h0_f9 h0_f10 h0_f11 h0_f12 h0_f13 h0_f14 h0_15 h0_16 h0_f17 h0_18 h0_19 h0_20 h0_21 h0_22 h0_23 h0_24 h0_25 h0_f26 h0_f27 h0_f28 h0_f29 h0_f30 h0_f31 h0_32 h0_33 h0_f34 h0_35 h0_36 h0_37 h0_38 h0_39 h0_40 h0_f41 h0_f42 h0_f43 h0_f44 h0_45 h0_46 h0_47 h0_48 h0_49 h0_50 h0_f51 h0_52 h0_f53 h0_39 h0_39k h0_39c h0_38 h0_38k (upd w_62 (x_16 : Int32).toNatClampNeg x_69)) := hD
          have l_71 : (upd w_62 (x_16 : Int32).toNatClampNeg x_69) (x_16 : Int32).toNatClampNeg = x_69 := pk_us
          generalize (upd w_62 (x_16 : Int32).toNatClampNeg x_69) = w_70 at hP hD l_71
          have hP : va_P (dC, dI) vwCl (wd_c_X12_fogOf_6 h0 h0_f0 h0_1 h0_2 h0_3 h0_4 h0_5 h0_f6 h0_f7 h0_f8 h0_f9 h0_f10 h0_f11 h0_f12 h0_f13 h0_f14 h0_15 h0_16 h0_f17 h0_18 h0_19 h0_20 h0_21 h0_22 h0_23 h0_24 h0_25 h0_f26 h0_f27 h0_f28 h0_f29 h0_f30 h0_f31 h0_32 h0_33 h0_f34 h0_35 h0_36 h0_37 h0_38 h0_39 h0_40 h0_f41 h0_f42 h0_f43 h0_f44 h0_45 h0_46 h0_47 h0_48 h0_49 h0_50 h0_f51 h0_52 h0_f53 h0_39 h0_39k h0_39c h0_38 h0_38k w_70) H := hP
          have hD : va_D A (wd_c_X12_fogOf_6 h0 h0_f0 h0_1 h0_2 h0_3 h0_4 h0_5 h0_f6 h0_f7 h0_f8 h0_f9 h0_f10 h0_f11 h0_f12 h0_f13 h0_f14 h0_15 h0_16 h0_f17 h0_18 h0_19 h0_20 h0_21 h0_22 h0_23 h0_24 h0_25 h0_f26 h0_f27 h0_f28 h0_f29 h0_f30 h0_f31 h0_32 h0_33 h0_f34 h0_35 h0_36 h0_37 h0_38 h0_39 h0_40 h0_f41 h0_f42 h0_f43 h0_f44 h0_45 h0_46 h0_47 h0_48 h0_49 h0_50 h0_f51 h0_52 h0_f53 h0_39 h0_39k h0_39c h0_38 h0_38k w_70) := hD
          refine lv_lload hx hb dX12_fogOf_148 (lv_at hl 0 rfl) ?_
          have hK9 := hK.sub (tys' := []) [] rfl
          exact W.lret (v := x_66) hx hb hr (fun t ht hW => ⟨⟨x_66, w_70, rfl, (Or.inl (LG_any x_66)), by rw [ht]; exact hP, va_K.moved hW.alike hK9, hD⟩, hS.F ht⟩) hS.2.2 dX12_fogOf_150
        · rw [h_64]
          refine lv_ladd hx hb dX12_fogOf_130 ?_
          as_aux_lemma =>
          refine lv_topl (fun x_72 ex_72 => ?_)
          obtain rfl : x_72 = 0 := ex_72.trans (by decide +kernel)
          refine lv_lstore (lv' := [(8, .long 0), (6, .long x_23), (0, .ref h0), (1, .int p1), (2, .int 6), (3, .int p3), (4, .long p4)]) hx hb dX12_fogOf_131 hl (Nat.le_of_ble_eq_true rfl) rfl (fun ls hl => ?_)
          refine lv_aload_n hx hb dX12_fogOf_133 rfl (lv_at hl 2 rfl) ?_
          refine va_get (D := (dC, dI)) (ci := 12) (v := .ref h0_38) (C := RX12) (T := TX12) (N := 54) hx hb hts iw_c_X12_fogOf_6_X12 hown hK hP 0 rfl rfl 38 (by decide +kernel) (hts (.fieldLink RX12 81 "BuoyVoteModel" "tally" "[I") (List.mem_of_getElem? (i := 9) rfl)) (fun _ h9 => h9) rfl dX12_fogOf_134 ?_
          refine lv_aload_n hx hb dX12_fogOf_137 rfl (lv_at hl 2 rfl) ?_
          refine va_get (D := (dC, dI)) (ci := 12) (v := .ref h0_39) (C := RX12) (T := TX12) (N := 54) hx hb hts iw_c_X12_fogOf_6_X12 hown hK hP 0 rfl rfl 39 (by decide +kernel) (hts (.fieldLink RX12 84 "BuoyVoteModel" "leans" "[I") (List.mem_of_getElem? (i := 2) rfl)) (fun _ h9 => h9) rfl dX12_fogOf_138 ?_
          refine lv_iload_n hx hb dX12_fogOf_141 rfl (lv_at hl 4 rfl) ?_
          refine va_iald hx hb hK hP 1 0 rfl rfl (RG_in (RG_k 6 6 rfl) (by decide +kernel)) dX12_fogOf_142 ?_
          refine lv_topi (fun x_73 ex_73 => ?_)
          obtain rfl : x_16 = x_73 := (ex_73.trans ex_16.symm).symm
          refine lv_dup2_11 hx hb dX12_fogOf_143 rfl rfl ?_
          refine va_iald hx hb hK hP 2 1 rfl rfl (RG_in g_19 (by decide +kernel)) dX12_fogOf_144 ?_
          refine lv_topi (fun x_74 ex_74 => ?_)
          as_aux_lemma =>
          refine lv_iconst (v := 1) hx hb dX12_fogOf_145 kc_iconst_1 ?_
          refine lv_isub hx hb dX12_fogOf_146 ?_
          refine lv_topi (fun x_75 ex_75 => ?_)
          refine va_iast hx hb hK hP hD hS 2 1 rfl rfl (RG_in g_19 (by decide +kernel)) dX12_fogOf_147 (fun H locs hP hD hS => ?_)
          have hP : va_P (dC, dI) vwCl (wd_c_X12_fogOf_6 h0 h0_f0 h0_1 h0_2 h0_3 h0_4 h0_5 h0_f6 h0_f7 h0_f8 h0_f9 h0_f10 h0_f11 h0_f12 h0_f13 h0_f14 h0_15 h0_16 h0_f17 h0_18 h0_19 h0_20 h0_21 h0_22 h0_23 h0_24 h0_25 h0_f26 h0_f27 h0_f28 h0_f29 h0_f30 h0_f31 h0_32 h0_33 h0_f34 h0_35 h0_36 h0_37 h0_38 h0_39 h0_40 h0_f41 h0_f42 h0_f43 h0_f44 h0_45 h0_46 h0_47 h0_48 h0_49 h0_50 h0_f51 h0_52 h0_f53 h0_39 h0_39k h0_39c h0_38 h0_38k (upd w_62 (x_16 : Int32).toNatClampNeg x_75)) H := hP
          have hD : va_D A (wd_c_X12_fogOf_6 h0 h0_f0 h0_1 h0_2 h0_3 h0_4 h0_5 h0_f6 h0_f7 h0_f8 h0_f9 h0_f10 h0_f11 h0_f12 h0_f13 h0_f14 h0_15 h0_16 h0_f17 h0_18 h0_19 h0_20 h0_21 h0_22 h0_23 h0_24 h0_25 h0_f26 h0_f27 h0_f28 h0_f29 h0_f30 h0_f31 h0_32 h0_33 h0_f34 h0_35 h0_36 h0_37 h0_38 h0_39 h0_40 h0_f41 h0_f42 h0_f43 h0_f44 h0_45 h0_46 h0_47 h0_48 h0_49 h0_50 h0_f51 h0_52 h0_f53 h0_39 h0_39k h0_39c h0_38 h0_38k (upd w_62 (x_16 : Int32).toNatClampNeg x_75)) := hD
          have l_77 : (upd w_62 (x_16 : Int32).toNatClampNeg x_75) (x_16 : Int32).toNatClampNeg = x_75 := pk_us
          generalize (upd w_62 (x_16 : Int32).toNatClampNeg x_75) = w_76 at hP hD l_77
          have hP : va_P (dC, dI) vwCl (wd_c_X12_fogOf_6 h0 h0_f0 h0_1 h0_2 h0_3 h0_4 h0_5 h0_f6 h0_f7 h0_f8 h0_f9 h0_f10 h0_f11 h0_f12 h0_f13 h0_f14 h0_15 h0_16 h0_f17 h0_18 h0_19 h0_20 h0_21 h0_22 h0_23 h0_24 h0_25 h0_f26 h0_f27 h0_f28 h0_f29 h0_f30 h0_f31 h0_32 h0_33 h0_f34 h0_35 h0_36 h0_37 h0_38 h0_39 h0_40 h0_f41 h0_f42 h0_f43 h0_f44 h0_45 h0_46 h0_47 h0_48 h0_49 h0_50 h0_f51 h0_52 h0_f53 h0_39 h0_39k h0_39c h0_38 h0_38k w_76) H := hP
          have hD : va_D A (wd_c_X12_fogOf_6 h0 h0_f0 h0_1 h0_2 h0_3 h0_4 h0_5 h0_f6 h0_f7 h0_f8 h0_f9 h0_f10 h0_f11 h0_f12 h0_f13 h0_f14 h0_15 h0_16 h0_f17 h0_18 h0_19 h0_20 h0_21 h0_22 h0_23 h0_24 h0_25 h0_f26 h0_f27 h0_f28 h0_f29 h0_f30 h0_f31 h0_32 h0_33 h0_f34 h0_35 h0_36 h0_37 h0_38 h0_39 h0_40 h0_f41 h0_f42 h0_f43 h0_f44 h0_45 h0_46 h0_47 h0_48 h0_49 h0_50 h0_f51 h0_52 h0_f53 h0_39 h0_39k h0_39c h0_38 h0_38k w_76) := hD
          refine lv_lload hx hb dX12_fogOf_148 (lv_at hl 0 rfl) ?_
          have hK9 := hK.sub (tys' := []) [] rfl
          exact W.lret (v := 0) hx hb hr (fun t ht hW => ⟨⟨0, w_76, rfl, (Or.inr ⟨rfl, h_29⟩), by rw [ht]; exact hP, va_K.moved hW.alike hK9, hD⟩, hS.F ht⟩) hS.2.2 dX12_fogOf_150
    · have g_78 : RG x_16 (-1) (-1) := RG_eq1 g_17 (RG_k (-1) (-1) rfl) c_18 (by decide +kernel)
      refine lv_aload_n hx hb dX12_fogOf_63 rfl (lv_at hl 0 rfl) ?_
      as_aux_lemma =>
      refine lv_iload_n hx hb dX12_fogOf_64 rfl (lv_at hl 1 rfl) ?_
      refine lv_iload_n hx hb dX12_fogOf_65 rfl (lv_at hl 2 rfl) ?_
      refine lv_iconst (v := 1) hx hb dX12_fogOf_66 kc_iconst_1 ?_
      refine lv_iadd hx hb dX12_fogOf_67 ?_
      refine lv_topi (fun x_79 ex_79 => ?_)
      obtain rfl : x_79 = 7 := ex_79.trans (by decide +kernel)
      refine lv_iload_n hx hb dX12_fogOf_68 rfl (lv_at hl 3 rfl) ?_
      refine lv_lload hx hb dX12_fogOf_69 (lv_at hl 4 rfl) ?_
      obtain ⟨hPc, hDc, hFc, hqc⟩ := cl_cut (wc := (wd_c_X12_fogOf_7 h0 h0_f0 h0_1 h0_2 h0_3 h0_4 h0_5 h0_f6 h0_f7 h0_f8 h0_f9 h0_f10 h0_f11 h0_f12 h0_f13 h0_f14 h0_15 h0_16 h0_f17 h0_18 h0_19 h0_20 h0_21 h0_22 h0_23 h0_24 h0_25 h0_f26 h0_f27 h0_f28 h0_f29 h0_f30 h0_f31 h0_32 h0_33 h0_f34 h0_35 h0_36 h0_37 h0_38 h0_39 h0_40 h0_f41 h0_f42 h0_f43 h0_f44 h0_45 h0_46 h0_47 h0_48 h0_49 h0_50 h0_f51 h0_52 h0_f53 h0_39 h0_39k h0_39c h0_38 h0_38k h0_38c)) hP hD hS hA [0, 1, 2] (by decide +kernel) rfl
      have hKc := hK.sub (tys' := [(h0_39k, .int), (h0_38k, .int)]) [0, 1] rfl
      have hrv := va_recv hKc hPc (ci := 12) (q0 := 0) rfl rfl
      refine va_calll (va_runV (As := [.int p1, .int 7, .int p3, .long p4]) (rest := []) ⟨hx, hb, hml, hown, hts⟩ (c_X12_fogOf_7 l dC dI H.size h0 p1 p3 p4 h0_f0 h0_1 h0_2 h0_3 h0_4 h0_5 h0_f6 h0_f7 h0_f8 h0_f9 h0_f10 h0_f11 h0_f12 h0_f13 h0_f14 h0_15 h0_16 h0_f17 h0_18 h0_19 h0_20 h0_21 h0_22 h0_23 h0_24 h0_25 h0_f26 h0_f27 h0_f28 h0_f29 h0_f30 h0_f31 h0_32 h0_33 h0_f34 h0_35 h0_36 h0_37 h0_38 h0_39 h0_40 h0_f41 h0_f42 h0_f43 h0_f44 h0_45 h0_46 h0_47 h0_48 h0_49 h0_50 h0_f51 h0_52 h0_f53 h0_39k h0_39c h0_38k h0_38c g_p1 g_p3 g_h0_f6 g_h0_f7 g_h0_f8 g_h0_f9 g_h0_f10 g_h0_f11 g_h0_f17 g_15 g_h0_f27 g_h0_f28 g_h0_f29 g_h0_f30 g_h0_f31 g_h0_f34 g_h0_f41 g_h0_f51 g_h0_f53 a_h0_39c) (cwV 4 hts gf_c_X12_fogOf_6_c_X12_fogOf_7 rfl rfl rfl mdV_X12_fogOf ⟨Nat.le_of_ble_eq_true rfl, Nat.le_of_ble_eq_true rfl⟩) ⟨fun a U g mk q => by obtain ⟨q0, q1, qP, qK, qD⟩ := q; exact ⟨q0, q1, qP, va_K.moved (u := U) (U := U.calling g mk a) (Vm.Alike.refl U.vm) qK, qD⟩, hrv, fun U hU hW => ⟨rfl, by rw [hU], by rw [hU]; exact hPc, va_K.moved hW.alike hKc, hDc.weaken (fun _ _ _ _ => trivial)⟩⟩ rfl rfl hl.1 rfl (lv_room (Nat.le_of_ble_eq_true rfl)) dX12_fogOf_71 ⟨Nat.le_of_ble_eq_true rfl, Nat.le_of_ble_eq_true rfl⟩) hS (fun q _ h => hFc q h) hFc (fun r_80 w_81 t H1 locs ht hvm hw hB hz1 hk1 hS => ?_)
      obtain ⟨hP1, hK1, hD1⟩ := hB
      rw [ht] at hP1
      obtain ⟨hP, hD⟩ := cl_put (w1 := (wd_c_X12_fogOf_7 h0 h0_f0 h0_1 h0_2 h0_3 h0_4 h0_5 h0_f6 h0_f7 h0_f8 h0_f9 h0_f10 h0_f11 h0_f12 h0_f13 h0_f14 h0_15 h0_16 h0_f17 h0_18 h0_19 h0_20 h0_21 h0_22 h0_23 h0_24 h0_25 h0_f26 h0_f27 h0_f28 h0_f29 h0_f30 h0_f31 h0_32 h0_33 h0_f34 h0_35 h0_36 h0_37 h0_38 h0_39 h0_40 h0_f41 h0_f42 h0_f43 h0_f44 h0_45 h0_46 h0_47 h0_48 h0_49 h0_50 h0_f51 h0_52 h0_f53 h0_39 h0_39k h0_39c h0_38 h0_38k w_81)) (nw := (wd_c_X12_fogOf_6 h0 h0_f0 h0_1 h0_2 h0_3 h0_4 h0_5 h0_f6 h0_f7 h0_f8 h0_f9 h0_f10 h0_f11 h0_f12 h0_f13 h0_f14 h0_15 h0_16 h0_f17 h0_18 h0_19 h0_20 h0_21 h0_22 h0_23 h0_24 h0_25 h0_f26 h0_f27 h0_f28 h0_f29 h0_f30 h0_f31 h0_32 h0_33 h0_f34 h0_35 h0_36 h0_37 h0_38 h0_39 h0_40 h0_f41 h0_f42 h0_f43 h0_f44 h0_45 h0_46 h0_47 h0_48 h0_49 h0_50 h0_f51 h0_52 h0_f53 h0_39 h0_39k h0_39c h0_38 h0_38k w_81)) hP hD [0, 1, 2] [3, 4, 5] 3 rfl hqc (by decide +kernel) rfl hk1 hFc hP1 hD1
      generalize H1 = H at hP hS ⊢
      as_aux_lemma =>
      rcases hw with h_82 | ⟨h_83, h_84⟩
      · have hK9 := hK.sub (tys' := []) [] rfl
        exact W.lret (v := r_80) hx hb hr (fun t ht hW => ⟨⟨r_80, w_81, rfl, (Or.inl h_82), by rw [ht]; exact hP, va_K.moved hW.alike hK9, hD⟩, hS.F ht⟩) hS.2.2 dX12_fogOf_74
      · rw [h_83]
        have hK9 := hK.sub (tys' := []) [] rfl
        exact W.lret (v := 0) hx hb hr (fun t ht hW => ⟨⟨0, w_81, rfl, (Or.inr ⟨rfl, h_84⟩), by rw [ht]; exact hP, va_K.moved hW.alike hK9, hD⟩, hS.F ht⟩) hS.2.2 dX12_fogOf_74
  · have g_85 : RG h0_f26 6 6 := RG_eq1 g_h0_f26 (RG_k 6 6 rfl) c_14.symm (by decide +kernel)
    refine lv_iconst (v := 0) hx hb dX12_fogOf_8 kc_iconst_0 ?_
    refine lv_istore (lv' := [(6, .int 0), (0, .ref h0), (1, .int p1), (2, .int 6), (3, .int p3), (4, .long p4)]) hx hb dX12_fogOf_9 hl (Nat.le_of_ble_eq_true rfl) rfl (fun ls hl => ?_)
    exact hU _ _ _ (J11 _ 0 (Nat.lt_succ_self _) g_h0_f10 g_h0_f11 g_h0_f17 g_85 g_h0_f27 g_h0_f28 g_h0_f29 g_h0_f30 g_h0_f31 g_h0_f34 g_h0_f41 g_h0_f51 g_h0_f53 g_h0_f6 g_h0_f7 g_h0_f8 g_h0_f9 (RG_w (RG_k 0 0 rfl) (by decide +kernel)) g_p1 g_p3 _ _ _ hP hD hS (lv_sub hl [0, 1, 2, 5] rfl))
noncomputable def wd_c_X12_fogOf_5 (a0 : Nat) (a1 : Int32) (a2 : Nat) (a3 : Nat) (a4 : Nat) (a5 : Nat) (a6 : Nat) (a7 : Int32) (a8 : Int32) (a9 : Int32) (a10 : Int32) (a11 : Int32) (a12 : Int32) (a13 : Int32) (a14 : Int32) (a15 : Int32) (a16 : Nat) (a17 : Nat) (a18 : Int32) (a19 : Nat) (a20 : Nat) (a21 : Nat) (a22 : Nat) (a23 : Nat) (a24 : Nat) (a25 : Nat) (a26 : Nat) (a27 : Int32) (a28 : Int32) (a29 : Int32) (a30 : Int32) (a31 : Int32) (a32 : Int32) (a33 : Nat) (a34 : Nat) (a35 : Int32) (a36 : Nat) (a37 : Nat) (a38 : Nat) (a39 : Nat) (a40 : Nat) (a41 : Nat) (a42 : Int32) (a43 : Int64) (a44 : Int32) (a45 : Int32) (a46 : Nat) (a47 : Nat) (a48 : Nat) (a49 : Nat) (a50 : Nat) (a51 : Nat) (a52 : Int32) (a53 : Nat) (a54 : Int32) (a55 : Nat) (a56 : ClassId) (a57 : Nat → Int32) (a58 : Nat) (a59 : ClassId) (a60 : Nat → Int32) : va_W := [(a0, .inr (12, [.int a1, .ref a2, .ref a3, .ref a4, .ref a5, .ref a6, .int a7, .int a8, .int a9, .int a10, .int a11, .int a12, .int a13, .int a14, .int a15, .ref a16, .ref a17, .int a18, .ref a19, .ref a20, .ref a21, .ref a22, .ref a23, .ref a24, .ref a25, .ref a26, .int a27, .int a28, .int a29, .int a30, .int a31, .int a32, .ref a33, .ref a34, .int a35, .ref a36, .ref a37, .ref a38, .ref a39, .ref a40, .ref a41, .int a42, .long a43, .int a44, .int a45, .ref a46, .ref a47, .ref a48, .ref a49, .ref a50, .ref a51, .int a52, .ref a53, .int a54])), (a55, .inl (a56, 8, .inl a57)), (a58, .inl (a59, 3, .inl a60))]
noncomputable def wf_c_X12_fogOf_5 : List Cond := List.cons (.code yX12_fogOf cX12_fogOf 10 (some .long)) (@HAppend.hAppend (List Cond) (List Cond) (List Cond) _ [.fieldLink RX12 309 "BuoyVoteModel" "buoys" "I", .fieldLink RX12 84 "BuoyVoteModel" "leans" "[I", .constantLong RX12 545 (100), .methodLink RX12 541 yX12_fogOf, .instanceMethod yX12_fogOf, .selects RX12 yX12_fogOf yX12_fogOf, .initialized RX12, .fieldLink RX12 312 "BuoyVoteModel" "boats" "I", .fieldLink RX12 81 "BuoyVoteModel" "tally" "[I"] wsX120)
theorem iw_c_X12_fogOf_5_X12 : ∀ w ∈ wsX120, w ∈ wf_c_X12_fogOf_5 := fun w h => List.mem_cons_of_mem _ (List.mem_append_right _ h)
set_option maxRecDepth 20000 in
theorem gf_c_X12_fogOf_5_c_X12_fogOf_6 : GoodIn wf_c_X12_fogOf_5 (wsV RX12 541 RX12 yX12_fogOf wf_c_X12_fogOf_6) := goodIn_app (gi_l [4, 5, 6, 7] rfl rfl) (gi_cons (j := 0) rfl rfl (goodIn_app (gi_l [1, 2, 3, 4, 5, 6, 7, 8, 9] rfl rfl) (goodIn_sub iw_c_X12_fogOf_5_X12 gw_X12)))
set_option maxHeartbeats 4000000 in
set_option maxRecDepth 100000 in
theorem c_X12_fogOf_5 (l : Launch) (dC : Nat → ClassId) (dI : Nat → Nat → Nat) (sz : Nat) (h0 : Nat) (p1 : Int32) (p3 : Int32) (p4 : Int64) (h0_f0 : Int32) (h0_1 : Nat) (h0_2 : Nat) (h0_3 : Nat) (h0_4 : Nat) (h0_5 : Nat) (h0_f6 : Int32) (h0_f7 : Int32) (h0_f8 : Int32) (h0_f9 : Int32) (h0_f10 : Int32) (h0_f11 : Int32) (h0_f12 : Int32) (h0_f13 : Int32) (h0_f14 : Int32) (h0_15 : Nat) (h0_16 : Nat) (h0_f17 : Int32) (h0_18 : Nat) (h0_19 : Nat) (h0_20 : Nat) (h0_21 : Nat) (h0_22 : Nat) (h0_23 : Nat) (h0_24 : Nat) (h0_25 : Nat) (h0_f26 : Int32) (h0_f27 : Int32) (h0_f28 : Int32) (h0_f29 : Int32) (h0_f30 : Int32) (h0_f31 : Int32) (h0_32 : Nat) (h0_33 : Nat) (h0_f34 : Int32) (h0_35 : Nat) (h0_36 : Nat) (h0_37 : Nat) (h0_38 : Nat) (h0_39 : Nat) (h0_40 : Nat) (h0_f41 : Int32) (h0_f42 : Int64) (h0_f43 : Int32) (h0_f44 : Int32) (h0_45 : Nat) (h0_46 : Nat) (h0_47 : Nat) (h0_48 : Nat) (h0_49 : Nat) (h0_50 : Nat) (h0_f51 : Int32) (h0_52 : Nat) (h0_f53 : Int32) (h0_39k : ClassId) (h0_39c : Nat → Int32) (h0_38k : ClassId) (h0_38c : Nat → Int32) (g_p1 : RG p1 0 2) (g_p3 : RG p3 0 100) (g_h0_f6 : RG h0_f6 0 240) (g_h0_f7 : RG h0_f7 0 4) (g_h0_f8 : RG h0_f8 0 720) (g_h0_f9 : RG h0_f9 0 240) (g_h0_f10 : RG h0_f10 0 240) (g_h0_f11 : RG h0_f11 (-1) 240) (g_h0_f17 : RG h0_f17 0 1) (g_h0_f26 : RG h0_f26 5 8) (g_h0_f27 : RG h0_f27 0 3) (g_h0_f28 : RG h0_f28 0 8) (g_h0_f29 : RG h0_f29 0 3) (g_h0_f30 : RG h0_f30 0 4) (g_h0_f31 : RG h0_f31 0 1) (g_h0_f34 : RG h0_f34 (-1) 3) (g_h0_f41 : RG h0_f41 0 40) (g_h0_f51 : RG h0_f51 0 10) (g_h0_f53 : RG h0_f53 0 1) (a_h0_39c : AI h0_39c (-1) 2) : Met l yX12_fogOf wf_c_X12_fogOf_5 ({ frames := 3, cells := 0, slots := 0, locals := 87 }) (va_Pc [.ref h0, .int p1, .int 5, .int p3, .long p4] (fun U => U.heap.size = sz ∧ va_P (dC, dI) vwCl (wd_c_X12_fogOf_5 h0 h0_f0 h0_1 h0_2 h0_3 h0_4 h0_5 h0_f6 h0_f7 h0_f8 h0_f9 h0_f10 h0_f11 h0_f12 h0_f13 h0_f14 h0_15 h0_16 h0_f17 h0_18 h0_19 h0_20 h0_21 h0_22 h0_23 h0_24 h0_25 h0_f26 h0_f27 h0_f28 h0_f29 h0_f30 h0_f31 h0_32 h0_33 h0_f34 h0_35 h0_36 h0_37 h0_38 h0_39 h0_40 h0_f41 h0_f42 h0_f43 h0_f44 h0_45 h0_46 h0_47 h0_48 h0_49 h0_50 h0_f51 h0_52 h0_f53 h0_39 h0_39k h0_39c h0_38 h0_38k h0_38c) U.heap ∧ va_K (dC, dI) vwCl [(h0_39k, .int), (h0_38k, .int)] U ∧ va_D (fun _ => True) (wd_c_X12_fogOf_5 h0 h0_f0 h0_1 h0_2 h0_3 h0_4 h0_5 h0_f6 h0_f7 h0_f8 h0_f9 h0_f10 h0_f11 h0_f12 h0_f13 h0_f14 h0_15 h0_16 h0_f17 h0_18 h0_19 h0_20 h0_21 h0_22 h0_23 h0_24 h0_25 h0_f26 h0_f27 h0_f28 h0_f29 h0_f30 h0_f31 h0_32 h0_33 h0_f34 h0_35 h0_36 h0_37 h0_38 h0_39 h0_40 h0_f41 h0_f42 h0_f43 h0_f44 h0_45 h0_46 h0_47 h0_48 h0_49 h0_50 h0_f51 h0_52 h0_f53 h0_39 h0_39k h0_39c h0_38 h0_38k h0_38c))) (va_Ql (fun (r : Int64) (u : (Nat → Int32)) => (LG r (-9223372036854775808) 9223372036854775807) ∨ (r = 0 ∧ RG h0_f27 1 3)) (fun (u : (Nat → Int32)) t => va_P (dC, dI) vwCl (wd_c_X12_fogOf_5 h0 h0_f0 h0_1 h0_2 h0_3 h0_4 h0_5 h0_f6 h0_f7 h0_f8 h0_f9 h0_f10 h0_f11 h0_f12 h0_f13 h0_f14 h0_15 h0_16 h0_f17 h0_18 h0_19 h0_20 h0_21 h0_22 h0_23 h0_24 h0_25 h0_f26 h0_f27 h0_f28 h0_f29 h0_f30 h0_f31 h0_32 h0_33 h0_f34 h0_35 h0_36 h0_37 h0_38 h0_39 h0_40 h0_f41 h0_f42 h0_f43 h0_f44 h0_45 h0_46 h0_47 h0_48 h0_49 h0_50 h0_f51 h0_52 h0_f53 h0_39 h0_39k h0_39c h0_38 h0_38k (u)) t.heap ∧ va_K (dC, dI) vwCl [] t ∧ va_D (va_A (wd_c_X12_fogOf_5 h0 h0_f0 h0_1 h0_2 h0_3 h0_4 h0_5 h0_f6 h0_f7 h0_f8 h0_f9 h0_f10 h0_f11 h0_f12 h0_f13 h0_f14 h0_15 h0_16 h0_f17 h0_18 h0_19 h0_20 h0_21 h0_22 h0_23 h0_24 h0_25 h0_f26 h0_f27 h0_f28 h0_f29 h0_f30 h0_f31 h0_32 h0_33 h0_f34 h0_35 h0_36 h0_37 h0_38 h0_39 h0_40 h0_f41 h0_f42 h0_f43 h0_f44 h0_45 h0_46 h0_47 h0_48 h0_49 h0_50 h0_f51 h0_52 h0_f53 h0_39 h0_39k h0_39c h0_38 h0_38k h0_38c) sz) (wd_c_X12_fogOf_5 h0 h0_f0 h0_1 h0_2 h0_3 h0_4 h0_5 h0_f6 h0_f7 h0_f8 h0_f9 h0_f10 h0_f11 h0_f12 h0_f13 h0_f14 h0_15 h0_16 h0_f17 h0_18 h0_19 h0_20 h0_21 h0_22 h0_23 h0_24 h0_25 h0_f26 h0_f27 h0_f28 h0_f29 h0_f30 h0_f31 h0_32 h0_33 h0_f34 h0_35 h0_36 h0_37 h0_38 h0_39 h0_40 h0_f41 h0_f42 h0_f43 h0_f44 h0_45 h0_46 h0_47 h0_48 h0_49 h0_50 h0_f51 h0_52 h0_f53 h0_39 h0_39k h0_39c h0_38 h0_38k (u))) (va_A (wd_c_X12_fogOf_5 h0 h0_f0 h0_1 h0_2 h0_3 h0_4 h0_5 h0_f6 h0_f7 h0_f8 h0_f9 h0_f10 h0_f11 h0_f12 h0_f13 h0_f14 h0_15 h0_16 h0_f17 h0_18 h0_19 h0_20 h0_21 h0_22 h0_23 h0_24 h0_25 h0_f26 h0_f27 h0_f28 h0_f29 h0_f30 h0_f31 h0_32 h0_33 h0_f34 h0_35 h0_36 h0_37 h0_38 h0_39 h0_40 h0_f41 h0_f42 h0_f43 h0_f44 h0_45 h0_46 h0_47 h0_48 h0_49 h0_50 h0_f51 h0_52 h0_f53 h0_39 h0_39k h0_39c h0_38 h0_38k h0_38c) sz)) 0 0 (va_A (wd_c_X12_fogOf_5 h0 h0_f0 h0_1 h0_2 h0_3 h0_4 h0_5 h0_f6 h0_f7 h0_f8 h0_f9 h0_f10 h0_f11 h0_f12 h0_f13 h0_f14 h0_15 h0_16 h0_f17 h0_18 h0_19 h0_20 h0_21 h0_22 h0_23 h0_24 h0_25 h0_f26 h0_f27 h0_f28 h0_f29 h0_f30 h0_f31 h0_32 h0_33 h0_f34 h0_35 h0_36 h0_37 h0_38 h0_39 h0_40 h0_f41 h0_f42 h0_f43 h0_f44 h0_45 h0_46 h0_47 h0_48 h0_49 h0_50 h0_f51 h0_52 h0_f53 h0_39 h0_39k h0_39c h0_38 h0_38k h0_38c) sz) := by
  refine Met.ofW (cc := cX12_fogOf) (maxL := 10) (ret := (some .long)) (by decide +kernel) rfl ?_
  intro p e s m args below meth c s₁ B hml hv
  obtain ⟨rfl, hsz, hP, hK, hD0⟩ := hv
  have hx := B.exec
  have hb := B.bytes
  have hr := B.returns
  have hts := atoms_spec (ws := wf_c_X12_fogOf_5) B.pre
  have hown : s.vm.findClass RX12 = some m.cls := findClass_of_methodNamed B.named
  have hlocks := B.notSynchronized
  subst hsz
  have hD := hD0.self (sz := s.heap.size)
  generalize hAe : va_A (wd_c_X12_fogOf_5 h0 h0_f0 h0_1 h0_2 h0_3 h0_4 h0_5 h0_f6 h0_f7 h0_f8 h0_f9 h0_f10 h0_f11 h0_f12 h0_f13 h0_f14 h0_15 h0_16 h0_f17 h0_18 h0_19 h0_20 h0_21 h0_22 h0_23 h0_24 h0_25 h0_f26 h0_f27 h0_f28 h0_f29 h0_f30 h0_f31 h0_32 h0_33 h0_f34 h0_35 h0_36 h0_37 h0_38 h0_39 h0_40 h0_f41 h0_f42 h0_f43 h0_f44 h0_45 h0_46 h0_47 h0_48 h0_49 h0_50 h0_f51 h0_52 h0_f53 h0_39 h0_39k h0_39c h0_38 h0_38k h0_38c) s.heap.size = A at hD ⊢
  have hA : ∀ q : Nat, s.heap.size ≤ q → A q := fun q h => by rw [← hAe]; exact Or.inr h
  have hP : va_P (dC, dI) vwCl (wd_c_X12_fogOf_5 h0 h0_f0 h0_1 h0_2 h0_3 h0_4 h0_5 h0_f6 h0_f7 h0_f8 h0_f9 h0_f10 h0_f11 h0_f12 h0_f13 h0_f14 h0_15 h0_16 h0_f17 h0_18 h0_19 h0_20 h0_21 h0_22 h0_23 h0_24 h0_25 h0_f26 h0_f27 h0_f28 h0_f29 h0_f30 h0_f31 h0_32 h0_33 h0_f34 h0_35 h0_36 h0_37 h0_38 h0_39 h0_40 h0_f41 h0_f42 h0_f43 h0_f44 h0_45 h0_46 h0_47 h0_48 h0_49 h0_50 h0_f51 h0_52 h0_f53 h0_39 h0_39k h0_39c h0_38 h0_38k h0_38c) s.heap := hP
  have hl := lv_entry ([.ref h0, .int p1, .int 5, .int p3, .long p4]) (n := 10) (Nat.le_of_ble_eq_true rfl)
  rw [lg_entry_eq]
  generalize (lg_sl ([.ref h0, .int p1, .int 5, .int p3, .long p4]) ++ List.replicate (10 - (lg_sl ([.ref h0, .int p1, .int 5, .int p3, .long p4])).length) Slot.unset).toArray = ls at hl ⊢
  have hl : lv_has ls 10 [(0, .ref h0), (1, .int p1), (2, .int 5), (3, .int p3), (4, .long p4)] := hl
  obtain ⟨H, hHe⟩ : ∃ H : Heap, s.heap = H := ⟨_, rfl⟩
  have hS : va_S A s.heap H [] := by rw [hHe]; exact va_S.rf
  have hP : va_P (dC, dI) vwCl (wd_c_X12_fogOf_5 h0 h0_f0 h0_1 h0_2 h0_3 h0_4 h0_5 h0_f6 h0_f7 h0_f8 h0_f9 h0_f10 h0_f11 h0_f12 h0_f13 h0_f14 h0_15 h0_16 h0_f17 h0_18 h0_19 h0_20 h0_21 h0_22 h0_23 h0_24 h0_25 h0_f26 h0_f27 h0_f28 h0_f29 h0_f30 h0_f31 h0_32 h0_33 h0_f34 h0_35 h0_36 h0_37 h0_38 h0_39 h0_40 h0_f41 h0_f42 h0_f43 h0_f44 h0_45 h0_46 h0_47 h0_48 h0_49 h0_50 h0_f51 h0_52 h0_f53 h0_39 h0_39k h0_39c h0_38 h0_38k h0_38c) H := by rw [← hHe]; exact hP
  rw [hHe]
  refine wj (fun G hG hU => ?_)
  as_aux_lemma =>
  have J11 : ∀ (n11 : Nat) (j11_l6 : Int32) (hM11 : MU j11_l6 < n11) (g_h0_f10 : RG h0_f10 0 240) (g_h0_f11 : RG h0_f11 (-1) 240) (g_h0_f17 : RG h0_f17 0 1) (g_h0_f26 : RG h0_f26 5 5) (g_h0_f27 : RG h0_f27 0 3) (g_h0_f28 : RG h0_f28 0 8) (g_h0_f29 : RG h0_f29 0 3) (g_h0_f30 : RG h0_f30 0 4) (g_h0_f31 : RG h0_f31 0 1) (g_h0_f34 : RG h0_f34 (-1) 3) (g_h0_f41 : RG h0_f41 0 40) (g_h0_f51 : RG h0_f51 0 10) (g_h0_f53 : RG h0_f53 0 1) (g_h0_f6 : RG h0_f6 0 240) (g_h0_f7 : RG h0_f7 0 4) (g_h0_f8 : RG h0_f8 0 720) (g_h0_f9 : RG h0_f9 0 240) (g_j11_l6 : RG j11_l6 0 3) (g_p1 : RG p1 0 2) (g_p3 : RG p3 0 100) (H : Heap) (locs : List Loc) (ls : Array Slot) (hP : va_P (dC, dI) vwCl (wd_c_X12_fogOf_5 h0 h0_f0 h0_1 h0_2 h0_3 h0_4 h0_5 h0_f6 h0_f7 h0_f8 h0_f9 h0_f10 h0_f11 h0_f12 h0_f13 h0_f14 h0_15 h0_16 h0_f17 h0_18 h0_19 h0_20 h0_21 h0_22 h0_23 h0_24 h0_25 h0_f26 h0_f27 h0_f28 h0_f29 h0_f30 h0_f31 h0_32 h0_33 h0_f34 h0_35 h0_36 h0_37 h0_38 h0_39 h0_40 h0_f41 h0_f42 h0_f43 h0_f44 h0_45 h0_46 h0_47 h0_48 h0_49 h0_50 h0_f51 h0_52 h0_f53 h0_39 h0_39k h0_39c h0_38 h0_38k h0_38c) H) (hD : va_D A (wd_c_X12_fogOf_5 h0 h0_f0 h0_1 h0_2 h0_3 h0_4 h0_5 h0_f6 h0_f7 h0_f8 h0_f9 h0_f10 h0_f11 h0_f12 h0_f13 h0_f14 h0_15 h0_16 h0_f17 h0_18 h0_19 h0_20 h0_21 h0_22 h0_23 h0_24 h0_25 h0_f26 h0_f27 h0_f28 h0_f29 h0_f30 h0_f31 h0_32 h0_33 h0_f34 h0_35 h0_36 h0_37 h0_38 h0_39 h0_40 h0_f41 h0_f42 h0_f43 h0_f44 h0_45 h0_46 h0_47 h0_48 h0_49 h0_50 h0_f51 h0_52 h0_f53 h0_39 h0_39k h0_39c h0_38 h0_38k h0_38c)) (hS : va_S A s.heap H locs) (hl : lv_has ls 10 [(6, .int j11_l6), (0, .ref h0), (1, .int p1), (4, .long p4)]), G H locs (F0 m 11 ls []) := by
    as_aux_lemma =>
    intro n11
    induction n11 with
    | zero => intros; exact absurd (by assumption) (Nat.not_lt_zero _)
    | succ n11 ih11 =>
      intro j11_l6 hM11 g_h0_f10 g_h0_f11 g_h0_f17 g_h0_f26 g_h0_f27 g_h0_f28 g_h0_f29 g_h0_f30 g_h0_f31 g_h0_f34 g_h0_f41 g_h0_f51 g_h0_f53 g_h0_f6 g_h0_f7 g_h0_f8 g_h0_f9 g_j11_l6 g_p1 g_p3 H locs ls hP hD hS hl
      have J44 : ∀ (g_h0_f10 : RG h0_f10 0 240) (g_h0_f11 : RG h0_f11 (-1) 240) (g_h0_f17 : RG h0_f17 0 1) (g_h0_f26 : RG h0_f26 5 5) (g_h0_f27 : RG h0_f27 1 3) (g_h0_f28 : RG h0_f28 0 8) (g_h0_f29 : RG h0_f29 0 3) (g_h0_f30 : RG h0_f30 0 4) (g_h0_f31 : RG h0_f31 0 1) (g_h0_f34 : RG h0_f34 (-1) 3) (g_h0_f41 : RG h0_f41 0 40) (g_h0_f51 : RG h0_f51 0 10) (g_h0_f53 : RG h0_f53 0 1) (g_h0_f6 : RG h0_f6 0 240) (g_h0_f7 : RG h0_f7 0 4) (g_h0_f8 : RG h0_f8 0 720) (g_h0_f9 : RG h0_f9 0 240) (g_j11_l6 : RG j11_l6 0 2) (g_p1 : RG p1 0 2) (g_p3 : RG p3 0 100) (H : Heap) (locs : List Loc) (ls : Array Slot) (hP : va_P (dC, dI) vwCl (wd_c_X12_fogOf_5 h0 h0_f0 h0_1 h0_2 h0_3 h0_4 h0_5 h0_f6 h0_f7 h0_f8 h0_f9 h0_f10 h0_f11 h0_f12 h0_f13 h0_f14 h0_15 h0_16 h0_f17 h0_18 h0_19 h0_20 h0_21 h0_22 h0_23 h0_24 h0_25 h0_f26 h0_f27 h0_f28 h0_f29 h0_f30 h0_f31 h0_32 h0_33 h0_f34 h0_35 h0_36 h0_37 h0_38 h0_39 h0_40 h0_f41 h0_f42 h0_f43 h0_f44 h0_45 h0_46 h0_47 h0_48 h0_49 h0_50 h0_f51 h0_52 h0_f53 h0_39 h0_39k h0_39c h0_38 h0_38k h0_38c) H) (hD : va_D A (wd_c_X12_fogOf_5 h0 h0_f0 h0_1 h0_2 h0_3 h0_4 h0_5 h0_f6 h0_f7 h0_f8 h0_f9 h0_f10 h0_f11 h0_f12 h0_f13 h0_f14 h0_15 h0_16 h0_f17 h0_18 h0_19 h0_20 h0_21 h0_22 h0_23 h0_24 h0_25 h0_f26 h0_f27 h0_f28 h0_f29 h0_f30 h0_f31 h0_32 h0_33 h0_f34 h0_35 h0_36 h0_37 h0_38 h0_39 h0_40 h0_f41 h0_f42 h0_f43 h0_f44 h0_45 h0_46 h0_47 h0_48 h0_49 h0_50 h0_f51 h0_52 h0_f53 h0_39 h0_39k h0_39c h0_38 h0_38k h0_38c)) (hS : va_S A s.heap H locs) (hl : lv_has ls 10 [(6, .int j11_l6), (0, .ref h0), (1, .int p1), (4, .long p4)]), G H locs (F0 m 44 ls []) := by
        as_aux_lemma =>
        intro g_h0_f10 g_h0_f11 g_h0_f17 g_h0_f26 g_h0_f27 g_h0_f28 g_h0_f29 g_h0_f30 g_h0_f31 g_h0_f34 g_h0_f41 g_h0_f51 g_h0_f53 g_h0_f6 g_h0_f7 g_h0_f8 g_h0_f9 g_j11_l6 g_p1 g_p3 H locs ls hP hD hS hl
        refine hG _ _ _ ?_
        obtain ⟨x_1, ex_1⟩ : ∃ y : Int32, y = j11_l6 + 1 := ⟨_, rfl⟩
        have g_2 : RG x_1 1 3 := RG_add ex_1 g_j11_l6 (RG_k 1 1 rfl) (by decide +kernel)
        refine lv_iinc (v := x_1) (lv' := [(6, .int x_1), (0, .ref h0), (1, .int p1), (4, .long p4)]) hx hb dX12_fogOf_44 hl (k := 0) rfl (by rw [ex_1]; rfl) (Nat.le_of_ble_eq_true rfl) rfl (fun ls hl => ?_)
        refine lv_goto (tgt := 11) hx hb dX12_fogOf_47 rfl ?_
        exact hU _ _ _ (ih11 x_1 (mu_s (MU_add ex_1 g_j11_l6 (q := 1) rfl (by decide +kernel)) hM11) g_h0_f10 g_h0_f11 g_h0_f17 g_h0_f26 (RG_w g_h0_f27 (by decide +kernel)) g_h0_f28 g_h0_f29 g_h0_f30 g_h0_f31 g_h0_f34 g_h0_f41 g_h0_f51 g_h0_f53 g_h0_f6 g_h0_f7 g_h0_f8 g_h0_f9 (RG_w g_2 (by decide +kernel)) g_p1 g_p3 _ _ _ hP hD hS (lv_sub hl [0, 1, 2, 3] rfl))
      refine hG _ _ _ ?_
      refine lv_iload hx hb dX12_fogOf_11 (lv_at hl 0 rfl) ?_
      refine lv_aload_n hx hb dX12_fogOf_13 rfl (lv_at hl 1 rfl) ?_
      refine va_get (D := (dC, dI)) (ci := 12) (v := .int h0_f27) (C := RX12) (T := TX12) (N := 54) hx hb hts iw_c_X12_fogOf_5_X12 hown hK hP 0 rfl rfl 27 (by decide +kernel) (hts (.fieldLink RX12 312 "BuoyVoteModel" "boats" "I") (List.mem_of_getElem? (i := 8) rfl)) (fun _ h9 => h9) rfl dX12_fogOf_14 ?_
      refine lv_icmp_ge (tgt := 50) hx hb dX12_fogOf_17 rfl (fun c_3 => ?_) (fun c_3 => ?_)
      · refine lv_lload hx hb dX12_fogOf_50 (lv_at hl 3 rfl) ?_
        have hK9 := hK.sub (tys' := []) [] rfl
        exact W.lret (v := p4) hx hb hr (fun t ht hW => ⟨⟨p4, h0_38c, rfl, (Or.inl (LG_any p4)), by rw [ht]; exact hP, va_K.moved hW.alike hK9, hD⟩, hS.F ht⟩) hS.2.2 dX12_fogOf_52
      · have d_4 := Int32.not_le.mp c_3
        have g_5 : RG j11_l6 0 2 := RG_lt1 g_j11_l6 g_h0_f27 d_4 (by decide +kernel)
        have g_6 : RG h0_f27 1 3 := RG_lt2 g_j11_l6 g_h0_f27 d_4 (by decide +kernel)
        refine lv_iload hx hb dX12_fogOf_20 (lv_at hl 0 rfl) ?_
        as_aux_lemma =>
        refine lv_iload_n hx hb dX12_fogOf_22 rfl (lv_at hl 2 rfl) ?_
        refine lv_icmp_eq (tgt := 44) hx hb dX12_fogOf_23 rfl (fun c_7 => ?_) (fun c_7 => ?_)
        · exact hU _ _ _ (J44 g_h0_f10 g_h0_f11 g_h0_f17 g_h0_f26 g_6 g_h0_f28 g_h0_f29 g_h0_f30 g_h0_f31 g_h0_f34 g_h0_f41 g_h0_f51 g_h0_f53 g_h0_f6 g_h0_f7 g_h0_f8 g_h0_f9 g_5 g_p1 g_p3 _ _ _ hP hD hS (lv_sub hl [0, 1, 2, 3] rfl))
        · refine lv_aload_n hx hb dX12_fogOf_26 rfl (lv_at hl 1 rfl) ?_
          refine va_get (D := (dC, dI)) (ci := 12) (v := .ref h0_38) (C := RX12) (T := TX12) (N := 54) hx hb hts iw_c_X12_fogOf_5_X12 hown hK hP 0 rfl rfl 38 (by decide +kernel) (hts (.fieldLink RX12 81 "BuoyVoteModel" "tally" "[I") (List.mem_of_getElem? (i := 9) rfl)) (fun _ h9 => h9) rfl dX12_fogOf_27 ?_
          refine lv_iload hx hb dX12_fogOf_30 (lv_at hl 0 rfl) ?_
          refine va_iald hx hb hK hP 2 1 rfl rfl (RG_in g_5 (by decide +kernel)) dX12_fogOf_32 ?_
          refine lv_topi (fun x_8 ex_8 => ?_)
          refine lv_aload_n hx hb dX12_fogOf_33 rfl (lv_at hl 1 rfl) ?_
          refine va_get (D := (dC, dI)) (ci := 12) (v := .ref h0_38) (C := RX12) (T := TX12) (N := 54) hx hb hts iw_c_X12_fogOf_5_X12 hown hK hP 0 rfl rfl 38 (by decide +kernel) (hts (.fieldLink RX12 81 "BuoyVoteModel" "tally" "[I") (List.mem_of_getElem? (i := 9) rfl)) (fun _ h9 => h9) rfl dX12_fogOf_34 ?_
          refine lv_iload_n hx hb dX12_fogOf_37 rfl (lv_at hl 2 rfl) ?_
          refine va_iald hx hb hK hP 2 1 rfl rfl (RG_in g_p1 (by decide +kernel)) dX12_fogOf_38 ?_
          refine lv_topi (fun x_9 ex_9 => ?_)
          refine lv_icmp_lt (tgt := 44) hx hb dX12_fogOf_39 rfl (fun c_10 => ?_) (fun c_10 => ?_)
          · have g_11 : RG x_8 (-2147483648) 2147483646 := RG_lt1 (RG_any x_8) (RG_any x_9) c_10 (by decide +kernel)
            have g_12 : RG x_9 (-2147483647) 2147483647 := RG_lt2 (RG_any x_8) (RG_any x_9) c_10 (by decide +kernel)
            exact hU _ _ _ (J44 g_h0_f10 g_h0_f11 g_h0_f17 g_h0_f26 g_6 g_h0_f28 g_h0_f29 g_h0_f30 g_h0_f31 g_h0_f34 g_h0_f41 g_h0_f51 g_h0_f53 g_h0_f6 g_h0_f7 g_h0_f8 g_h0_f9 g_5 g_p1 g_p3 _ _ _ hP hD hS (lv_sub hl [0, 1, 2, 3] rfl))
          · have d_13 := Int32.not_lt.mp c_10
            refine lv_lconst (v := 0) hx hb dX12_fogOf_42 (by decide +kernel) ?_
            as_aux_lemma =>
            have hK9 := hK.sub (tys' := []) [] rfl
            exact W.lret (v := 0) hx hb hr (fun t ht hW => ⟨⟨0, h0_38c, rfl, (Or.inr ⟨rfl, g_6⟩), by rw [ht]; exact hP, va_K.moved hW.alike hK9, hD⟩, hS.F ht⟩) hS.2.2 dX12_fogOf_43
  refine hG _ _ _ ?_
  refine lv_iload_n hx hb dX12_fogOf_0 rfl (lv_at hl 2 rfl) ?_
  refine lv_aload_n hx hb dX12_fogOf_1 rfl (lv_at hl 0 rfl) ?_
  refine va_get (D := (dC, dI)) (ci := 12) (v := .int h0_f26) (C := RX12) (T := TX12) (N := 54) hx hb hts iw_c_X12_fogOf_5_X12 hown hK hP 0 rfl rfl 26 (by decide +kernel) (hts (.fieldLink RX12 309 "BuoyVoteModel" "buoys" "I") (List.mem_of_getElem? (i := 1) rfl)) (fun _ h9 => h9) rfl dX12_fogOf_2 ?_
  refine lv_icmp_ne (tgt := 53) hx hb dX12_fogOf_5 rfl (fun c_14 => ?_) (fun c_14 => ?_)
  · have g_15 : RG h0_f26 6 8 := RG_ne1 g_h0_f26 (q := 5) rfl (fun q => c_14 q.symm) (by decide +kernel)
    refine lv_aload_n hx hb dX12_fogOf_53 rfl (lv_at hl 0 rfl) ?_
    refine va_get (D := (dC, dI)) (ci := 12) (v := .ref h0_39) (C := RX12) (T := TX12) (N := 54) hx hb hts iw_c_X12_fogOf_5_X12 hown hK hP 0 rfl rfl 39 (by decide +kernel) (hts (.fieldLink RX12 84 "BuoyVoteModel" "leans" "[I") (List.mem_of_getElem? (i := 2) rfl)) (fun _ h9 => h9) rfl dX12_fogOf_54 ?_
    refine lv_iload_n hx hb dX12_fogOf_57 rfl (lv_at hl 2 rfl) ?_
    refine va_iald hx hb hK hP 1 0 rfl rfl (RG_in (RG_k 5 5 rfl) (by decide +kernel)) dX12_fogOf_58 ?_
    refine lv_topi (fun x_16 ex_16 => ?_)
    have g_17 : RG x_16 (-1) 2 := AI_rd a_h0_39c ex_16
    refine lv_iconst (v := (-1)) hx hb dX12_fogOf_59 kc_iconst_m1 ?_
    as_aux_lemma =>
    refine lv_icmp_ne (tgt := 75) hx hb dX12_fogOf_60 rfl (fun c_18 => ?_) (fun c_18 => ?_)
    · have g_19 : RG x_16 0 2 := RG_ne1 g_17 (q := (-1)) rfl c_18 (by decide +kernel)
      refine lv_lload hx hb dX12_fogOf_75 (lv_at hl 4 rfl) ?_
      refine lv_iload_n hx hb dX12_fogOf_77 rfl (lv_at hl 3 rfl) ?_
      refine lv_i2l (v := p3.toInt64) hx hb dX12_fogOf_78 rfl ?_
      refine lv_topl (fun x_20 ex_20 => ?_)
      have g_21 : LG x_20 0 100 := LG_i2l ex_20 g_p3
      refine lv_lmul hx hb dX12_fogOf_79 ?_
      refine lv_topl (fun x_22 ex_22 => ?_)
      refine lv_ldc2 hx hb hown (hts (.constantLong RX12 545 (100)) (List.mem_of_getElem? (i := 3) rfl)) dX12_fogOf_80 ?_
      refine lv_ldiv hx hb dX12_fogOf_83 (by decide +kernel) ?_
      refine lv_topl (fun x_23 ex_23 => ?_)
      refine lv_lstore (lv' := [(6, .long x_23), (0, .ref h0), (1, .int p1), (2, .int 5), (3, .int p3), (4, .long p4)]) hx hb dX12_fogOf_84 hl (Nat.le_of_ble_eq_true rfl) rfl (fun ls hl => ?_)
      refine lv_aload_n hx hb dX12_fogOf_86 rfl (lv_at hl 1 rfl) ?_
      as_aux_lemma =>
      refine lv_iload_n hx hb dX12_fogOf_87 rfl (lv_at hl 2 rfl) ?_
      refine lv_iload_n hx hb dX12_fogOf_88 rfl (lv_at hl 3 rfl) ?_
      refine lv_iconst (v := 1) hx hb dX12_fogOf_89 kc_iconst_1 ?_
      refine lv_iadd hx hb dX12_fogOf_90 ?_
      refine lv_topi (fun x_24 ex_24 => ?_)
      obtain rfl : x_24 = 6 := ex_24.trans (by decide +kernel)
      refine lv_iload_n hx hb dX12_fogOf_91 rfl (lv_at hl 4 rfl) ?_
      refine lv_lload hx hb dX12_fogOf_92 (lv_at hl 0 rfl) ?_
      obtain ⟨hPc, hDc, hFc, hqc⟩ := cl_cut (wc := (wd_c_X12_fogOf_6 h0 h0_f0 h0_1 h0_2 h0_3 h0_4 h0_5 h0_f6 h0_f7 h0_f8 h0_f9 h0_f10 h0_f11 h0_f12 h0_f13 h0_f14 h0_15 h0_16 h0_f17 h0_18 h0_19 h0_20 h0_21 h0_22 h0_23 h0_24 h0_25 h0_f26 h0_f27 h0_f28 h0_f29 h0_f30 h0_f31 h0_32 h0_33 h0_f34 h0_35 h0_36 h0_37 h0_38 h0_39 h0_40 h0_f41 h0_f42 h0_f43 h0_f44 h0_45 h0_46 h0_47 h0_48 h0_49 h0_50 h0_f51 h0_52 h0_f53 h0_39 h0_39k h0_39c h0_38 h0_38k h0_38c)) hP hD hS hA [0, 1, 2] (by decide +kernel) rfl
      have hKc := hK.sub (tys' := [(h0_39k, .int), (h0_38k, .int)]) [0, 1] rfl
      have hrv := va_recv hKc hPc (ci := 12) (q0 := 0) rfl rfl
      refine va_calll (va_runV (As := [.int p1, .int 6, .int p3, .long x_23]) (rest := []) ⟨hx, hb, hml, hown, hts⟩ (c_X12_fogOf_6 l dC dI H.size h0 p1 p3 x_23 h0_f0 h0_1 h0_2 h0_3 h0_4 h0_5 h0_f6 h0_f7 h0_f8 h0_f9 h0_f10 h0_f11 h0_f12 h0_f13 h0_f14 h0_15 h0_16 h0_f17 h0_18 h0_19 h0_20 h0_21 h0_22 h0_23 h0_24 h0_25 h0_f26 h0_f27 h0_f28 h0_f29 h0_f30 h0_f31 h0_32 h0_33 h0_f34 h0_35 h0_36 h0_37 h0_38 h0_39 h0_40 h0_f41 h0_f42 h0_f43 h0_f44 h0_45 h0_46 h0_47 h0_48 h0_49 h0_50 h0_f51 h0_52 h0_f53 h0_39k h0_39c h0_38k h0_38c g_p1 g_p3 g_h0_f6 g_h0_f7 g_h0_f8 g_h0_f9 g_h0_f10 g_h0_f11 g_h0_f17 g_15 g_h0_f27 g_h0_f28 g_h0_f29 g_h0_f30 g_h0_f31 g_h0_f34 g_h0_f41 g_h0_f51 g_h0_f53 a_h0_39c) (cwV 4 hts gf_c_X12_fogOf_5_c_X12_fogOf_6 rfl rfl rfl mdV_X12_fogOf ⟨Nat.le_of_ble_eq_true rfl, Nat.le_of_ble_eq_true rfl⟩) ⟨fun a U g mk q => by obtain ⟨q0, q1, qP, qK, qD⟩ := q; exact ⟨q0, q1, qP, va_K.moved (u := U) (U := U.calling g mk a) (Vm.Alike.refl U.vm) qK, qD⟩, hrv, fun U hU hW => ⟨rfl, by rw [hU], by rw [hU]; exact hPc, va_K.moved hW.alike hKc, hDc.weaken (fun _ _ _ _ => trivial)⟩⟩ rfl rfl hl.1 rfl (lv_room (Nat.le_of_ble_eq_true rfl)) dX12_fogOf_94 ⟨Nat.le_of_ble_eq_true rfl, Nat.le_of_ble_eq_true rfl⟩) hS (fun q _ h => hFc q h) hFc (fun r_25 w_26 t H1 locs ht hvm hw hB hz1 hk1 hS => ?_)
      obtain ⟨hP1, hK1, hD1⟩ := hB
      rw [ht] at hP1
      obtain ⟨hP, hD⟩ := cl_put (w1 := (wd_c_X12_fogOf_6 h0 h0_f0 h0_1 h0_2 h0_3 h0_4 h0_5 h0_f6 h0_f7 h0_f8 h0_f9 h0_f10 h0_f11 h0_f12 h0_f13 h0_f14 h0_15 h0_16 h0_f17 h0_18 h0_19 h0_20 h0_21 h0_22 h0_23 h0_24 h0_25 h0_f26 h0_f27 h0_f28 h0_f29 h0_f30 h0_f31 h0_32 h0_33 h0_f34 h0_35 h0_36 h0_37 h0_38 h0_39 h0_40 h0_f41 h0_f42 h0_f43 h0_f44 h0_45 h0_46 h0_47 h0_48 h0_49 h0_50 h0_f51 h0_52 h0_f53 h0_39 h0_39k h0_39c h0_38 h0_38k w_26)) (nw := (wd_c_X12_fogOf_5 h0 h0_f0 h0_1 h0_2 h0_3 h0_4 h0_5 h0_f6 h0_f7 h0_f8 h0_f9 h0_f10 h0_f11 h0_f12 h0_f13 h0_f14 h0_15 h0_16 h0_f17 h0_18 h0_19 h0_20 h0_21 h0_22 h0_23 h0_24 h0_25 h0_f26 h0_f27 h0_f28 h0_f29 h0_f30 h0_f31 h0_32 h0_33 h0_f34 h0_35 h0_36 h0_37 h0_38 h0_39 h0_40 h0_f41 h0_f42 h0_f43 h0_f44 h0_45 h0_46 h0_47 h0_48 h0_49 h0_50 h0_f51 h0_52 h0_f53 h0_39 h0_39k h0_39c h0_38 h0_38k w_26)) hP hD [0, 1, 2] [3, 4, 5] 3 rfl hqc (by decide +kernel) rfl hk1 hFc hP1 hD1
      generalize H1 = H at hP hS ⊢
      as_aux_lemma =>
      rcases hw with h_27 | ⟨h_28, h_29⟩
      · refine lv_lstore (lv' := [(8, .long r_25), (6, .long x_23), (0, .ref h0), (1, .int p1), (2, .int 5), (3, .int p3), (4, .long p4)]) hx hb dX12_fogOf_97 hl (Nat.le_of_ble_eq_true rfl) rfl (fun ls hl => ?_)
        refine lv_aload_n hx hb dX12_fogOf_99 rfl (lv_at hl 2 rfl) ?_
        refine va_get (D := (dC, dI)) (ci := 12) (v := .ref h0_38) (C := RX12) (T := TX12) (N := 54) hx hb hts iw_c_X12_fogOf_5_X12 hown hK hP 0 rfl rfl 38 (by decide +kernel) (hts (.fieldLink RX12 81 "BuoyVoteModel" "tally" "[I") (List.mem_of_getElem? (i := 9) rfl)) (fun _ h9 => h9) rfl dX12_fogOf_100 ?_
        refine lv_aload_n hx hb dX12_fogOf_103 rfl (lv_at hl 2 rfl) ?_
        refine va_get (D := (dC, dI)) (ci := 12) (v := .ref h0_39) (C := RX12) (T := TX12) (N := 54) hx hb hts iw_c_X12_fogOf_5_X12 hown hK hP 0 rfl rfl 39 (by decide +kernel) (hts (.fieldLink RX12 84 "BuoyVoteModel" "leans" "[I") (List.mem_of_getElem? (i := 2) rfl)) (fun _ h9 => h9) rfl dX12_fogOf_104 ?_
        refine lv_iload_n hx hb dX12_fogOf_107 rfl (lv_at hl 4 rfl) ?_
        refine va_iald hx hb hK hP 1 0 rfl rfl (RG_in (RG_k 5 5 rfl) (by decide +kernel)) dX12_fogOf_108 ?_
        refine lv_topi (fun x_30 ex_30 => ?_)
        obtain rfl : x_16 = x_30 := (ex_30.trans ex_16.symm).symm
        refine lv_dup2_11 hx hb dX12_fogOf_109 rfl rfl ?_
        refine va_iald hx hb hK hP 2 1 rfl rfl (RG_in g_19 (by decide +kernel)) dX12_fogOf_110 ?_
        refine lv_topi (fun x_31 ex_31 => ?_)
        refine lv_iconst (v := 1) hx hb dX12_fogOf_111 kc_iconst_1 ?_
        as_aux_lemma =>
        refine lv_iadd hx hb dX12_fogOf_112 ?_
        refine lv_topi (fun x_32 ex_32 => ?_)
        refine va_iast hx hb hK hP hD hS 2 1 rfl rfl (RG_in g_19 (by decide +kernel)) dX12_fogOf_113 (fun H locs hP hD hS => ?_)
        have hP : va_P (dC, dI) vwCl (wd_c_X12_fogOf_5 h0 h0_f0 h0_1 h0_2 h0_3 h0_4 h0_5 h0_f6 h0_f7 h0_f8 h0_f9 h0_f10 h0_f11 h0_f12 h0_f13 h0_f14 h0_15 h0_16 h0_f17 h0_18 h0_19 h0_20 h0_21 h0_22 h0_23 h0_24 h0_25 h0_f26 h0_f27 h0_f28 h0_f29 h0_f30 h0_f31 h0_32 h0_33 h0_f34 h0_35 h0_36 h0_37 h0_38 h0_39 h0_40 h0_f41 h0_f42 h0_f43 h0_f44 h0_45 h0_46 h0_47 h0_48 h0_49 h0_50 h0_f51 h0_52 h0_f53 h0_39 h0_39k h0_39c h0_38 h0_38k (upd w_26 (x_16 : Int32).toNatClampNeg x_32)) H := hP
        have hD : va_D A (wd_c_X12_fogOf_5 h0 h0_f0 h0_1 h0_2 h0_3 h0_4 h0_5 h0_f6 h0_f7 h0_f8 h0_f9 h0_f10 h0_f11 h0_f12 h0_f13 h0_f14 h0_15 h0_16 h0_f17 h0_18 h0_19 h0_20 h0_21 h0_22 h0_23 h0_24 h0_25 h0_f26 h0_f27 h0_f28 h0_f29 h0_f30 h0_f31 h0_32 h0_33 h0_f34 h0_35 h0_36 h0_37 h0_38 h0_39 h0_40 h0_f41 h0_f42 h0_f43 h0_f44 h0_45 h0_46 h0_47 h0_48 h0_49 h0_50 h0_f51 h0_52 h0_f53 h0_39 h0_39k h0_39c h0_38 h0_38k (upd w_26 (x_16 : Int32).toNatClampNeg x_32)) := hD
        have l_34 : (upd w_26 (x_16 : Int32).toNatClampNeg x_32) (x_16 : Int32).toNatClampNeg = x_32 := pk_us
        generalize (upd w_26 (x_16 : Int32).toNatClampNeg x_32) = w_33 at hP hD l_34
        have hP : va_P (dC, dI) vwCl (wd_c_X12_fogOf_5 h0 h0_f0 h0_1 h0_2 h0_3 h0_4 h0_5 h0_f6 h0_f7 h0_f8 h0_f9 h0_f10 h0_f11 h0_f12 h0_f13 h0_f14 h0_15 h0_16 h0_f17 h0_18 h0_19 h0_20 h0_21 h0_22 h0_23 h0_24 h0_25 h0_f26 h0_f27 h0_f28 h0_f29 h0_f30 h0_f31 h0_32 h0_33 h0_f34 h0_35 h0_36 h0_37 h0_38 h0_39 h0_40 h0_f41 h0_f42 h0_f43 h0_f44 h0_45 h0_46 h0_47 h0_48 h0_49 h0_50 h0_f51 h0_52 h0_f53 h0_39 h0_39k h0_39c h0_38 h0_38k w_33) H := hP
        have hD : va_D A (wd_c_X12_fogOf_5 h0 h0_f0 h0_1 h0_2 h0_3 h0_4 h0_5 h0_f6 h0_f7 h0_f8 h0_f9 h0_f10 h0_f11 h0_f12 h0_f13 h0_f14 h0_15 h0_16 h0_f17 h0_18 h0_19 h0_20 h0_21 h0_22 h0_23 h0_24 h0_25 h0_f26 h0_f27 h0_f28 h0_f29 h0_f30 h0_f31 h0_32 h0_33 h0_f34 h0_35 h0_36 h0_37 h0_38 h0_39 h0_40 h0_f41 h0_f42 h0_f43 h0_f44 h0_45 h0_46 h0_47 h0_48 h0_49 h0_50 h0_f51 h0_52 h0_f53 h0_39 h0_39k h0_39c h0_38 h0_38k w_33) := hD
        refine lv_lload hx hb dX12_fogOf_114 (lv_at hl 0 rfl) ?_
        refine lv_aload_n hx hb dX12_fogOf_116 rfl (lv_at hl 2 rfl) ?_
        refine lv_iload_n hx hb dX12_fogOf_117 rfl (lv_at hl 3 rfl) ?_
        refine lv_iload_n hx hb dX12_fogOf_118 rfl (lv_at hl 4 rfl) ?_
        refine lv_iconst (v := 1) hx hb dX12_fogOf_119 kc_iconst_1 ?_
        as_aux_lemma =>
        refine lv_iadd hx hb dX12_fogOf_120 ?_
        refine lv_topi (fun x_35 ex_35 => ?_)
        obtain rfl : x_35 = 6 := ex_35.trans (by decide +kernel)
        refine lv_iload_n hx hb dX12_fogOf_121 rfl (lv_at hl 5 rfl) ?_
        refine lv_lload hx hb dX12_fogOf_122 (lv_at hl 6 rfl) ?_
        refine lv_lload hx hb dX12_fogOf_124 (lv_at hl 1 rfl) ?_
        refine lv_lsub hx hb dX12_fogOf_126 ?_
        refine lv_topl (fun x_36 ex_36 => ?_)
        obtain ⟨hPc, hDc, hFc, hqc⟩ := cl_cut (wc := (wd_c_X12_fogOf_6 h0 h0_f0 h0_1 h0_2 h0_3 h0_4 h0_5 h0_f6 h0_f7 h0_f8 h0_f9 h0_f10 h0_f11 h0_f12 h0_f13 h0_f14 h0_15 h0_16 h0_f17 h0_18 h0_19 h0_20 h0_21 h0_22 h0_23 h0_24 h0_25 h0_f26 h0_f27 h0_f28 h0_f29 h0_f30 h0_f31 h0_32 h0_33 h0_f34 h0_35 h0_36 h0_37 h0_38 h0_39 h0_40 h0_f41 h0_f42 h0_f43 h0_f44 h0_45 h0_46 h0_47 h0_48 h0_49 h0_50 h0_f51 h0_52 h0_f53 h0_39 h0_39k h0_39c h0_38 h0_38k w_33)) hP hD hS hA [0, 1, 2] (by decide +kernel) rfl
        have hKc := hK.sub (tys' := [(h0_39k, .int), (h0_38k, .int)]) [0, 1] rfl
        have hrv := va_recv hKc hPc (ci := 12) (q0 := 0) rfl rfl
        refine va_calll (va_runV (As := [.int p1, .int 6, .int p3, .long x_36]) (rest := [.long r_25]) ⟨hx, hb, hml, hown, hts⟩ (c_X12_fogOf_6 l dC dI H.size h0 p1 p3 x_36 h0_f0 h0_1 h0_2 h0_3 h0_4 h0_5 h0_f6 h0_f7 h0_f8 h0_f9 h0_f10 h0_f11 h0_f12 h0_f13 h0_f14 h0_15 h0_16 h0_f17 h0_18 h0_19 h0_20 h0_21 h0_22 h0_23 h0_24 h0_25 h0_f26 h0_f27 h0_f28 h0_f29 h0_f30 h0_f31 h0_32 h0_33 h0_f34 h0_35 h0_36 h0_37 h0_38 h0_39 h0_40 h0_f41 h0_f42 h0_f43 h0_f44 h0_45 h0_46 h0_47 h0_48 h0_49 h0_50 h0_f51 h0_52 h0_f53 h0_39k h0_39c h0_38k w_33 g_p1 g_p3 g_h0_f6 g_h0_f7 g_h0_f8 g_h0_f9 g_h0_f10 g_h0_f11 g_h0_f17 g_15 g_h0_f27 g_h0_f28 g_h0_f29 g_h0_f30 g_h0_f31 g_h0_f34 g_h0_f41 g_h0_f51 g_h0_f53 a_h0_39c) (cwV 4 hts gf_c_X12_fogOf_5_c_X12_fogOf_6 rfl rfl rfl mdV_X12_fogOf ⟨Nat.le_of_ble_eq_true rfl, Nat.le_of_ble_eq_true rfl⟩) ⟨fun a U g mk q => by obtain ⟨q0, q1, qP, qK, qD⟩ := q; exact ⟨q0, q1, qP, va_K.moved (u := U) (U := U.calling g mk a) (Vm.Alike.refl U.vm) qK, qD⟩, hrv, fun U hU hW => ⟨rfl, by rw [hU], by rw [hU]; exact hPc, va_K.moved hW.alike hKc, hDc.weaken (fun _ _ _ _ => trivial)⟩⟩ rfl rfl hl.1 rfl (lv_room (Nat.le_of_ble_eq_true rfl)) dX12_fogOf_127 ⟨Nat.le_of_ble_eq_true rfl, Nat.le_of_ble_eq_true rfl⟩) hS (fun q _ h => hFc q h) hFc (fun r_37 w_38 t H1 locs ht hvm hw hB hz1 hk1 hS => ?_)
        obtain ⟨hP1, hK1, hD1⟩ := hB
        rw [ht] at hP1
        obtain ⟨hP, hD⟩ := cl_put (w1 := (wd_c_X12_fogOf_6 h0 h0_f0 h0_1 h0_2 h0_3 h0_4 h0_5 h0_f6 h0_f7 h0_f8 h0_f9 h0_f10 h0_f11 h0_f12 h0_f13 h0_f14 h0_15 h0_16 h0_f17 h0_18 h0_19 h0_20 h0_21 h0_22 h0_23 h0_24 h0_25 h0_f26 h0_f27 h0_f28 h0_f29 h0_f30 h0_f31 h0_32 h0_33 h0_f34 h0_35 h0_36 h0_37 h0_38 h0_39 h0_40 h0_f41 h0_f42 h0_f43 h0_f44 h0_45 h0_46 h0_47 h0_48 h0_49 h0_50 h0_f51 h0_52 h0_f53 h0_39 h0_39k h0_39c h0_38 h0_38k w_38)) (nw := (wd_c_X12_fogOf_5 h0 h0_f0 h0_1 h0_2 h0_3 h0_4 h0_5 h0_f6 h0_f7 h0_f8 h0_f9 h0_f10 h0_f11 h0_f12 h0_f13 h0_f14 h0_15 h0_16 h0_f17 h0_18 h0_19 h0_20 h0_21 h0_22 h0_23 h0_24 h0_25 h0_f26 h0_f27 h0_f28 h0_f29 h0_f30 h0_f31 h0_32 h0_33 h0_f34 h0_35 h0_36 h0_37 h0_38 h0_39 h0_40 h0_f41 h0_f42 h0_f43 h0_f44 h0_45 h0_46 h0_47 h0_48 h0_49 h0_50 h0_f51 h0_52 h0_f53 h0_39 h0_39k h0_39c h0_38 h0_38k w_38)) hP hD [0, 1, 2] [3, 4, 5] 3 rfl hqc (by decide +kernel) rfl hk1 hFc hP1 hD1
        generalize H1 = H at hP hS ⊢
        as_aux_lemma =>
        rcases hw with h_39 | ⟨h_40, h_41⟩
        · refine lv_ladd hx hb dX12_fogOf_130 ?_
          refine lv_topl (fun x_42 ex_42 => ?_)
          refine lv_lstore (lv' := [(8, .long x_42), (6, .long x_23), (0, .ref h0), (1, .int p1), (2, .int 5), (3, .int p3), (4, .long p4)]) hx hb dX12_fogOf_131 hl (Nat.le_of_ble_eq_true rfl) rfl (fun ls hl => ?_)
          refine lv_aload_n hx hb dX12_fogOf_133 rfl (lv_at hl 2 rfl) ?_
          refine va_get (D := (dC, dI)) (ci := 12) (v := .ref h0_38) (C := RX12) (T := TX12) (N := 54) hx hb hts iw_c_X12_fogOf_5_X12 hown hK hP 0 rfl rfl 38 (by decide +kernel) (hts (.fieldLink RX12 81 "BuoyVoteModel" "tally" "[I") (List.mem_of_getElem? (i := 9) rfl)) (fun _ h9 => h9) rfl dX12_fogOf_134 ?_
          refine lv_aload_n hx hb dX12_fogOf_137 rfl (lv_at hl 2 rfl) ?_
          refine va_get (D := (dC, dI)) (ci := 12) (v := .ref h0_39) (C := RX12) (T := TX12) (N := 54) hx hb hts iw_c_X12_fogOf_5_X12 hown hK hP 0 rfl rfl 39 (by decide +kernel) (hts (.fieldLink RX12 84 "BuoyVoteModel" "leans" "[I") (List.mem_of_getElem? (i := 2) rfl)) (fun _ h9 => h9) rfl dX12_fogOf_138 ?_
          refine lv_iload_n hx hb dX12_fogOf_141 rfl (lv_at hl 4 rfl) ?_
          refine va_iald hx hb hK hP 1 0 rfl rfl (RG_in (RG_k 5 5 rfl) (by decide +kernel)) dX12_fogOf_142 ?_
          refine lv_topi (fun x_43 ex_43 => ?_)
          obtain rfl : x_16 = x_43 := (ex_43.trans ex_16.symm).symm
          refine lv_dup2_11 hx hb dX12_fogOf_143 rfl rfl ?_
          refine va_iald hx hb hK hP 2 1 rfl rfl (RG_in g_19 (by decide +kernel)) dX12_fogOf_144 ?_
          as_aux_lemma =>
          refine lv_topi (fun x_44 ex_44 => ?_)
          refine lv_iconst (v := 1) hx hb dX12_fogOf_145 kc_iconst_1 ?_
          refine lv_isub hx hb dX12_fogOf_146 ?_
          refine lv_topi (fun x_45 ex_45 => ?_)
          refine va_iast hx hb hK hP hD hS 2 1 rfl rfl (RG_in g_19 (by decide +kernel)) dX12_fogOf_147 (fun H locs hP hD hS => ?_)
          have hP : va_P (dC, dI) vwCl (wd_c_X12_fogOf_5 h0 h0_f0 h0_1 h0_2 h0_3 h0_4 h0_5 h0_f6 h0_f7 h0_f8 h0_f9 h0_f10 h0_f11 h0_f12 h0_f13 h0_f14 h0_15 h0_16 h0_f17 h0_18 h0_19 h0_20 h0_21 h0_22 h0_23 h0_24 h0_25 h0_f26 h0_f27 h0_f28 h0_f29 h0_f30 h0_f31 h0_32 h0_33 h0_f34 h0_35 h0_36 h0_37 h0_38 h0_39 h0_40 h0_f41 h0_f42 h0_f43 h0_f44 h0_45 h0_46 h0_47 h0_48 h0_49 h0_50 h0_f51 h0_52 h0_f53 h0_39 h0_39k h0_39c h0_38 h0_38k (upd w_38 (x_16 : Int32).toNatClampNeg x_45)) H := hP
          have hD : va_D A (wd_c_X12_fogOf_5 h0 h0_f0 h0_1 h0_2 h0_3 h0_4 h0_5 h0_f6 h0_f7 h0_f8 h0_f9 h0_f10 h0_f11 h0_f12 h0_f13 h0_f14 h0_15 h0_16 h0_f17 h0_18 h0_19 h0_20 h0_21 h0_22 h0_23 h0_24 h0_25 h0_f26 h0_f27 h0_f28 h0_f29 h0_f30 h0_f31 h0_32 h0_33 h0_f34 h0_35 h0_36 h0_37 h0_38 h0_39 h0_40 h0_f41 h0_f42 h0_f43 h0_f44 h0_45 h0_46 h0_47 h0_48 h0_49 h0_50 h0_f51 h0_52 h0_f53 h0_39 h0_39k h0_39c h0_38 h0_38k (upd w_38 (x_16 : Int32).toNatClampNeg x_45)) := hD
          have l_47 : (upd w_38 (x_16 : Int32).toNatClampNeg x_45) (x_16 : Int32).toNatClampNeg = x_45 := pk_us
          generalize (upd w_38 (x_16 : Int32).toNatClampNeg x_45) = w_46 at hP hD l_47
          have hP : va_P (dC, dI) vwCl (wd_c_X12_fogOf_5 h0 h0_f0 h0_1 h0_2 h0_3 h0_4 h0_5 h0_f6 h0_f7 h0_f8 h0_f9 h0_f10 h0_f11 h0_f12 h0_f13 h0_f14 h0_15 h0_16 h0_f17 h0_18 h0_19 h0_20 h0_21 h0_22 h0_23 h0_24 h0_25 h0_f26 h0_f27 h0_f28 h0_f29 h0_f30 h0_f31 h0_32 h0_33 h0_f34 h0_35 h0_36 h0_37 h0_38 h0_39 h0_40 h0_f41 h0_f42 h0_f43 h0_f44 h0_45 h0_46 h0_47 h0_48 h0_49 h0_50 h0_f51 h0_52 h0_f53 h0_39 h0_39k h0_39c h0_38 h0_38k w_46) H := hP
          have hD : va_D A (wd_c_X12_fogOf_5 h0 h0_f0 h0_1 h0_2 h0_3 h0_4 h0_5 h0_f6 h0_f7 h0_f8 h0_f9 h0_f10 h0_f11 h0_f12 h0_f13 h0_f14 h0_15 h0_16 h0_f17 h0_18 h0_19 h0_20 h0_21 h0_22 h0_23 h0_24 h0_25 h0_f26 h0_f27 h0_f28 h0_f29 h0_f30 h0_f31 h0_32 h0_33 h0_f34 h0_35 h0_36 h0_37 h0_38 h0_39 h0_40 h0_f41 h0_f42 h0_f43 h0_f44 h0_45 h0_46 h0_47 h0_48 h0_49 h0_50 h0_f51 h0_52 h0_f53 h0_39 h0_39k h0_39c h0_38 h0_38k w_46) := hD
          refine lv_lload hx hb dX12_fogOf_148 (lv_at hl 0 rfl) ?_
          have hK9 := hK.sub (tys' := []) [] rfl
          exact W.lret (v := x_42) hx hb hr (fun t ht hW => ⟨⟨x_42, w_46, rfl, (Or.inl (LG_any x_42)), by rw [ht]; exact hP, va_K.moved hW.alike hK9, hD⟩, hS.F ht⟩) hS.2.2 dX12_fogOf_150
        · rw [h_40]
          refine lv_ladd hx hb dX12_fogOf_130 ?_
          as_aux_lemma =>
          refine lv_topl (fun x_48 ex_48 => ?_)
          refine lv_lstore (lv' := [(8, .long x_48), (6, .long x_23), (0, .ref h0), (1, .int p1), (2, .int 5), (3, .int p3), (4, .long p4)]) hx hb dX12_fogOf_131 hl (Nat.le_of_ble_eq_true rfl) rfl (fun ls hl => ?_)
          refine lv_aload_n hx hb dX12_fogOf_133 rfl (lv_at hl 2 rfl) ?_
          refine va_get (D := (dC, dI)) (ci := 12) (v := .ref h0_38) (C := RX12) (T := TX12) (N := 54) hx hb hts iw_c_X12_fogOf_5_X12 hown hK hP 0 rfl rfl 38 (by decide +kernel) (hts (.fieldLink RX12 81 "BuoyVoteModel" "tally" "[I") (List.mem_of_getElem? (i := 9) rfl)) (fun _ h9 => h9) rfl dX12_fogOf_134 ?_
          refine lv_aload_n hx hb dX12_fogOf_137 rfl (lv_at hl 2 rfl) ?_
          refine va_get (D := (dC, dI)) (ci := 12) (v := .ref h0_39) (C := RX12) (T := TX12) (N := 54) hx hb hts iw_c_X12_fogOf_5_X12 hown hK hP 0 rfl rfl 39 (by decide +kernel) (hts (.fieldLink RX12 84 "BuoyVoteModel" "leans" "[I") (List.mem_of_getElem? (i := 2) rfl)) (fun _ h9 => h9) rfl dX12_fogOf_138 ?_
          refine lv_iload_n hx hb dX12_fogOf_141 rfl (lv_at hl 4 rfl) ?_
          refine va_iald hx hb hK hP 1 0 rfl rfl (RG_in (RG_k 5 5 rfl) (by decide +kernel)) dX12_fogOf_142 ?_
          refine lv_topi (fun x_49 ex_49 => ?_)
          obtain rfl : x_16 = x_49 := (ex_49.trans ex_16.symm).symm
          refine lv_dup2_11 hx hb dX12_fogOf_143 rfl rfl ?_
          refine va_iald hx hb hK hP 2 1 rfl rfl (RG_in g_19 (by decide +kernel)) dX12_fogOf_144 ?_
          refine lv_topi (fun x_50 ex_50 => ?_)
          refine lv_iconst (v := 1) hx hb dX12_fogOf_145 kc_iconst_1 ?_
          as_aux_lemma =>
          refine lv_isub hx hb dX12_fogOf_146 ?_
          refine lv_topi (fun x_51 ex_51 => ?_)
          refine va_iast hx hb hK hP hD hS 2 1 rfl rfl (RG_in g_19 (by decide +kernel)) dX12_fogOf_147 (fun H locs hP hD hS => ?_)
          have hP : va_P (dC, dI) vwCl (wd_c_X12_fogOf_5 h0 h0_f0 h0_1 h0_2 h0_3 h0_4 h0_5 h0_f6 h0_f7 h0_f8 h0_f9 h0_f10 h0_f11 h0_f12 h0_f13 h0_f14 h0_15 h0_16 h0_f17 h0_18 h0_19 h0_20 h0_21 h0_22 h0_23 h0_24 h0_25 h0_f26 h0_f27 h0_f28 h0_f29 h0_f30 h0_f31 h0_32 h0_33 h0_f34 h0_35 h0_36 h0_37 h0_38 h0_39 h0_40 h0_f41 h0_f42 h0_f43 h0_f44 h0_45 h0_46 h0_47 h0_48 h0_49 h0_50 h0_f51 h0_52 h0_f53 h0_39 h0_39k h0_39c h0_38 h0_38k (upd w_38 (x_16 : Int32).toNatClampNeg x_51)) H := hP
          have hD : va_D A (wd_c_X12_fogOf_5 h0 h0_f0 h0_1 h0_2 h0_3 h0_4 h0_5 h0_f6 h0_f7 h0_f8 h0_f9 h0_f10 h0_f11 h0_f12 h0_f13 h0_f14 h0_15 h0_16 h0_f17 h0_18 h0_19 h0_20 h0_21 h0_22 h0_23 h0_24 h0_25 h0_f26 h0_f27 h0_f28 h0_f29 h0_f30 h0_f31 h0_32 h0_33 h0_f34 h0_35 h0_36 h0_37 h0_38 h0_39 h0_40 h0_f41 h0_f42 h0_f43 h0_f44 h0_45 h0_46 h0_47 h0_48 h0_49 h0_50 h0_f51 h0_52 h0_f53 h0_39 h0_39k h0_39c h0_38 h0_38k (upd w_38 (x_16 : Int32).toNatClampNeg x_51)) := hD
          have l_53 : (upd w_38 (x_16 : Int32).toNatClampNeg x_51) (x_16 : Int32).toNatClampNeg = x_51 := pk_us
          generalize (upd w_38 (x_16 : Int32).toNatClampNeg x_51) = w_52 at hP hD l_53
          have hP : va_P (dC, dI) vwCl (wd_c_X12_fogOf_5 h0 h0_f0 h0_1 h0_2 h0_3 h0_4 h0_5 h0_f6 h0_f7 h0_f8 h0_f9 h0_f10 h0_f11 h0_f12 h0_f13 h0_f14 h0_15 h0_16 h0_f17 h0_18 h0_19 h0_20 h0_21 h0_22 h0_23 h0_24 h0_25 h0_f26 h0_f27 h0_f28 h0_f29 h0_f30 h0_f31 h0_32 h0_33 h0_f34 h0_35 h0_36 h0_37 h0_38 h0_39 h0_40 h0_f41 h0_f42 h0_f43 h0_f44 h0_45 h0_46 h0_47 h0_48 h0_49 h0_50 h0_f51 h0_52 h0_f53 h0_39 h0_39k h0_39c h0_38 h0_38k w_52) H := hP
          have hD : va_D A (wd_c_X12_fogOf_5 h0 h0_f0 h0_1 h0_2 h0_3 h0_4 h0_5 h0_f6 h0_f7 h0_f8 h0_f9 h0_f10 h0_f11 h0_f12 h0_f13 h0_f14 h0_15 h0_16 h0_f17 h0_18 h0_19 h0_20 h0_21 h0_22 h0_23 h0_24 h0_25 h0_f26 h0_f27 h0_f28 h0_f29 h0_f30 h0_f31 h0_32 h0_33 h0_f34 h0_35 h0_36 h0_37 h0_38 h0_39 h0_40 h0_f41 h0_f42 h0_f43 h0_f44 h0_45 h0_46 h0_47 h0_48 h0_49 h0_50 h0_f51 h0_52 h0_f53 h0_39 h0_39k h0_39c h0_38 h0_38k w_52) := hD
          refine lv_lload hx hb dX12_fogOf_148 (lv_at hl 0 rfl) ?_
          have hK9 := hK.sub (tys' := []) [] rfl
          exact W.lret (v := x_48) hx hb hr (fun t ht hW => ⟨⟨x_48, w_52, rfl, (Or.inl (LG_any x_48)), by rw [ht]; exact hP, va_K.moved hW.alike hK9, hD⟩, hS.F ht⟩) hS.2.2 dX12_fogOf_150
      · rw [h_28]
        refine lv_lstore (lv' := [(8, .long 0), (6, .long x_23), (0, .ref h0), (1, .int p1), (2, .int 5), (3, .int p3), (4, .long p4)]) hx hb dX12_fogOf_97 hl (Nat.le_of_ble_eq_true rfl) rfl (fun ls hl => ?_)
        as_aux_lemma =>
        refine lv_aload_n hx hb dX12_fogOf_99 rfl (lv_at hl 2 rfl) ?_
        refine va_get (D := (dC, dI)) (ci := 12) (v := .ref h0_38) (C := RX12) (T := TX12) (N := 54) hx hb hts iw_c_X12_fogOf_5_X12 hown hK hP 0 rfl rfl 38 (by decide +kernel) (hts (.fieldLink RX12 81 "BuoyVoteModel" "tally" "[I") (List.mem_of_getElem? (i := 9) rfl)) (fun _ h9 => h9) rfl dX12_fogOf_100 ?_
        refine lv_aload_n hx hb dX12_fogOf_103 rfl (lv_at hl 2 rfl) ?_
        refine va_get (D := (dC, dI)) (ci := 12) (v := .ref h0_39) (C := RX12) (T := TX12) (N := 54) hx hb hts iw_c_X12_fogOf_5_X12 hown hK hP 0 rfl rfl 39 (by decide +kernel) (hts (.fieldLink RX12 84 "BuoyVoteModel" "leans" "[I") (List.mem_of_getElem? (i := 2) rfl)) (fun _ h9 => h9) rfl dX12_fogOf_104 ?_
        refine lv_iload_n hx hb dX12_fogOf_107 rfl (lv_at hl 4 rfl) ?_
        refine va_iald hx hb hK hP 1 0 rfl rfl (RG_in (RG_k 5 5 rfl) (by decide +kernel)) dX12_fogOf_108 ?_
        refine lv_topi (fun x_54 ex_54 => ?_)
        obtain rfl : x_16 = x_54 := (ex_54.trans ex_16.symm).symm
        refine lv_dup2_11 hx hb dX12_fogOf_109 rfl rfl ?_
        refine va_iald hx hb hK hP 2 1 rfl rfl (RG_in g_19 (by decide +kernel)) dX12_fogOf_110 ?_
        refine lv_topi (fun x_55 ex_55 => ?_)
        refine lv_iconst (v := 1) hx hb dX12_fogOf_111 kc_iconst_1 ?_
        refine lv_iadd hx hb dX12_fogOf_112 ?_
        refine lv_topi (fun x_56 ex_56 => ?_)
        as_aux_lemma =>
        refine va_iast hx hb hK hP hD hS 2 1 rfl rfl (RG_in g_19 (by decide +kernel)) dX12_fogOf_113 (fun H locs hP hD hS => ?_)
        have hP : va_P (dC, dI) vwCl (wd_c_X12_fogOf_5 h0 h0_f0 h0_1 h0_2 h0_3 h0_4 h0_5 h0_f6 h0_f7 h0_f8 h0_f9 h0_f10 h0_f11 h0_f12 h0_f13 h0_f14 h0_15 h0_16 h0_f17 h0_18 h0_19 h0_20 h0_21 h0_22 h0_23 h0_24 h0_25 h0_f26 h0_f27 h0_f28 h0_f29 h0_f30 h0_f31 h0_32 h0_33 h0_f34 h0_35 h0_36 h0_37 h0_38 h0_39 h0_40 h0_f41 h0_f42 h0_f43 h0_f44 h0_45 h0_46 h0_47 h0_48 h0_49 h0_50 h0_f51 h0_52 h0_f53 h0_39 h0_39k h0_39c h0_38 h0_38k (upd w_26 (x_16 : Int32).toNatClampNeg x_56)) H := hP
        have hD : va_D A (wd_c_X12_fogOf_5 h0 h0_f0 h0_1 h0_2 h0_3 h0_4 h0_5 h0_f6 h0_f7 h0_f8 h0_f9 h0_f10 h0_f11 h0_f12 h0_f13 h0_f14 h0_15 h0_16 h0_f17 h0_18 h0_19 h0_20 h0_21 h0_22 h0_23 h0_24 h0_25 h0_f26 h0_f27 h0_f28 h0_f29 h0_f30 h0_f31 h0_32 h0_33 h0_f34 h0_35 h0_36 h0_37 h0_38 h0_39 h0_40 h0_f41 h0_f42 h0_f43 h0_f44 h0_45 h0_46 h0_47 h0_48 h0_49 h0_50 h0_f51 h0_52 h0_f53 h0_39 h0_39k h0_39c h0_38 h0_38k (upd w_26 (x_16 : Int32).toNatClampNeg x_56)) := hD
        have l_58 : (upd w_26 (x_16 : Int32).toNatClampNeg x_56) (x_16 : Int32).toNatClampNeg = x_56 := pk_us
        generalize (upd w_26 (x_16 : Int32).toNatClampNeg x_56) = w_57 at hP hD l_58
        have hP : va_P (dC, dI) vwCl (wd_c_X12_fogOf_5 h0 h0_f0 h0_1 h0_2 h0_3 h0_4 h0_5 h0_f6 h0_f7 h0_f8 h0_f9 h0_f10 h0_f11 h0_f12 h0_f13 h0_f14 h0_15 h0_16 h0_f17 h0_18 h0_19 h0_20 h0_21 h0_22 h0_23 h0_24 h0_25 h0_f26 h0_f27 h0_f28 h0_f29 h0_f30 h0_f31 h0_32 h0_33 h0_f34 h0_35 h0_36 h0_37 h0_38 h0_39 h0_40 h0_f41 h0_f42 h0_f43 h0_f44 h0_45 h0_46 h0_47 h0_48 h0_49 h0_50 h0_f51 h0_52 h0_f53 h0_39 h0_39k h0_39c h0_38 h0_38k w_57) H := hP
        have hD : va_D A (wd_c_X12_fogOf_5 h0 h0_f0 h0_1 h0_2 h0_3 h0_4 h0_5 h0_f6 h0_f7 h0_f8 h0_f9 h0_f10 h0_f11 h0_f12 h0_f13 h0_f14 h0_15 h0_16 h0_f17 h0_18 h0_19 h0_20 h0_21 h0_22 h0_23 h0_24 h0_25 h0_f26 h0_f27 h0_f28 h0_f29 h0_f30 h0_f31 h0_32 h0_33 h0_f34 h0_35 h0_36 h0_37 h0_38 h0_39 h0_40 h0_f41 h0_f42 h0_f43 h0_f44 h0_45 h0_46 h0_47 h0_48 h0_49 h0_50 h0_f51 h0_52 h0_f53 h0_39 h0_39k h0_39c h0_38 h0_38k w_57) := hD
        refine lv_lload hx hb dX12_fogOf_114 (lv_at hl 0 rfl) ?_
        refine lv_aload_n hx hb dX12_fogOf_116 rfl (lv_at hl 2 rfl) ?_
        refine lv_iload_n hx hb dX12_fogOf_117 rfl (lv_at hl 3 rfl) ?_
        refine lv_iload_n hx hb dX12_fogOf_118 rfl (lv_at hl 4 rfl) ?_
        refine lv_iconst (v := 1) hx hb dX12_fogOf_119 kc_iconst_1 ?_
        refine lv_iadd hx hb dX12_fogOf_120 ?_
        refine lv_topi (fun x_59 ex_59 => ?_)
        as_aux_lemma =>
        obtain rfl : x_59 = 6 := ex_59.trans (by decide +kernel)
        refine lv_iload_n hx hb dX12_fogOf_121 rfl (lv_at hl 5 rfl) ?_
        refine lv_lload hx hb dX12_fogOf_122 (lv_at hl 6 rfl) ?_
        refine lv_lload hx hb dX12_fogOf_124 (lv_at hl 1 rfl) ?_
        refine lv_lsub hx hb dX12_fogOf_126 ?_
        refine lv_topl (fun x_60 ex_60 => ?_)
        obtain ⟨hPc, hDc, hFc, hqc⟩ := cl_cut (wc := (wd_c_X12_fogOf_6 h0 h0_f0 h0_1 h0_2 h0_3 h0_4 h0_5 h0_f6 h0_f7 h0_f8 h0_f9 h0_f10 h0_f11 h0_f12 h0_f13 h0_f14 h0_15 h0_16 h0_f17 h0_18 h0_19 h0_20 h0_21 h0_22 h0_23 h0_24 h0_25 h0_f26 h0_f27 h0_f28 h0_f29 h0_f30 h0_f31 h0_32 h0_33 h0_f34 h0_35 h0_36 h0_37 h0_38 h0_39 h0_40 h0_f41 h0_f42 h0_f43 h0_f44 h0_45 h0_46 h0_47 h0_48 h0_49 h0_50 h0_f51 h0_52 h0_f53 h0_39 h0_39k h0_39c h0_38 h0_38k w_57)) hP hD hS hA [0, 1, 2] (by decide +kernel) rfl
        have hKc := hK.sub (tys' := [(h0_39k, .int), (h0_38k, .int)]) [0, 1] rfl
        have hrv := va_recv hKc hPc (ci := 12) (q0 := 0) rfl rfl
        refine va_calll (va_runV (As := [.int p1, .int 6, .int p3, .long x_60]) (rest := [.long 0]) ⟨hx, hb, hml, hown, hts⟩ (c_X12_fogOf_6 l dC dI H.size h0 p1 p3 x_60 h0_f0 h0_1 h0_2 h0_3 h0_4 h0_5 h0_f6 h0_f7 h0_f8 h0_f9 h0_f10 h0_f11 h0_f12 h0_f13 h0_f14 h0_15 h0_16 h0_f17 h0_18 h0_19 h0_20 h0_21 h0_22 h0_23 h0_24 h0_25 h0_f26 h0_f27 h0_f28 h0_f29 h0_f30 h0_f31 h0_32 h0_33 h0_f34 h0_35 h0_36 h0_37 h0_38 h0_39 h0_40 h0_f41 h0_f42 h0_f43 h0_f44 h0_45 h0_46 h0_47 h0_48 h0_49 h0_50 h0_f51 h0_52 h0_f53 h0_39k h0_39c h0_38k w_57 g_p1 g_p3 g_h0_f6 g_h0_f7 g_h0_f8 g_h0_f9 g_h0_f10 g_h0_f11 g_h0_f17 g_15 (RG_w h_29 (by decide +kernel)) g_h0_f28 g_h0_f29 g_h0_f30 g_h0_f31 g_h0_f34 g_h0_f41 g_h0_f51 g_h0_f53 a_h0_39c) (cwV 4 hts gf_c_X12_fogOf_5_c_X12_fogOf_6 rfl rfl rfl mdV_X12_fogOf ⟨Nat.le_of_ble_eq_true rfl, Nat.le_of_ble_eq_true rfl⟩) ⟨fun a U g mk q => by obtain ⟨q0, q1, qP, qK, qD⟩ := q; exact ⟨q0, q1, qP, va_K.moved (u := U) (U := U.calling g mk a) (Vm.Alike.refl U.vm) qK, qD⟩, hrv, fun U hU hW => ⟨rfl, by rw [hU], by rw [hU]; exact hPc, va_K.moved hW.alike hKc, hDc.weaken (fun _ _ _ _ => trivial)⟩⟩ rfl rfl hl.1 rfl (lv_room (Nat.le_of_ble_eq_true rfl)) dX12_fogOf_127 ⟨Nat.le_of_ble_eq_true rfl, Nat.le_of_ble_eq_true rfl⟩) hS (fun q _ h => hFc q h) hFc (fun r_61 w_62 t H1 locs ht hvm hw hB hz1 hk1 hS => ?_)
        obtain ⟨hP1, hK1, hD1⟩ := hB
        rw [ht] at hP1
        obtain ⟨hP, hD⟩ := cl_put (w1 := (wd_c_X12_fogOf_6 h0 h0_f0 h0_1 h0_2 h0_3 h0_4 h0_5 h0_f6 h0_f7 h0_f8 h0_f9 h0_f10 h0_f11 h0_f12 h0_f13 h0_f14 h0_15 h0_16 h0_f17 h0_18 h0_19 h0_20 h0_21 h0_22 h0_23 h0_24 h0_25 h0_f26 h0_f27 h0_f28 h0_f29 h0_f30 h0_f31 h0_32 h0_33 h0_f34 h0_35 h0_36 h0_37 h0_38 h0_39 h0_40 h0_f41 h0_f42 h0_f43 h0_f44 h0_45 h0_46 h0_47 h0_48 h0_49 h0_50 h0_f51 h0_52 h0_f53 h0_39 h0_39k h0_39c h0_38 h0_38k w_62)) (nw := (wd_c_X12_fogOf_5 h0 h0_f0 h0_1 h0_2 h0_3 h0_4 h0_5 h0_f6 h0_f7 h0_f8 h0_f9 h0_f10 h0_f11 h0_f12 h0_f13 h0_f14 h0_15 h0_16 h0_f17 h0_18 h0_19 h0_20 h0_21 h0_22 h0_23 h0_24 h0_25 h0_f26 h0_f27 h0_f28 h0_f29 h0_f30 h0_f31 h0_32 h0_33 h0_f34 h0_35 h0_36 h0_37 h0_38 h0_39 h0_40 h0_f41 h0_f42 h0_f43 h0_f44 h0_45 h0_46 h0_47 h0_48 h0_49 h0_50 h0_f51 h0_52 h0_f53 h0_39 h0_39k h0_39c h0_38 h0_38k w_62)) hP hD [0, 1, 2] [3, 4, 5] 3 rfl hqc (by decide +kernel) rfl hk1 hFc hP1 hD1
        generalize H1 = H at hP hS ⊢
        as_aux_lemma =>
        rcases hw with h_63 | ⟨h_64, h_65⟩
        · refine lv_ladd hx hb dX12_fogOf_130 ?_
          refine lv_topl (fun x_66 ex_66 => ?_)
          refine lv_lstore (lv' := [(8, .long x_66), (6, .long x_23), (0, .ref h0), (1, .int p1), (2, .int 5), (3, .int p3), (4, .long p4)]) hx hb dX12_fogOf_131 hl (Nat.le_of_ble_eq_true rfl) rfl (fun ls hl => ?_)
          refine lv_aload_n hx hb dX12_fogOf_133 rfl (lv_at hl 2 rfl) ?_
          refine va_get (D := (dC, dI)) (ci := 12) (v := .ref h0_38) (C := RX12) (T := TX12) (N := 54) hx hb hts iw_c_X12_fogOf_5_X12 hown hK hP 0 rfl rfl 38 (by decide +kernel) (hts (.fieldLink RX12 81 "BuoyVoteModel" "tally" "[I") (List.mem_of_getElem? (i := 9) rfl)) (fun _ h9 => h9) rfl dX12_fogOf_134 ?_
          refine lv_aload_n hx hb dX12_fogOf_137 rfl (lv_at hl 2 rfl) ?_
          refine va_get (D := (dC, dI)) (ci := 12) (v := .ref h0_39) (C := RX12) (T := TX12) (N := 54) hx hb hts iw_c_X12_fogOf_5_X12 hown hK hP 0 rfl rfl 39 (by decide +kernel) (hts (.fieldLink RX12 84 "BuoyVoteModel" "leans" "[I") (List.mem_of_getElem? (i := 2) rfl)) (fun _ h9 => h9) rfl dX12_fogOf_138 ?_
          refine lv_iload_n hx hb dX12_fogOf_141 rfl (lv_at hl 4 rfl) ?_
          refine va_iald hx hb hK hP 1 0 rfl rfl (RG_in (RG_k 5 5 rfl) (by decide +kernel)) dX12_fogOf_142 ?_
          refine lv_topi (fun x_67 ex_67 => ?_)
          obtain rfl : x_16 = x_67 := (ex_67.trans ex_16.symm).symm
          refine lv_dup2_11 hx hb dX12_fogOf_143 rfl rfl ?_
          refine va_iald hx hb hK hP 2 1 rfl rfl (RG_in g_19 (by decide +kernel)) dX12_fogOf_144 ?_
          as_aux_lemma =>
          refine lv_topi (fun x_68 ex_68 => ?_)
          refine lv_iconst (v := 1) hx hb dX12_fogOf_145 kc_iconst_1 ?_
          refine lv_isub hx hb dX12_fogOf_146 ?_
          refine lv_topi (fun x_69 ex_69 => ?_)
          refine va_iast hx hb hK hP hD hS 2 1 rfl rfl (RG_in g_19 (by decide +kernel)) dX12_fogOf_147 (fun H locs hP hD hS => ?_)
          have hP : va_P (dC, dI) vwCl (wd_c_X12_fogOf_5 h0 h0_f0 h0_1 h0_2 h0_3 h0_4 h0_5 h0_f6 h0_f7 h0_f8 h0_f9 h0_f10 h0_f11 h0_f12 h0_f13 h0_f14 h0_15 h0_16 h0_f17 h0_18 h0_19 h0_20 h0_21 h0_22 h0_23 h0_24 h0_25 h0_f26 h0_f27 h0_f28 h0_f29 h0_f30 h0_f31 h0_32 h0_33 h0_f34 h0_35 h0_36 h0_37 h0_38 h0_39 h0_40 h0_f41 h0_f42 h0_f43 h0_f44 h0_45 h0_46 h0_47 h0_48 h0_49 h0_50 h0_f51 h0_52 h0_f53 h0_39 h0_39k h0_39c h0_38 h0_38k (upd w_62 (x_16 : Int32).toNatClampNeg x_69)) H := hP
          have hD : va_D A (wd_c_X12_fogOf_5 h0 h0_f0 h0_1 h0_2 h0_3 h0_4 h0_5 h0_f6 h0_f7 h0_f8 h0_f9 h0_f10 h0_f11 h0_f12 h0_f13 h0_f14 h0_15 h0_16 h0_f17 h0_18 h0_19 h0_20 h0_21 h0_22 h0_23 h0_24 h0_25 h0_f26 h0_f27 h0_f28 h0_f29 h0_f30 h0_f31 h0_32 h0_33 h0_f34 h0_35 h0_36 h0_37 h0_38 h0_39 h0_40 h0_f41 h0_f42 h0_f43 h0_f44 h0_45 h0_46 h0_47 h0_48 h0_49 h0_50 h0_f51 h0_52 h0_f53 h0_39 h0_39k h0_39c h0_38 h0_38k (upd w_62 (x_16 : Int32).toNatClampNeg x_69)) := hD
          have l_71 : (upd w_62 (x_16 : Int32).toNatClampNeg x_69) (x_16 : Int32).toNatClampNeg = x_69 := pk_us
          generalize (upd w_62 (x_16 : Int32).toNatClampNeg x_69) = w_70 at hP hD l_71
          have hP : va_P (dC, dI) vwCl (wd_c_X12_fogOf_5 h0 h0_f0 h0_1 h0_2 h0_3 h0_4 h0_5 h0_f6 h0_f7 h0_f8 h0_f9 h0_f10 h0_f11 h0_f12 h0_f13 h0_f14 h0_15 h0_16 h0_f17 h0_18 h0_19 h0_20 h0_21 h0_22 h0_23 h0_24 h0_25 h0_f26 h0_f27 h0_f28 h0_f29 h0_f30 h0_f31 h0_32 h0_33 h0_f34 h0_35 h0_36 h0_37 h0_38 h0_39 h0_40 h0_f41 h0_f42 h0_f43 h0_f44 h0_45 h0_46 h0_47 h0_48 h0_49 h0_50 h0_f51 h0_52 h0_f53 h0_39 h0_39k h0_39c h0_38 h0_38k w_70) H := hP
          have hD : va_D A (wd_c_X12_fogOf_5 h0 h0_f0 h0_1 h0_2 h0_3 h0_4 h0_5 h0_f6 h0_f7 h0_f8 h0_f9 h0_f10 h0_f11 h0_f12 h0_f13 h0_f14 h0_15 h0_16 h0_f17 h0_18 h0_19 h0_20 h0_21 h0_22 h0_23 h0_24 h0_25 h0_f26 h0_f27 h0_f28 h0_f29 h0_f30 h0_f31 h0_32 h0_33 h0_f34 h0_35 h0_36 h0_37 h0_38 h0_39 h0_40 h0_f41 h0_f42 h0_f43 h0_f44 h0_45 h0_46 h0_47 h0_48 h0_49 h0_50 h0_f51 h0_52 h0_f53 h0_39 h0_39k h0_39c h0_38 h0_38k w_70) := hD
          refine lv_lload hx hb dX12_fogOf_148 (lv_at hl 0 rfl) ?_
          have hK9 := hK.sub (tys' := []) [] rfl
          exact W.lret (v := x_66) hx hb hr (fun t ht hW => ⟨⟨x_66, w_70, rfl, (Or.inl (LG_any x_66)), by rw [ht]; exact hP, va_K.moved hW.alike hK9, hD⟩, hS.F ht⟩) hS.2.2 dX12_fogOf_150
        · rw [h_64]
          refine lv_ladd hx hb dX12_fogOf_130 ?_
          as_aux_lemma =>
          refine lv_topl (fun x_72 ex_72 => ?_)
          obtain rfl : x_72 = 0 := ex_72.trans (by decide +kernel)
          refine lv_lstore (lv' := [(8, .long 0), (6, .long x_23), (0, .ref h0), (1, .int p1), (2, .int 5), (3, .int p3), (4, .long p4)]) hx hb dX12_fogOf_131 hl (Nat.le_of_ble_eq_true rfl) rfl (fun ls hl => ?_)
          refine lv_aload_n hx hb dX12_fogOf_133 rfl (lv_at hl 2 rfl) ?_
          refine va_get (D := (dC, dI)) (ci := 12) (v := .ref h0_38) (C := RX12) (T := TX12) (N := 54) hx hb hts iw_c_X12_fogOf_5_X12 hown hK hP 0 rfl rfl 38 (by decide +kernel) (hts (.fieldLink RX12 81 "BuoyVoteModel" "tally" "[I") (List.mem_of_getElem? (i := 9) rfl)) (fun _ h9 => h9) rfl dX12_fogOf_134 ?_
          refine lv_aload_n hx hb dX12_fogOf_137 rfl (lv_at hl 2 rfl) ?_
          refine va_get (D := (dC, dI)) (ci := 12) (v := .ref h0_39) (C := RX12) (T := TX12) (N := 54) hx hb hts iw_c_X12_fogOf_5_X12 hown hK hP 0 rfl rfl 39 (by decide +kernel) (hts (.fieldLink RX12 84 "BuoyVoteModel" "leans" "[I") (List.mem_of_getElem? (i := 2) rfl)) (fun _ h9 => h9) rfl dX12_fogOf_138 ?_
          refine lv_iload_n hx hb dX12_fogOf_141 rfl (lv_at hl 4 rfl) ?_
          refine va_iald hx hb hK hP 1 0 rfl rfl (RG_in (RG_k 5 5 rfl) (by decide +kernel)) dX12_fogOf_142 ?_
          refine lv_topi (fun x_73 ex_73 => ?_)
          obtain rfl : x_16 = x_73 := (ex_73.trans ex_16.symm).symm
          refine lv_dup2_11 hx hb dX12_fogOf_143 rfl rfl ?_
          refine va_iald hx hb hK hP 2 1 rfl rfl (RG_in g_19 (by decide +kernel)) dX12_fogOf_144 ?_
          refine lv_topi (fun x_74 ex_74 => ?_)
          as_aux_lemma =>
          refine lv_iconst (v := 1) hx hb dX12_fogOf_145 kc_iconst_1 ?_
          refine lv_isub hx hb dX12_fogOf_146 ?_
          refine lv_topi (fun x_75 ex_75 => ?_)
          refine va_iast hx hb hK hP hD hS 2 1 rfl rfl (RG_in g_19 (by decide +kernel)) dX12_fogOf_147 (fun H locs hP hD hS => ?_)
          have hP : va_P (dC, dI) vwCl (wd_c_X12_fogOf_5 h0 h0_f0 h0_1 h0_2 h0_3 h0_4 h0_5 h0_f6 h0_f7 h0_f8 h0_f9 h0_f10 h0_f11 h0_f12 h0_f13 h0_f14 h0_15 h0_16 h0_f17 h0_18 h0_19 h0_20 h0_21 h0_22 h0_23 h0_24 h0_25 h0_f26 h0_f27 h0_f28 h0_f29 h0_f30 h0_f31 h0_32 h0_33 h0_f34 h0_35 h0_36 h0_37 h0_38 h0_39 h0_40 h0_f41 h0_f42 h0_f43 h0_f44 h0_45 h0_46 h0_47 h0_48 h0_49 h0_50 h0_f51 h0_52 h0_f53 h0_39 h0_39k h0_39c h0_38 h0_38k (upd w_62 (x_16 : Int32).toNatClampNeg x_75)) H := hP
          have hD : va_D A (wd_c_X12_fogOf_5 h0 h0_f0 h0_1 h0_2 h0_3 h0_4 h0_5 h0_f6 h0_f7 h0_f8 h0_f9 h0_f10 h0_f11 h0_f12 h0_f13 h0_f14 h0_15 h0_16 h0_f17 h0_18 h0_19 h0_20 h0_21 h0_22 h0_23 h0_24 h0_25 h0_f26 h0_f27 h0_f28 h0_f29 h0_f30 h0_f31 h0_32 h0_33 h0_f34 h0_35 h0_36 h0_37 h0_38 h0_39 h0_40 h0_f41 h0_f42 h0_f43 h0_f44 h0_45 h0_46 h0_47 h0_48 h0_49 h0_50 h0_f51 h0_52 h0_f53 h0_39 h0_39k h0_39c h0_38 h0_38k (upd w_62 (x_16 : Int32).toNatClampNeg x_75)) := hD
          have l_77 : (upd w_62 (x_16 : Int32).toNatClampNeg x_75) (x_16 : Int32).toNatClampNeg = x_75 := pk_us
          generalize (upd w_62 (x_16 : Int32).toNatClampNeg x_75) = w_76 at hP hD l_77
          have hP : va_P (dC, dI) vwCl (wd_c_X12_fogOf_5 h0 h0_f0 h0_1 h0_2 h0_3 h0_4 h0_5 h0_f6 h0_f7 h0_f8 h0_f9 h0_f10 h0_f11 h0_f12 h0_f13 h0_f14 h0_15 h0_16 h0_f17 h0_18 h0_19 h0_20 h0_21 h0_22 h0_23 h0_24 h0_25 h0_f26 h0_f27 h0_f28 h0_f29 h0_f30 h0_f31 h0_32 h0_33 h0_f34 h0_35 h0_36 h0_37 h0_38 h0_39 h0_40 h0_f41 h0_f42 h0_f43 h0_f44 h0_45 h0_46 h0_47 h0_48 h0_49 h0_50 h0_f51 h0_52 h0_f53 h0_39 h0_39k h0_39c h0_38 h0_38k w_76) H := hP
          have hD : va_D A (wd_c_X12_fogOf_5 h0 h0_f0 h0_1 h0_2 h0_3 h0_4 h0_5 h0_f6 h0_f7 h0_f8 h0_f9 h0_f10 h0_f11 h0_f12 h0_f13 h0_f14 h0_15 h0_16 h0_f17 h0_18 h0_19 h0_20 h0_21 h0_22 h0_23 h0_24 h0_25 h0_f26 h0_f27 h0_f28 h0_f29 h0_f30 h0_f31 h0_32 h0_33 h0_f34 h0_35 h0_36 h0_37 h0_38 h0_39 h0_40 h0_f41 h0_f42 h0_f43 h0_f44 h0_45 h0_46 h0_47 h0_48 h0_49 h0_50 h0_f51 h0_52 h0_f53 h0_39 h0_39k h0_39c h0_38 h0_38k w_76) := hD
          refine lv_lload hx hb dX12_fogOf_148 (lv_at hl 0 rfl) ?_
          have hK9 := hK.sub (tys' := []) [] rfl
          exact W.lret (v := 0) hx hb hr (fun t ht hW => ⟨⟨0, w_76, rfl, (Or.inr ⟨rfl, h_29⟩), by rw [ht]; exact hP, va_K.moved hW.alike hK9, hD⟩, hS.F ht⟩) hS.2.2 dX12_fogOf_150
    · have g_78 : RG x_16 (-1) (-1) := RG_eq1 g_17 (RG_k (-1) (-1) rfl) c_18 (by decide +kernel)
      refine lv_aload_n hx hb dX12_fogOf_63 rfl (lv_at hl 0 rfl) ?_
      as_aux_lemma =>
      refine lv_iload_n hx hb dX12_fogOf_64 rfl (lv_at hl 1 rfl) ?_
      refine lv_iload_n hx hb dX12_fogOf_65 rfl (lv_at hl 2 rfl) ?_
      refine lv_iconst (v := 1) hx hb dX12_fogOf_66 kc_iconst_1 ?_
      refine lv_iadd hx hb dX12_fogOf_67 ?_
      refine lv_topi (fun x_79 ex_79 => ?_)
      obtain rfl : x_79 = 6 := ex_79.trans (by decide +kernel)
      refine lv_iload_n hx hb dX12_fogOf_68 rfl (lv_at hl 3 rfl) ?_
      refine lv_lload hx hb dX12_fogOf_69 (lv_at hl 4 rfl) ?_
      obtain ⟨hPc, hDc, hFc, hqc⟩ := cl_cut (wc := (wd_c_X12_fogOf_6 h0 h0_f0 h0_1 h0_2 h0_3 h0_4 h0_5 h0_f6 h0_f7 h0_f8 h0_f9 h0_f10 h0_f11 h0_f12 h0_f13 h0_f14 h0_15 h0_16 h0_f17 h0_18 h0_19 h0_20 h0_21 h0_22 h0_23 h0_24 h0_25 h0_f26 h0_f27 h0_f28 h0_f29 h0_f30 h0_f31 h0_32 h0_33 h0_f34 h0_35 h0_36 h0_37 h0_38 h0_39 h0_40 h0_f41 h0_f42 h0_f43 h0_f44 h0_45 h0_46 h0_47 h0_48 h0_49 h0_50 h0_f51 h0_52 h0_f53 h0_39 h0_39k h0_39c h0_38 h0_38k h0_38c)) hP hD hS hA [0, 1, 2] (by decide +kernel) rfl
      have hKc := hK.sub (tys' := [(h0_39k, .int), (h0_38k, .int)]) [0, 1] rfl
      have hrv := va_recv hKc hPc (ci := 12) (q0 := 0) rfl rfl
      refine va_calll (va_runV (As := [.int p1, .int 6, .int p3, .long p4]) (rest := []) ⟨hx, hb, hml, hown, hts⟩ (c_X12_fogOf_6 l dC dI H.size h0 p1 p3 p4 h0_f0 h0_1 h0_2 h0_3 h0_4 h0_5 h0_f6 h0_f7 h0_f8 h0_f9 h0_f10 h0_f11 h0_f12 h0_f13 h0_f14 h0_15 h0_16 h0_f17 h0_18 h0_19 h0_20 h0_21 h0_22 h0_23 h0_24 h0_25 h0_f26 h0_f27 h0_f28 h0_f29 h0_f30 h0_f31 h0_32 h0_33 h0_f34 h0_35 h0_36 h0_37 h0_38 h0_39 h0_40 h0_f41 h0_f42 h0_f43 h0_f44 h0_45 h0_46 h0_47 h0_48 h0_49 h0_50 h0_f51 h0_52 h0_f53 h0_39k h0_39c h0_38k h0_38c g_p1 g_p3 g_h0_f6 g_h0_f7 g_h0_f8 g_h0_f9 g_h0_f10 g_h0_f11 g_h0_f17 g_15 g_h0_f27 g_h0_f28 g_h0_f29 g_h0_f30 g_h0_f31 g_h0_f34 g_h0_f41 g_h0_f51 g_h0_f53 a_h0_39c) (cwV 4 hts gf_c_X12_fogOf_5_c_X12_fogOf_6 rfl rfl rfl mdV_X12_fogOf ⟨Nat.le_of_ble_eq_true rfl, Nat.le_of_ble_eq_true rfl⟩) ⟨fun a U g mk q => by obtain ⟨q0, q1, qP, qK, qD⟩ := q; exact ⟨q0, q1, qP, va_K.moved (u := U) (U := U.calling g mk a) (Vm.Alike.refl U.vm) qK, qD⟩, hrv, fun U hU hW => ⟨rfl, by rw [hU], by rw [hU]; exact hPc, va_K.moved hW.alike hKc, hDc.weaken (fun _ _ _ _ => trivial)⟩⟩ rfl rfl hl.1 rfl (lv_room (Nat.le_of_ble_eq_true rfl)) dX12_fogOf_71 ⟨Nat.le_of_ble_eq_true rfl, Nat.le_of_ble_eq_true rfl⟩) hS (fun q _ h => hFc q h) hFc (fun r_80 w_81 t H1 locs ht hvm hw hB hz1 hk1 hS => ?_)
      obtain ⟨hP1, hK1, hD1⟩ := hB
      rw [ht] at hP1
      obtain ⟨hP, hD⟩ := cl_put (w1 := (wd_c_X12_fogOf_6 h0 h0_f0 h0_1 h0_2 h0_3 h0_4 h0_5 h0_f6 h0_f7 h0_f8 h0_f9 h0_f10 h0_f11 h0_f12 h0_f13 h0_f14 h0_15 h0_16 h0_f17 h0_18 h0_19 h0_20 h0_21 h0_22 h0_23 h0_24 h0_25 h0_f26 h0_f27 h0_f28 h0_f29 h0_f30 h0_f31 h0_32 h0_33 h0_f34 h0_35 h0_36 h0_37 h0_38 h0_39 h0_40 h0_f41 h0_f42 h0_f43 h0_f44 h0_45 h0_46 h0_47 h0_48 h0_49 h0_50 h0_f51 h0_52 h0_f53 h0_39 h0_39k h0_39c h0_38 h0_38k w_81)) (nw := (wd_c_X12_fogOf_5 h0 h0_f0 h0_1 h0_2 h0_3 h0_4 h0_5 h0_f6 h0_f7 h0_f8 h0_f9 h0_f10 h0_f11 h0_f12 h0_f13 h0_f14 h0_15 h0_16 h0_f17 h0_18 h0_19 h0_20 h0_21 h0_22 h0_23 h0_24 h0_25 h0_f26 h0_f27 h0_f28 h0_f29 h0_f30 h0_f31 h0_32 h0_33 h0_f34 h0_35 h0_36 h0_37 h0_38 h0_39 h0_40 h0_f41 h0_f42 h0_f43 h0_f44 h0_45 h0_46 h0_47 h0_48 h0_49 h0_50 h0_f51 h0_52 h0_f53 h0_39 h0_39k h0_39c h0_38 h0_38k w_81)) hP hD [0, 1, 2] [3, 4, 5] 3 rfl hqc (by decide +kernel) rfl hk1 hFc hP1 hD1
      generalize H1 = H at hP hS ⊢
      as_aux_lemma =>
      rcases hw with h_82 | ⟨h_83, h_84⟩
      · have hK9 := hK.sub (tys' := []) [] rfl
        exact W.lret (v := r_80) hx hb hr (fun t ht hW => ⟨⟨r_80, w_81, rfl, (Or.inl h_82), by rw [ht]; exact hP, va_K.moved hW.alike hK9, hD⟩, hS.F ht⟩) hS.2.2 dX12_fogOf_74
      · rw [h_83]
        have hK9 := hK.sub (tys' := []) [] rfl
        exact W.lret (v := 0) hx hb hr (fun t ht hW => ⟨⟨0, w_81, rfl, (Or.inr ⟨rfl, h_84⟩), by rw [ht]; exact hP, va_K.moved hW.alike hK9, hD⟩, hS.F ht⟩) hS.2.2 dX12_fogOf_74
  · have g_85 : RG h0_f26 5 5 := RG_eq1 g_h0_f26 (RG_k 5 5 rfl) c_14.symm (by decide +kernel)
    refine lv_iconst (v := 0) hx hb dX12_fogOf_8 kc_iconst_0 ?_
    refine lv_istore (lv' := [(6, .int 0), (0, .ref h0), (1, .int p1), (2, .int 5), (3, .int p3), (4, .long p4)]) hx hb dX12_fogOf_9 hl (Nat.le_of_ble_eq_true rfl) rfl (fun ls hl => ?_)
    exact hU _ _ _ (J11 _ 0 (Nat.lt_succ_self _) g_h0_f10 g_h0_f11 g_h0_f17 g_85 g_h0_f27 g_h0_f28 g_h0_f29 g_h0_f30 g_h0_f31 g_h0_f34 g_h0_f41 g_h0_f51 g_h0_f53 g_h0_f6 g_h0_f7 g_h0_f8 g_h0_f9 (RG_w (RG_k 0 0 rfl) (by decide +kernel)) g_p1 g_p3 _ _ _ hP hD hS (lv_sub hl [0, 1, 2, 5] rfl))
noncomputable def wd_c_X12_fogOf_4 (a0 : Nat) (a1 : Int32) (a2 : Nat) (a3 : Nat) (a4 : Nat) (a5 : Nat) (a6 : Nat) (a7 : Int32) (a8 : Int32) (a9 : Int32) (a10 : Int32) (a11 : Int32) (a12 : Int32) (a13 : Int32) (a14 : Int32) (a15 : Int32) (a16 : Nat) (a17 : Nat) (a18 : Int32) (a19 : Nat) (a20 : Nat) (a21 : Nat) (a22 : Nat) (a23 : Nat) (a24 : Nat) (a25 : Nat) (a26 : Nat) (a27 : Int32) (a28 : Int32) (a29 : Int32) (a30 : Int32) (a31 : Int32) (a32 : Int32) (a33 : Nat) (a34 : Nat) (a35 : Int32) (a36 : Nat) (a37 : Nat) (a38 : Nat) (a39 : Nat) (a40 : Nat) (a41 : Nat) (a42 : Int32) (a43 : Int64) (a44 : Int32) (a45 : Int32) (a46 : Nat) (a47 : Nat) (a48 : Nat) (a49 : Nat) (a50 : Nat) (a51 : Nat) (a52 : Int32) (a53 : Nat) (a54 : Int32) (a55 : Nat) (a56 : ClassId) (a57 : Nat → Int32) (a58 : Nat) (a59 : ClassId) (a60 : Nat → Int32) : va_W := [(a0, .inr (12, [.int a1, .ref a2, .ref a3, .ref a4, .ref a5, .ref a6, .int a7, .int a8, .int a9, .int a10, .int a11, .int a12, .int a13, .int a14, .int a15, .ref a16, .ref a17, .int a18, .ref a19, .ref a20, .ref a21, .ref a22, .ref a23, .ref a24, .ref a25, .ref a26, .int a27, .int a28, .int a29, .int a30, .int a31, .int a32, .ref a33, .ref a34, .int a35, .ref a36, .ref a37, .ref a38, .ref a39, .ref a40, .ref a41, .int a42, .long a43, .int a44, .int a45, .ref a46, .ref a47, .ref a48, .ref a49, .ref a50, .ref a51, .int a52, .ref a53, .int a54])), (a55, .inl (a56, 8, .inl a57)), (a58, .inl (a59, 3, .inl a60))]
noncomputable def wf_c_X12_fogOf_4 : List Cond := List.cons (.code yX12_fogOf cX12_fogOf 10 (some .long)) (@HAppend.hAppend (List Cond) (List Cond) (List Cond) _ [.fieldLink RX12 309 "BuoyVoteModel" "buoys" "I", .fieldLink RX12 84 "BuoyVoteModel" "leans" "[I", .constantLong RX12 545 (100), .methodLink RX12 541 yX12_fogOf, .instanceMethod yX12_fogOf, .selects RX12 yX12_fogOf yX12_fogOf, .initialized RX12, .fieldLink RX12 312 "BuoyVoteModel" "boats" "I", .fieldLink RX12 81 "BuoyVoteModel" "tally" "[I"] wsX120)
theorem iw_c_X12_fogOf_4_X12 : ∀ w ∈ wsX120, w ∈ wf_c_X12_fogOf_4 := fun w h => List.mem_cons_of_mem _ (List.mem_append_right _ h)
set_option maxRecDepth 20000 in
theorem gf_c_X12_fogOf_4_c_X12_fogOf_5 : GoodIn wf_c_X12_fogOf_4 (wsV RX12 541 RX12 yX12_fogOf wf_c_X12_fogOf_5) := goodIn_app (gi_l [4, 5, 6, 7] rfl rfl) (gi_cons (j := 0) rfl rfl (goodIn_app (gi_l [1, 2, 3, 4, 5, 6, 7, 8, 9] rfl rfl) (goodIn_sub iw_c_X12_fogOf_4_X12 gw_X12)))
set_option maxHeartbeats 4000000 in
set_option maxRecDepth 100000 in
theorem c_X12_fogOf_4 (l : Launch) (dC : Nat → ClassId) (dI : Nat → Nat → Nat) (sz : Nat) (h0 : Nat) (p1 : Int32) (p3 : Int32) (p4 : Int64) (h0_f0 : Int32) (h0_1 : Nat) (h0_2 : Nat) (h0_3 : Nat) (h0_4 : Nat) (h0_5 : Nat) (h0_f6 : Int32) (h0_f7 : Int32) (h0_f8 : Int32) (h0_f9 : Int32) (h0_f10 : Int32) (h0_f11 : Int32) (h0_f12 : Int32) (h0_f13 : Int32) (h0_f14 : Int32) (h0_15 : Nat) (h0_16 : Nat) (h0_f17 : Int32) (h0_18 : Nat) (h0_19 : Nat) (h0_20 : Nat) (h0_21 : Nat) (h0_22 : Nat) (h0_23 : Nat) (h0_24 : Nat) (h0_25 : Nat) (h0_f26 : Int32) (h0_f27 : Int32) (h0_f28 : Int32) (h0_f29 : Int32) (h0_f30 : Int32) (h0_f31 : Int32) (h0_32 : Nat) (h0_33 : Nat) (h0_f34 : Int32) (h0_35 : Nat) (h0_36 : Nat) (h0_37 : Nat) (h0_38 : Nat) (h0_39 : Nat) (h0_40 : Nat) (h0_f41 : Int32) (h0_f42 : Int64) (h0_f43 : Int32) (h0_f44 : Int32) (h0_45 : Nat) (h0_46 : Nat) (h0_47 : Nat) (h0_48 : Nat) (h0_49 : Nat) (h0_50 : Nat) (h0_f51 : Int32) (h0_52 : Nat) (h0_f53 : Int32) (h0_39k : ClassId) (h0_39c : Nat → Int32) (h0_38k : ClassId) (h0_38c : Nat → Int32) (g_p1 : RG p1 0 2) (g_p3 : RG p3 0 100) (g_h0_f6 : RG h0_f6 0 240) (g_h0_f7 : RG h0_f7 0 4) (g_h0_f8 : RG h0_f8 0 720) (g_h0_f9 : RG h0_f9 0 240) (g_h0_f10 : RG h0_f10 0 240) (g_h0_f11 : RG h0_f11 (-1) 240) (g_h0_f17 : RG h0_f17 0 1) (g_h0_f26 : RG h0_f26 4 8) (g_h0_f27 : RG h0_f27 0 3) (g_h0_f28 : RG h0_f28 0 8) (g_h0_f29 : RG h0_f29 0 3) (g_h0_f30 : RG h0_f30 0 4) (g_h0_f31 : RG h0_f31 0 1) (g_h0_f34 : RG h0_f34 (-1) 3) (g_h0_f41 : RG h0_f41 0 40) (g_h0_f51 : RG h0_f51 0 10) (g_h0_f53 : RG h0_f53 0 1) (a_h0_39c : AI h0_39c (-1) 2) : Met l yX12_fogOf wf_c_X12_fogOf_4 ({ frames := 4, cells := 0, slots := 0, locals := 116 }) (va_Pc [.ref h0, .int p1, .int 4, .int p3, .long p4] (fun U => U.heap.size = sz ∧ va_P (dC, dI) vwCl (wd_c_X12_fogOf_4 h0 h0_f0 h0_1 h0_2 h0_3 h0_4 h0_5 h0_f6 h0_f7 h0_f8 h0_f9 h0_f10 h0_f11 h0_f12 h0_f13 h0_f14 h0_15 h0_16 h0_f17 h0_18 h0_19 h0_20 h0_21 h0_22 h0_23 h0_24 h0_25 h0_f26 h0_f27 h0_f28 h0_f29 h0_f30 h0_f31 h0_32 h0_33 h0_f34 h0_35 h0_36 h0_37 h0_38 h0_39 h0_40 h0_f41 h0_f42 h0_f43 h0_f44 h0_45 h0_46 h0_47 h0_48 h0_49 h0_50 h0_f51 h0_52 h0_f53 h0_39 h0_39k h0_39c h0_38 h0_38k h0_38c) U.heap ∧ va_K (dC, dI) vwCl [(h0_39k, .int), (h0_38k, .int)] U ∧ va_D (fun _ => True) (wd_c_X12_fogOf_4 h0 h0_f0 h0_1 h0_2 h0_3 h0_4 h0_5 h0_f6 h0_f7 h0_f8 h0_f9 h0_f10 h0_f11 h0_f12 h0_f13 h0_f14 h0_15 h0_16 h0_f17 h0_18 h0_19 h0_20 h0_21 h0_22 h0_23 h0_24 h0_25 h0_f26 h0_f27 h0_f28 h0_f29 h0_f30 h0_f31 h0_32 h0_33 h0_f34 h0_35 h0_36 h0_37 h0_38 h0_39 h0_40 h0_f41 h0_f42 h0_f43 h0_f44 h0_45 h0_46 h0_47 h0_48 h0_49 h0_50 h0_f51 h0_52 h0_f53 h0_39 h0_39k h0_39c h0_38 h0_38k h0_38c))) (va_Ql (fun (r : Int64) (u : (Nat → Int32)) => (LG r (-9223372036854775808) 9223372036854775807) ∨ (r = 0 ∧ RG h0_f27 1 3)) (fun (u : (Nat → Int32)) t => va_P (dC, dI) vwCl (wd_c_X12_fogOf_4 h0 h0_f0 h0_1 h0_2 h0_3 h0_4 h0_5 h0_f6 h0_f7 h0_f8 h0_f9 h0_f10 h0_f11 h0_f12 h0_f13 h0_f14 h0_15 h0_16 h0_f17 h0_18 h0_19 h0_20 h0_21 h0_22 h0_23 h0_24 h0_25 h0_f26 h0_f27 h0_f28 h0_f29 h0_f30 h0_f31 h0_32 h0_33 h0_f34 h0_35 h0_36 h0_37 h0_38 h0_39 h0_40 h0_f41 h0_f42 h0_f43 h0_f44 h0_45 h0_46 h0_47 h0_48 h0_49 h0_50 h0_f51 h0_52 h0_f53 h0_39 h0_39k h0_39c h0_38 h0_38k (u)) t.heap ∧ va_K (dC, dI) vwCl [] t ∧ va_D (va_A (wd_c_X12_fogOf_4 h0 h0_f0 h0_1 h0_2 h0_3 h0_4 h0_5 h0_f6 h0_f7 h0_f8 h0_f9 h0_f10 h0_f11 h0_f12 h0_f13 h0_f14 h0_15 h0_16 h0_f17 h0_18 h0_19 h0_20 h0_21 h0_22 h0_23 h0_24 h0_25 h0_f26 h0_f27 h0_f28 h0_f29 h0_f30 h0_f31 h0_32 h0_33 h0_f34 h0_35 h0_36 h0_37 h0_38 h0_39 h0_40 h0_f41 h0_f42 h0_f43 h0_f44 h0_45 h0_46 h0_47 h0_48 h0_49 h0_50 h0_f51 h0_52 h0_f53 h0_39 h0_39k h0_39c h0_38 h0_38k h0_38c) sz) (wd_c_X12_fogOf_4 h0 h0_f0 h0_1 h0_2 h0_3 h0_4 h0_5 h0_f6 h0_f7 h0_f8 h0_f9 h0_f10 h0_f11 h0_f12 h0_f13 h0_f14 h0_15 h0_16 h0_f17 h0_18 h0_19 h0_20 h0_21 h0_22 h0_23 h0_24 h0_25 h0_f26 h0_f27 h0_f28 h0_f29 h0_f30 h0_f31 h0_32 h0_33 h0_f34 h0_35 h0_36 h0_37 h0_38 h0_39 h0_40 h0_f41 h0_f42 h0_f43 h0_f44 h0_45 h0_46 h0_47 h0_48 h0_49 h0_50 h0_f51 h0_52 h0_f53 h0_39 h0_39k h0_39c h0_38 h0_38k (u))) (va_A (wd_c_X12_fogOf_4 h0 h0_f0 h0_1 h0_2 h0_3 h0_4 h0_5 h0_f6 h0_f7 h0_f8 h0_f9 h0_f10 h0_f11 h0_f12 h0_f13 h0_f14 h0_15 h0_16 h0_f17 h0_18 h0_19 h0_20 h0_21 h0_22 h0_23 h0_24 h0_25 h0_f26 h0_f27 h0_f28 h0_f29 h0_f30 h0_f31 h0_32 h0_33 h0_f34 h0_35 h0_36 h0_37 h0_38 h0_39 h0_40 h0_f41 h0_f42 h0_f43 h0_f44 h0_45 h0_46 h0_47 h0_48 h0_49 h0_50 h0_f51 h0_52 h0_f53 h0_39 h0_39k h0_39c h0_38 h0_38k h0_38c) sz)) 0 0 (va_A (wd_c_X12_fogOf_4 h0 h0_f0 h0_1 h0_2 h0_3 h0_4 h0_5 h0_f6 h0_f7 h0_f8 h0_f9 h0_f10 h0_f11 h0_f12 h0_f13 h0_f14 h0_15 h0_16 h0_f17 h0_18 h0_19 h0_20 h0_21 h0_22 h0_23 h0_24 h0_25 h0_f26 h0_f27 h0_f28 h0_f29 h0_f30 h0_f31 h0_32 h0_33 h0_f34 h0_35 h0_36 h0_37 h0_38 h0_39 h0_40 h0_f41 h0_f42 h0_f43 h0_f44 h0_45 h0_46 h0_47 h0_48 h0_49 h0_50 h0_f51 h0_52 h0_f53 h0_39 h0_39k h0_39c h0_38 h0_38k h0_38c) sz) := by
  refine Met.ofW (cc := cX12_fogOf) (maxL := 10) (ret := (some .long)) (by decide +kernel) rfl ?_
  intro p e s m args below meth c s₁ B hml hv
  obtain ⟨rfl, hsz, hP, hK, hD0⟩ := hv
  have hx := B.exec
  have hb := B.bytes
  have hr := B.returns
  have hts := atoms_spec (ws := wf_c_X12_fogOf_4) B.pre
  have hown : s.vm.findClass RX12 = some m.cls := findClass_of_methodNamed B.named
  have hlocks := B.notSynchronized
  subst hsz
  have hD := hD0.self (sz := s.heap.size)
  generalize hAe : va_A (wd_c_X12_fogOf_4 h0 h0_f0 h0_1 h0_2 h0_3 h0_4 h0_5 h0_f6 h0_f7 h0_f8 h0_f9 h0_f10 h0_f11 h0_f12 h0_f13 h0_f14 h0_15 h0_16 h0_f17 h0_18 h0_19 h0_20 h0_21 h0_22 h0_23 h0_24 h0_25 h0_f26 h0_f27 h0_f28 h0_f29 h0_f30 h0_f31 h0_32 h0_33 h0_f34 h0_35 h0_36 h0_37 h0_38 h0_39 h0_40 h0_f41 h0_f42 h0_f43 h0_f44 h0_45 h0_46 h0_47 h0_48 h0_49 h0_50 h0_f51 h0_52 h0_f53 h0_39 h0_39k h0_39c h0_38 h0_38k h0_38c) s.heap.size = A at hD ⊢
  have hA : ∀ q : Nat, s.heap.size ≤ q → A q := fun q h => by rw [← hAe]; exact Or.inr h
  have hP : va_P (dC, dI) vwCl (wd_c_X12_fogOf_4 h0 h0_f0 h0_1 h0_2 h0_3 h0_4 h0_5 h0_f6 h0_f7 h0_f8 h0_f9 h0_f10 h0_f11 h0_f12 h0_f13 h0_f14 h0_15 h0_16 h0_f17 h0_18 h0_19 h0_20 h0_21 h0_22 h0_23 h0_24 h0_25 h0_f26 h0_f27 h0_f28 h0_f29 h0_f30 h0_f31 h0_32 h0_33 h0_f34 h0_35 h0_36 h0_37 h0_38 h0_39 h0_40 h0_f41 h0_f42 h0_f43 h0_f44 h0_45 h0_46 h0_47 h0_48 h0_49 h0_50 h0_f51 h0_52 h0_f53 h0_39 h0_39k h0_39c h0_38 h0_38k h0_38c) s.heap := hP
  have hl := lv_entry ([.ref h0, .int p1, .int 4, .int p3, .long p4]) (n := 10) (Nat.le_of_ble_eq_true rfl)
  rw [lg_entry_eq]
  generalize (lg_sl ([.ref h0, .int p1, .int 4, .int p3, .long p4]) ++ List.replicate (10 - (lg_sl ([.ref h0, .int p1, .int 4, .int p3, .long p4])).length) Slot.unset).toArray = ls at hl ⊢
  have hl : lv_has ls 10 [(0, .ref h0), (1, .int p1), (2, .int 4), (3, .int p3), (4, .long p4)] := hl
  obtain ⟨H, hHe⟩ : ∃ H : Heap, s.heap = H := ⟨_, rfl⟩
  have hS : va_S A s.heap H [] := by rw [hHe]; exact va_S.rf
  have hP : va_P (dC, dI) vwCl (wd_c_X12_fogOf_4 h0 h0_f0 h0_1 h0_2 h0_3 h0_4 h0_5 h0_f6 h0_f7 h0_f8 h0_f9 h0_f10 h0_f11 h0_f12 h0_f13 h0_f14 h0_15 h0_16 h0_f17 h0_18 h0_19 h0_20 h0_21 h0_22 h0_23 h0_24 h0_25 h0_f26 h0_f27 h0_f28 h0_f29 h0_f30 h0_f31 h0_32 h0_33 h0_f34 h0_35 h0_36 h0_37 h0_38 h0_39 h0_40 h0_f41 h0_f42 h0_f43 h0_f44 h0_45 h0_46 h0_47 h0_48 h0_49 h0_50 h0_f51 h0_52 h0_f53 h0_39 h0_39k h0_39c h0_38 h0_38k h0_38c) H := by rw [← hHe]; exact hP
  rw [hHe]
  refine wj (fun G hG hU => ?_)
  as_aux_lemma =>
  have J11 : ∀ (n11 : Nat) (j11_l6 : Int32) (hM11 : MU j11_l6 < n11) (g_h0_f10 : RG h0_f10 0 240) (g_h0_f11 : RG h0_f11 (-1) 240) (g_h0_f17 : RG h0_f17 0 1) (g_h0_f26 : RG h0_f26 4 4) (g_h0_f27 : RG h0_f27 0 3) (g_h0_f28 : RG h0_f28 0 8) (g_h0_f29 : RG h0_f29 0 3) (g_h0_f30 : RG h0_f30 0 4) (g_h0_f31 : RG h0_f31 0 1) (g_h0_f34 : RG h0_f34 (-1) 3) (g_h0_f41 : RG h0_f41 0 40) (g_h0_f51 : RG h0_f51 0 10) (g_h0_f53 : RG h0_f53 0 1) (g_h0_f6 : RG h0_f6 0 240) (g_h0_f7 : RG h0_f7 0 4) (g_h0_f8 : RG h0_f8 0 720) (g_h0_f9 : RG h0_f9 0 240) (g_j11_l6 : RG j11_l6 0 3) (g_p1 : RG p1 0 2) (g_p3 : RG p3 0 100) (H : Heap) (locs : List Loc) (ls : Array Slot) (hP : va_P (dC, dI) vwCl (wd_c_X12_fogOf_4 h0 h0_f0 h0_1 h0_2 h0_3 h0_4 h0_5 h0_f6 h0_f7 h0_f8 h0_f9 h0_f10 h0_f11 h0_f12 h0_f13 h0_f14 h0_15 h0_16 h0_f17 h0_18 h0_19 h0_20 h0_21 h0_22 h0_23 h0_24 h0_25 h0_f26 h0_f27 h0_f28 h0_f29 h0_f30 h0_f31 h0_32 h0_33 h0_f34 h0_35 h0_36 h0_37 h0_38 h0_39 h0_40 h0_f41 h0_f42 h0_f43 h0_f44 h0_45 h0_46 h0_47 h0_48 h0_49 h0_50 h0_f51 h0_52 h0_f53 h0_39 h0_39k h0_39c h0_38 h0_38k h0_38c) H) (hD : va_D A (wd_c_X12_fogOf_4 h0 h0_f0 h0_1 h0_2 h0_3 h0_4 h0_5 h0_f6 h0_f7 h0_f8 h0_f9 h0_f10 h0_f11 h0_f12 h0_f13 h0_f14 h0_15 h0_16 h0_f17 h0_18 h0_19 h0_20 h0_21 h0_22 h0_23 h0_24 h0_25 h0_f26 h0_f27 h0_f28 h0_f29 h0_f30 h0_f31 h0_32 h0_33 h0_f34 h0_35 h0_36 h0_37 h0_38 h0_39 h0_40 h0_f41 h0_f42 h0_f43 h0_f44 h0_45 h0_46 h0_47 h0_48 h0_49 h0_50 h0_f51 h0_52 h0_f53 h0_39 h0_39k h0_39c h0_38 h0_38k h0_38c)) (hS : va_S A s.heap H locs) (hl : lv_has ls 10 [(6, .int j11_l6), (0, .ref h0), (1, .int p1), (4, .long p4)]), G H locs (F0 m 11 ls []) := by
    as_aux_lemma =>
    intro n11
    induction n11 with
    | zero => intros; exact absurd (by assumption) (Nat.not_lt_zero _)
    | succ n11 ih11 =>
      intro j11_l6 hM11 g_h0_f10 g_h0_f11 g_h0_f17 g_h0_f26 g_h0_f27 g_h0_f28 g_h0_f29 g_h0_f30 g_h0_f31 g_h0_f34 g_h0_f41 g_h0_f51 g_h0_f53 g_h0_f6 g_h0_f7 g_h0_f8 g_h0_f9 g_j11_l6 g_p1 g_p3 H locs ls hP hD hS hl
      have J44 : ∀ (g_h0_f10 : RG h0_f10 0 240) (g_h0_f11 : RG h0_f11 (-1) 240) (g_h0_f17 : RG h0_f17 0 1) (g_h0_f26 : RG h0_f26 4 4) (g_h0_f27 : RG h0_f27 1 3) (g_h0_f28 : RG h0_f28 0 8) (g_h0_f29 : RG h0_f29 0 3) (g_h0_f30 : RG h0_f30 0 4) (g_h0_f31 : RG h0_f31 0 1) (g_h0_f34 : RG h0_f34 (-1) 3) (g_h0_f41 : RG h0_f41 0 40) (g_h0_f51 : RG h0_f51 0 10) (g_h0_f53 : RG h0_f53 0 1) (g_h0_f6 : RG h0_f6 0 240) (g_h0_f7 : RG h0_f7 0 4) (g_h0_f8 : RG h0_f8 0 720) (g_h0_f9 : RG h0_f9 0 240) (g_j11_l6 : RG j11_l6 0 2) (g_p1 : RG p1 0 2) (g_p3 : RG p3 0 100) (H : Heap) (locs : List Loc) (ls : Array Slot) (hP : va_P (dC, dI) vwCl (wd_c_X12_fogOf_4 h0 h0_f0 h0_1 h0_2 h0_3 h0_4 h0_5 h0_f6 h0_f7 h0_f8 h0_f9 h0_f10 h0_f11 h0_f12 h0_f13 h0_f14 h0_15 h0_16 h0_f17 h0_18 h0_19 h0_20 h0_21 h0_22 h0_23 h0_24 h0_25 h0_f26 h0_f27 h0_f28 h0_f29 h0_f30 h0_f31 h0_32 h0_33 h0_f34 h0_35 h0_36 h0_37 h0_38 h0_39 h0_40 h0_f41 h0_f42 h0_f43 h0_f44 h0_45 h0_46 h0_47 h0_48 h0_49 h0_50 h0_f51 h0_52 h0_f53 h0_39 h0_39k h0_39c h0_38 h0_38k h0_38c) H) (hD : va_D A (wd_c_X12_fogOf_4 h0 h0_f0 h0_1 h0_2 h0_3 h0_4 h0_5 h0_f6 h0_f7 h0_f8 h0_f9 h0_f10 h0_f11 h0_f12 h0_f13 h0_f14 h0_15 h0_16 h0_f17 h0_18 h0_19 h0_20 h0_21 h0_22 h0_23 h0_24 h0_25 h0_f26 h0_f27 h0_f28 h0_f29 h0_f30 h0_f31 h0_32 h0_33 h0_f34 h0_35 h0_36 h0_37 h0_38 h0_39 h0_40 h0_f41 h0_f42 h0_f43 h0_f44 h0_45 h0_46 h0_47 h0_48 h0_49 h0_50 h0_f51 h0_52 h0_f53 h0_39 h0_39k h0_39c h0_38 h0_38k h0_38c)) (hS : va_S A s.heap H locs) (hl : lv_has ls 10 [(6, .int j11_l6), (0, .ref h0), (1, .int p1), (4, .long p4)]), G H locs (F0 m 44 ls []) := by
        as_aux_lemma =>
        intro g_h0_f10 g_h0_f11 g_h0_f17 g_h0_f26 g_h0_f27 g_h0_f28 g_h0_f29 g_h0_f30 g_h0_f31 g_h0_f34 g_h0_f41 g_h0_f51 g_h0_f53 g_h0_f6 g_h0_f7 g_h0_f8 g_h0_f9 g_j11_l6 g_p1 g_p3 H locs ls hP hD hS hl
        refine hG _ _ _ ?_
        obtain ⟨x_1, ex_1⟩ : ∃ y : Int32, y = j11_l6 + 1 := ⟨_, rfl⟩
        have g_2 : RG x_1 1 3 := RG_add ex_1 g_j11_l6 (RG_k 1 1 rfl) (by decide +kernel)
        refine lv_iinc (v := x_1) (lv' := [(6, .int x_1), (0, .ref h0), (1, .int p1), (4, .long p4)]) hx hb dX12_fogOf_44 hl (k := 0) rfl (by rw [ex_1]; rfl) (Nat.le_of_ble_eq_true rfl) rfl (fun ls hl => ?_)
        refine lv_goto (tgt := 11) hx hb dX12_fogOf_47 rfl ?_
        exact hU _ _ _ (ih11 x_1 (mu_s (MU_add ex_1 g_j11_l6 (q := 1) rfl (by decide +kernel)) hM11) g_h0_f10 g_h0_f11 g_h0_f17 g_h0_f26 (RG_w g_h0_f27 (by decide +kernel)) g_h0_f28 g_h0_f29 g_h0_f30 g_h0_f31 g_h0_f34 g_h0_f41 g_h0_f51 g_h0_f53 g_h0_f6 g_h0_f7 g_h0_f8 g_h0_f9 (RG_w g_2 (by decide +kernel)) g_p1 g_p3 _ _ _ hP hD hS (lv_sub hl [0, 1, 2, 3] rfl))
      refine hG _ _ _ ?_
      refine lv_iload hx hb dX12_fogOf_11 (lv_at hl 0 rfl) ?_
      refine lv_aload_n hx hb dX12_fogOf_13 rfl (lv_at hl 1 rfl) ?_
      refine va_get (D := (dC, dI)) (ci := 12) (v := .int h0_f27) (C := RX12) (T := TX12) (N := 54) hx hb hts iw_c_X12_fogOf_4_X12 hown hK hP 0 rfl rfl 27 (by decide +kernel) (hts (.fieldLink RX12 312 "BuoyVoteModel" "boats" "I") (List.mem_of_getElem? (i := 8) rfl)) (fun _ h9 => h9) rfl dX12_fogOf_14 ?_
      refine lv_icmp_ge (tgt := 50) hx hb dX12_fogOf_17 rfl (fun c_3 => ?_) (fun c_3 => ?_)
      · refine lv_lload hx hb dX12_fogOf_50 (lv_at hl 3 rfl) ?_
        have hK9 := hK.sub (tys' := []) [] rfl
        exact W.lret (v := p4) hx hb hr (fun t ht hW => ⟨⟨p4, h0_38c, rfl, (Or.inl (LG_any p4)), by rw [ht]; exact hP, va_K.moved hW.alike hK9, hD⟩, hS.F ht⟩) hS.2.2 dX12_fogOf_52
      · have d_4 := Int32.not_le.mp c_3
        have g_5 : RG j11_l6 0 2 := RG_lt1 g_j11_l6 g_h0_f27 d_4 (by decide +kernel)
        have g_6 : RG h0_f27 1 3 := RG_lt2 g_j11_l6 g_h0_f27 d_4 (by decide +kernel)
        refine lv_iload hx hb dX12_fogOf_20 (lv_at hl 0 rfl) ?_
        as_aux_lemma =>
        refine lv_iload_n hx hb dX12_fogOf_22 rfl (lv_at hl 2 rfl) ?_
        refine lv_icmp_eq (tgt := 44) hx hb dX12_fogOf_23 rfl (fun c_7 => ?_) (fun c_7 => ?_)
        · exact hU _ _ _ (J44 g_h0_f10 g_h0_f11 g_h0_f17 g_h0_f26 g_6 g_h0_f28 g_h0_f29 g_h0_f30 g_h0_f31 g_h0_f34 g_h0_f41 g_h0_f51 g_h0_f53 g_h0_f6 g_h0_f7 g_h0_f8 g_h0_f9 g_5 g_p1 g_p3 _ _ _ hP hD hS (lv_sub hl [0, 1, 2, 3] rfl))
        · refine lv_aload_n hx hb dX12_fogOf_26 rfl (lv_at hl 1 rfl) ?_
          refine va_get (D := (dC, dI)) (ci := 12) (v := .ref h0_38) (C := RX12) (T := TX12) (N := 54) hx hb hts iw_c_X12_fogOf_4_X12 hown hK hP 0 rfl rfl 38 (by decide +kernel) (hts (.fieldLink RX12 81 "BuoyVoteModel" "tally" "[I") (List.mem_of_getElem? (i := 9) rfl)) (fun _ h9 => h9) rfl dX12_fogOf_27 ?_
          refine lv_iload hx hb dX12_fogOf_30 (lv_at hl 0 rfl) ?_
          refine va_iald hx hb hK hP 2 1 rfl rfl (RG_in g_5 (by decide +kernel)) dX12_fogOf_32 ?_
          refine lv_topi (fun x_8 ex_8 => ?_)
          refine lv_aload_n hx hb dX12_fogOf_33 rfl (lv_at hl 1 rfl) ?_
          refine va_get (D := (dC, dI)) (ci := 12) (v := .ref h0_38) (C := RX12) (T := TX12) (N := 54) hx hb hts iw_c_X12_fogOf_4_X12 hown hK hP 0 rfl rfl 38 (by decide +kernel) (hts (.fieldLink RX12 81 "BuoyVoteModel" "tally" "[I") (List.mem_of_getElem? (i := 9) rfl)) (fun _ h9 => h9) rfl dX12_fogOf_34 ?_
          refine lv_iload_n hx hb dX12_fogOf_37 rfl (lv_at hl 2 rfl) ?_
          refine va_iald hx hb hK hP 2 1 rfl rfl (RG_in g_p1 (by decide +kernel)) dX12_fogOf_38 ?_
          refine lv_topi (fun x_9 ex_9 => ?_)
          refine lv_icmp_lt (tgt := 44) hx hb dX12_fogOf_39 rfl (fun c_10 => ?_) (fun c_10 => ?_)
          · have g_11 : RG x_8 (-2147483648) 2147483646 := RG_lt1 (RG_any x_8) (RG_any x_9) c_10 (by decide +kernel)
            have g_12 : RG x_9 (-2147483647) 2147483647 := RG_lt2 (RG_any x_8) (RG_any x_9) c_10 (by decide +kernel)
            exact hU _ _ _ (J44 g_h0_f10 g_h0_f11 g_h0_f17 g_h0_f26 g_6 g_h0_f28 g_h0_f29 g_h0_f30 g_h0_f31 g_h0_f34 g_h0_f41 g_h0_f51 g_h0_f53 g_h0_f6 g_h0_f7 g_h0_f8 g_h0_f9 g_5 g_p1 g_p3 _ _ _ hP hD hS (lv_sub hl [0, 1, 2, 3] rfl))
          · have d_13 := Int32.not_lt.mp c_10
            refine lv_lconst (v := 0) hx hb dX12_fogOf_42 (by decide +kernel) ?_
            as_aux_lemma =>
            have hK9 := hK.sub (tys' := []) [] rfl
            exact W.lret (v := 0) hx hb hr (fun t ht hW => ⟨⟨0, h0_38c, rfl, (Or.inr ⟨rfl, g_6⟩), by rw [ht]; exact hP, va_K.moved hW.alike hK9, hD⟩, hS.F ht⟩) hS.2.2 dX12_fogOf_43
  refine hG _ _ _ ?_
  refine lv_iload_n hx hb dX12_fogOf_0 rfl (lv_at hl 2 rfl) ?_
  refine lv_aload_n hx hb dX12_fogOf_1 rfl (lv_at hl 0 rfl) ?_
  refine va_get (D := (dC, dI)) (ci := 12) (v := .int h0_f26) (C := RX12) (T := TX12) (N := 54) hx hb hts iw_c_X12_fogOf_4_X12 hown hK hP 0 rfl rfl 26 (by decide +kernel) (hts (.fieldLink RX12 309 "BuoyVoteModel" "buoys" "I") (List.mem_of_getElem? (i := 1) rfl)) (fun _ h9 => h9) rfl dX12_fogOf_2 ?_
  refine lv_icmp_ne (tgt := 53) hx hb dX12_fogOf_5 rfl (fun c_14 => ?_) (fun c_14 => ?_)
  · have g_15 : RG h0_f26 5 8 := RG_ne1 g_h0_f26 (q := 4) rfl (fun q => c_14 q.symm) (by decide +kernel)
    refine lv_aload_n hx hb dX12_fogOf_53 rfl (lv_at hl 0 rfl) ?_
    refine va_get (D := (dC, dI)) (ci := 12) (v := .ref h0_39) (C := RX12) (T := TX12) (N := 54) hx hb hts iw_c_X12_fogOf_4_X12 hown hK hP 0 rfl rfl 39 (by decide +kernel) (hts (.fieldLink RX12 84 "BuoyVoteModel" "leans" "[I") (List.mem_of_getElem? (i := 2) rfl)) (fun _ h9 => h9) rfl dX12_fogOf_54 ?_
    refine lv_iload_n hx hb dX12_fogOf_57 rfl (lv_at hl 2 rfl) ?_
    refine va_iald hx hb hK hP 1 0 rfl rfl (RG_in (RG_k 4 4 rfl) (by decide +kernel)) dX12_fogOf_58 ?_
    refine lv_topi (fun x_16 ex_16 => ?_)
    have g_17 : RG x_16 (-1) 2 := AI_rd a_h0_39c ex_16
    refine lv_iconst (v := (-1)) hx hb dX12_fogOf_59 kc_iconst_m1 ?_
    as_aux_lemma =>
    refine lv_icmp_ne (tgt := 75) hx hb dX12_fogOf_60 rfl (fun c_18 => ?_) (fun c_18 => ?_)
    · have g_19 : RG x_16 0 2 := RG_ne1 g_17 (q := (-1)) rfl c_18 (by decide +kernel)
      refine lv_lload hx hb dX12_fogOf_75 (lv_at hl 4 rfl) ?_
      refine lv_iload_n hx hb dX12_fogOf_77 rfl (lv_at hl 3 rfl) ?_
      refine lv_i2l (v := p3.toInt64) hx hb dX12_fogOf_78 rfl ?_
      refine lv_topl (fun x_20 ex_20 => ?_)
      have g_21 : LG x_20 0 100 := LG_i2l ex_20 g_p3
      refine lv_lmul hx hb dX12_fogOf_79 ?_
      refine lv_topl (fun x_22 ex_22 => ?_)
      refine lv_ldc2 hx hb hown (hts (.constantLong RX12 545 (100)) (List.mem_of_getElem? (i := 3) rfl)) dX12_fogOf_80 ?_
      refine lv_ldiv hx hb dX12_fogOf_83 (by decide +kernel) ?_
      refine lv_topl (fun x_23 ex_23 => ?_)
      refine lv_lstore (lv' := [(6, .long x_23), (0, .ref h0), (1, .int p1), (2, .int 4), (3, .int p3), (4, .long p4)]) hx hb dX12_fogOf_84 hl (Nat.le_of_ble_eq_true rfl) rfl (fun ls hl => ?_)
      refine lv_aload_n hx hb dX12_fogOf_86 rfl (lv_at hl 1 rfl) ?_
      as_aux_lemma =>
      refine lv_iload_n hx hb dX12_fogOf_87 rfl (lv_at hl 2 rfl) ?_
      refine lv_iload_n hx hb dX12_fogOf_88 rfl (lv_at hl 3 rfl) ?_
      refine lv_iconst (v := 1) hx hb dX12_fogOf_89 kc_iconst_1 ?_
      refine lv_iadd hx hb dX12_fogOf_90 ?_
      refine lv_topi (fun x_24 ex_24 => ?_)
      obtain rfl : x_24 = 5 := ex_24.trans (by decide +kernel)
      refine lv_iload_n hx hb dX12_fogOf_91 rfl (lv_at hl 4 rfl) ?_
      refine lv_lload hx hb dX12_fogOf_92 (lv_at hl 0 rfl) ?_
      obtain ⟨hPc, hDc, hFc, hqc⟩ := cl_cut (wc := (wd_c_X12_fogOf_5 h0 h0_f0 h0_1 h0_2 h0_3 h0_4 h0_5 h0_f6 h0_f7 h0_f8 h0_f9 h0_f10 h0_f11 h0_f12 h0_f13 h0_f14 h0_15 h0_16 h0_f17 h0_18 h0_19 h0_20 h0_21 h0_22 h0_23 h0_24 h0_25 h0_f26 h0_f27 h0_f28 h0_f29 h0_f30 h0_f31 h0_32 h0_33 h0_f34 h0_35 h0_36 h0_37 h0_38 h0_39 h0_40 h0_f41 h0_f42 h0_f43 h0_f44 h0_45 h0_46 h0_47 h0_48 h0_49 h0_50 h0_f51 h0_52 h0_f53 h0_39 h0_39k h0_39c h0_38 h0_38k h0_38c)) hP hD hS hA [0, 1, 2] (by decide +kernel) rfl
      have hKc := hK.sub (tys' := [(h0_39k, .int), (h0_38k, .int)]) [0, 1] rfl
      have hrv := va_recv hKc hPc (ci := 12) (q0 := 0) rfl rfl
      refine va_calll (va_runV (As := [.int p1, .int 5, .int p3, .long x_23]) (rest := []) ⟨hx, hb, hml, hown, hts⟩ (c_X12_fogOf_5 l dC dI H.size h0 p1 p3 x_23 h0_f0 h0_1 h0_2 h0_3 h0_4 h0_5 h0_f6 h0_f7 h0_f8 h0_f9 h0_f10 h0_f11 h0_f12 h0_f13 h0_f14 h0_15 h0_16 h0_f17 h0_18 h0_19 h0_20 h0_21 h0_22 h0_23 h0_24 h0_25 h0_f26 h0_f27 h0_f28 h0_f29 h0_f30 h0_f31 h0_32 h0_33 h0_f34 h0_35 h0_36 h0_37 h0_38 h0_39 h0_40 h0_f41 h0_f42 h0_f43 h0_f44 h0_45 h0_46 h0_47 h0_48 h0_49 h0_50 h0_f51 h0_52 h0_f53 h0_39k h0_39c h0_38k h0_38c g_p1 g_p3 g_h0_f6 g_h0_f7 g_h0_f8 g_h0_f9 g_h0_f10 g_h0_f11 g_h0_f17 g_15 g_h0_f27 g_h0_f28 g_h0_f29 g_h0_f30 g_h0_f31 g_h0_f34 g_h0_f41 g_h0_f51 g_h0_f53 a_h0_39c) (cwV 4 hts gf_c_X12_fogOf_4_c_X12_fogOf_5 rfl rfl rfl mdV_X12_fogOf ⟨Nat.le_of_ble_eq_true rfl, Nat.le_of_ble_eq_true rfl⟩) ⟨fun a U g mk q => by obtain ⟨q0, q1, qP, qK, qD⟩ := q; exact ⟨q0, q1, qP, va_K.moved (u := U) (U := U.calling g mk a) (Vm.Alike.refl U.vm) qK, qD⟩, hrv, fun U hU hW => ⟨rfl, by rw [hU], by rw [hU]; exact hPc, va_K.moved hW.alike hKc, hDc.weaken (fun _ _ _ _ => trivial)⟩⟩ rfl rfl hl.1 rfl (lv_room (Nat.le_of_ble_eq_true rfl)) dX12_fogOf_94 ⟨Nat.le_of_ble_eq_true rfl, Nat.le_of_ble_eq_true rfl⟩) hS (fun q _ h => hFc q h) hFc (fun r_25 w_26 t H1 locs ht hvm hw hB hz1 hk1 hS => ?_)
      obtain ⟨hP1, hK1, hD1⟩ := hB
      rw [ht] at hP1
      obtain ⟨hP, hD⟩ := cl_put (w1 := (wd_c_X12_fogOf_5 h0 h0_f0 h0_1 h0_2 h0_3 h0_4 h0_5 h0_f6 h0_f7 h0_f8 h0_f9 h0_f10 h0_f11 h0_f12 h0_f13 h0_f14 h0_15 h0_16 h0_f17 h0_18 h0_19 h0_20 h0_21 h0_22 h0_23 h0_24 h0_25 h0_f26 h0_f27 h0_f28 h0_f29 h0_f30 h0_f31 h0_32 h0_33 h0_f34 h0_35 h0_36 h0_37 h0_38 h0_39 h0_40 h0_f41 h0_f42 h0_f43 h0_f44 h0_45 h0_46 h0_47 h0_48 h0_49 h0_50 h0_f51 h0_52 h0_f53 h0_39 h0_39k h0_39c h0_38 h0_38k w_26)) (nw := (wd_c_X12_fogOf_4 h0 h0_f0 h0_1 h0_2 h0_3 h0_4 h0_5 h0_f6 h0_f7 h0_f8 h0_f9 h0_f10 h0_f11 h0_f12 h0_f13 h0_f14 h0_15 h0_16 h0_f17 h0_18 h0_19 h0_20 h0_21 h0_22 h0_23 h0_24 h0_25 h0_f26 h0_f27 h0_f28 h0_f29 h0_f30 h0_f31 h0_32 h0_33 h0_f34 h0_35 h0_36 h0_37 h0_38 h0_39 h0_40 h0_f41 h0_f42 h0_f43 h0_f44 h0_45 h0_46 h0_47 h0_48 h0_49 h0_50 h0_f51 h0_52 h0_f53 h0_39 h0_39k h0_39c h0_38 h0_38k w_26)) hP hD [0, 1, 2] [3, 4, 5] 3 rfl hqc (by decide +kernel) rfl hk1 hFc hP1 hD1
      generalize H1 = H at hP hS ⊢
      as_aux_lemma =>
      rcases hw with h_27 | ⟨h_28, h_29⟩
      · refine lv_lstore (lv' := [(8, .long r_25), (6, .long x_23), (0, .ref h0), (1, .int p1), (2, .int 4), (3, .int p3), (4, .long p4)]) hx hb dX12_fogOf_97 hl (Nat.le_of_ble_eq_true rfl) rfl (fun ls hl => ?_)
        refine lv_aload_n hx hb dX12_fogOf_99 rfl (lv_at hl 2 rfl) ?_
        refine va_get (D := (dC, dI)) (ci := 12) (v := .ref h0_38) (C := RX12) (T := TX12) (N := 54) hx hb hts iw_c_X12_fogOf_4_X12 hown hK hP 0 rfl rfl 38 (by decide +kernel) (hts (.fieldLink RX12 81 "BuoyVoteModel" "tally" "[I") (List.mem_of_getElem? (i := 9) rfl)) (fun _ h9 => h9) rfl dX12_fogOf_100 ?_
        refine lv_aload_n hx hb dX12_fogOf_103 rfl (lv_at hl 2 rfl) ?_
        refine va_get (D := (dC, dI)) (ci := 12) (v := .ref h0_39) (C := RX12) (T := TX12) (N := 54) hx hb hts iw_c_X12_fogOf_4_X12 hown hK hP 0 rfl rfl 39 (by decide +kernel) (hts (.fieldLink RX12 84 "BuoyVoteModel" "leans" "[I") (List.mem_of_getElem? (i := 2) rfl)) (fun _ h9 => h9) rfl dX12_fogOf_104 ?_
        refine lv_iload_n hx hb dX12_fogOf_107 rfl (lv_at hl 4 rfl) ?_
        refine va_iald hx hb hK hP 1 0 rfl rfl (RG_in (RG_k 4 4 rfl) (by decide +kernel)) dX12_fogOf_108 ?_
        refine lv_topi (fun x_30 ex_30 => ?_)
        obtain rfl : x_16 = x_30 := (ex_30.trans ex_16.symm).symm
        refine lv_dup2_11 hx hb dX12_fogOf_109 rfl rfl ?_
        refine va_iald hx hb hK hP 2 1 rfl rfl (RG_in g_19 (by decide +kernel)) dX12_fogOf_110 ?_
        refine lv_topi (fun x_31 ex_31 => ?_)
        refine lv_iconst (v := 1) hx hb dX12_fogOf_111 kc_iconst_1 ?_
        as_aux_lemma =>
        refine lv_iadd hx hb dX12_fogOf_112 ?_
        refine lv_topi (fun x_32 ex_32 => ?_)
        refine va_iast hx hb hK hP hD hS 2 1 rfl rfl (RG_in g_19 (by decide +kernel)) dX12_fogOf_113 (fun H locs hP hD hS => ?_)
        have hP : va_P (dC, dI) vwCl (wd_c_X12_fogOf_4 h0 h0_f0 h0_1 h0_2 h0_3 h0_4 h0_5 h0_f6 h0_f7 h0_f8 h0_f9 h0_f10 h0_f11 h0_f12 h0_f13 h0_f14 h0_15 h0_16 h0_f17 h0_18 h0_19 h0_20 h0_21 h0_22 h0_23 h0_24 h0_25 h0_f26 h0_f27 h0_f28 h0_f29 h0_f30 h0_f31 h0_32 h0_33 h0_f34 h0_35 h0_36 h0_37 h0_38 h0_39 h0_40 h0_f41 h0_f42 h0_f43 h0_f44 h0_45 h0_46 h0_47 h0_48 h0_49 h0_50 h0_f51 h0_52 h0_f53 h0_39 h0_39k h0_39c h0_38 h0_38k (upd w_26 (x_16 : Int32).toNatClampNeg x_32)) H := hP
        have hD : va_D A (wd_c_X12_fogOf_4 h0 h0_f0 h0_1 h0_2 h0_3 h0_4 h0_5 h0_f6 h0_f7 h0_f8 h0_f9 h0_f10 h0_f11 h0_f12 h0_f13 h0_f14 h0_15 h0_16 h0_f17 h0_18 h0_19 h0_20 h0_21 h0_22 h0_23 h0_24 h0_25 h0_f26 h0_f27 h0_f28 h0_f29 h0_f30 h0_f31 h0_32 h0_33 h0_f34 h0_35 h0_36 h0_37 h0_38 h0_39 h0_40 h0_f41 h0_f42 h0_f43 h0_f44 h0_45 h0_46 h0_47 h0_48 h0_49 h0_50 h0_f51 h0_52 h0_f53 h0_39 h0_39k h0_39c h0_38 h0_38k (upd w_26 (x_16 : Int32).toNatClampNeg x_32)) := hD
        have l_34 : (upd w_26 (x_16 : Int32).toNatClampNeg x_32) (x_16 : Int32).toNatClampNeg = x_32 := pk_us
        generalize (upd w_26 (x_16 : Int32).toNatClampNeg x_32) = w_33 at hP hD l_34
        have hP : va_P (dC, dI) vwCl (wd_c_X12_fogOf_4 h0 h0_f0 h0_1 h0_2 h0_3 h0_4 h0_5 h0_f6 h0_f7 h0_f8 h0_f9 h0_f10 h0_f11 h0_f12 h0_f13 h0_f14 h0_15 h0_16 h0_f17 h0_18 h0_19 h0_20 h0_21 h0_22 h0_23 h0_24 h0_25 h0_f26 h0_f27 h0_f28 h0_f29 h0_f30 h0_f31 h0_32 h0_33 h0_f34 h0_35 h0_36 h0_37 h0_38 h0_39 h0_40 h0_f41 h0_f42 h0_f43 h0_f44 h0_45 h0_46 h0_47 h0_48 h0_49 h0_50 h0_f51 h0_52 h0_f53 h0_39 h0_39k h0_39c h0_38 h0_38k w_33) H := hP
        have hD : va_D A (wd_c_X12_fogOf_4 h0 h0_f0 h0_1 h0_2 h0_3 h0_4 h0_5 h0_f6 h0_f7 h0_f8 h0_f9 h0_f10 h0_f11 h0_f12 h0_f13 h0_f14 h0_15 h0_16 h0_f17 h0_18 h0_19 h0_20 h0_21 h0_22 h0_23 h0_24 h0_25 h0_f26 h0_f27 h0_f28 h0_f29 h0_f30 h0_f31 h0_32 h0_33 h0_f34 h0_35 h0_36 h0_37 h0_38 h0_39 h0_40 h0_f41 h0_f42 h0_f43 h0_f44 h0_45 h0_46 h0_47 h0_48 h0_49 h0_50 h0_f51 h0_52 h0_f53 h0_39 h0_39k h0_39c h0_38 h0_38k w_33) := hD
        refine lv_lload hx hb dX12_fogOf_114 (lv_at hl 0 rfl) ?_
        refine lv_aload_n hx hb dX12_fogOf_116 rfl (lv_at hl 2 rfl) ?_
        refine lv_iload_n hx hb dX12_fogOf_117 rfl (lv_at hl 3 rfl) ?_
        refine lv_iload_n hx hb dX12_fogOf_118 rfl (lv_at hl 4 rfl) ?_
        refine lv_iconst (v := 1) hx hb dX12_fogOf_119 kc_iconst_1 ?_
        as_aux_lemma =>
        refine lv_iadd hx hb dX12_fogOf_120 ?_
        refine lv_topi (fun x_35 ex_35 => ?_)
        obtain rfl : x_35 = 5 := ex_35.trans (by decide +kernel)
        refine lv_iload_n hx hb dX12_fogOf_121 rfl (lv_at hl 5 rfl) ?_
        refine lv_lload hx hb dX12_fogOf_122 (lv_at hl 6 rfl) ?_
        refine lv_lload hx hb dX12_fogOf_124 (lv_at hl 1 rfl) ?_
        refine lv_lsub hx hb dX12_fogOf_126 ?_
        refine lv_topl (fun x_36 ex_36 => ?_)
        obtain ⟨hPc, hDc, hFc, hqc⟩ := cl_cut (wc := (wd_c_X12_fogOf_5 h0 h0_f0 h0_1 h0_2 h0_3 h0_4 h0_5 h0_f6 h0_f7 h0_f8 h0_f9 h0_f10 h0_f11 h0_f12 h0_f13 h0_f14 h0_15 h0_16 h0_f17 h0_18 h0_19 h0_20 h0_21 h0_22 h0_23 h0_24 h0_25 h0_f26 h0_f27 h0_f28 h0_f29 h0_f30 h0_f31 h0_32 h0_33 h0_f34 h0_35 h0_36 h0_37 h0_38 h0_39 h0_40 h0_f41 h0_f42 h0_f43 h0_f44 h0_45 h0_46 h0_47 h0_48 h0_49 h0_50 h0_f51 h0_52 h0_f53 h0_39 h0_39k h0_39c h0_38 h0_38k w_33)) hP hD hS hA [0, 1, 2] (by decide +kernel) rfl
        have hKc := hK.sub (tys' := [(h0_39k, .int), (h0_38k, .int)]) [0, 1] rfl
        have hrv := va_recv hKc hPc (ci := 12) (q0 := 0) rfl rfl
        refine va_calll (va_runV (As := [.int p1, .int 5, .int p3, .long x_36]) (rest := [.long r_25]) ⟨hx, hb, hml, hown, hts⟩ (c_X12_fogOf_5 l dC dI H.size h0 p1 p3 x_36 h0_f0 h0_1 h0_2 h0_3 h0_4 h0_5 h0_f6 h0_f7 h0_f8 h0_f9 h0_f10 h0_f11 h0_f12 h0_f13 h0_f14 h0_15 h0_16 h0_f17 h0_18 h0_19 h0_20 h0_21 h0_22 h0_23 h0_24 h0_25 h0_f26 h0_f27 h0_f28 h0_f29 h0_f30 h0_f31 h0_32 h0_33 h0_f34 h0_35 h0_36 h0_37 h0_38 h0_39 h0_40 h0_f41 h0_f42 h0_f43 h0_f44 h0_45 h0_46 h0_47 h0_48 h0_49 h0_50 h0_f51 h0_52 h0_f53 h0_39k h0_39c h0_38k w_33 g_p1 g_p3 g_h0_f6 g_h0_f7 g_h0_f8 g_h0_f9 g_h0_f10 g_h0_f11 g_h0_f17 g_15 g_h0_f27 g_h0_f28 g_h0_f29 g_h0_f30 g_h0_f31 g_h0_f34 g_h0_f41 g_h0_f51 g_h0_f53 a_h0_39c) (cwV 4 hts gf_c_X12_fogOf_4_c_X12_fogOf_5 rfl rfl rfl mdV_X12_fogOf ⟨Nat.le_of_ble_eq_true rfl, Nat.le_of_ble_eq_true rfl⟩) ⟨fun a U g mk q => by obtain ⟨q0, q1, qP, qK, qD⟩ := q; exact ⟨q0, q1, qP, va_K.moved (u := U) (U := U.calling g mk a) (Vm.Alike.refl U.vm) qK, qD⟩, hrv, fun U hU hW => ⟨rfl, by rw [hU], by rw [hU]; exact hPc, va_K.moved hW.alike hKc, hDc.weaken (fun _ _ _ _ => trivial)⟩⟩ rfl rfl hl.1 rfl (lv_room (Nat.le_of_ble_eq_true rfl)) dX12_fogOf_127 ⟨Nat.le_of_ble_eq_true rfl, Nat.le_of_ble_eq_true rfl⟩) hS (fun q _ h => hFc q h) hFc (fun r_37 w_38 t H1 locs ht hvm hw hB hz1 hk1 hS => ?_)
        obtain ⟨hP1, hK1, hD1⟩ := hB
        rw [ht] at hP1
        obtain ⟨hP, hD⟩ := cl_put (w1 := (wd_c_X12_fogOf_5 h0 h0_f0 h0_1 h0_2 h0_3 h0_4 h0_5 h0_f6 h0_f7 h0_f8 h0_f9 h0_f10 h0_f11 h0_f12 h0_f13 h0_f14 h0_15 h0_16 h0_f17 h0_18 h0_19 h0_20 h0_21 h0_22 h0_23 h0_24 h0_25 h0_f26 h0_f27 h0_f28 h0_f29 h0_f30 h0_f31 h0_32 h0_33 h0_f34 h0_35 h0_36 h0_37 h0_38 h0_39 h0_40 h0_f41 h0_f42 h0_f43 h0_f44 h0_45 h0_46 h0_47 h0_48 h0_49 h0_50 h0_f51 h0_52 h0_f53 h0_39 h0_39k h0_39c h0_38 h0_38k w_38)) (nw := (wd_c_X12_fogOf_4 h0 h0_f0 h0_1 h0_2 h0_3 h0_4 h0_5 h0_f6 h0_f7 h0_f8 h0_f9 h0_f10 h0_f11 h0_f12 h0_f13 h0_f14 h0_15 h0_16 h0_f17 h0_18 h0_19 h0_20 h0_21 h0_22 h0_23 h0_24 h0_25 h0_f26 h0_f27 h0_f28 h0_f29 h0_f30 h0_f31 h0_32 h0_33 h0_f34 h0_35 h0_36 h0_37 h0_38 h0_39 h0_40 h0_f41 h0_f42 h0_f43 h0_f44 h0_45 h0_46 h0_47 h0_48 h0_49 h0_50 h0_f51 h0_52 h0_f53 h0_39 h0_39k h0_39c h0_38 h0_38k w_38)) hP hD [0, 1, 2] [3, 4, 5] 3 rfl hqc (by decide +kernel) rfl hk1 hFc hP1 hD1
        generalize H1 = H at hP hS ⊢
        as_aux_lemma =>
        rcases hw with h_39 | ⟨h_40, h_41⟩
        · refine lv_ladd hx hb dX12_fogOf_130 ?_
          refine lv_topl (fun x_42 ex_42 => ?_)
          refine lv_lstore (lv' := [(8, .long x_42), (6, .long x_23), (0, .ref h0), (1, .int p1), (2, .int 4), (3, .int p3), (4, .long p4)]) hx hb dX12_fogOf_131 hl (Nat.le_of_ble_eq_true rfl) rfl (fun ls hl => ?_)
          refine lv_aload_n hx hb dX12_fogOf_133 rfl (lv_at hl 2 rfl) ?_
          refine va_get (D := (dC, dI)) (ci := 12) (v := .ref h0_38) (C := RX12) (T := TX12) (N := 54) hx hb hts iw_c_X12_fogOf_4_X12 hown hK hP 0 rfl rfl 38 (by decide +kernel) (hts (.fieldLink RX12 81 "BuoyVoteModel" "tally" "[I") (List.mem_of_getElem? (i := 9) rfl)) (fun _ h9 => h9) rfl dX12_fogOf_134 ?_
          refine lv_aload_n hx hb dX12_fogOf_137 rfl (lv_at hl 2 rfl) ?_
          refine va_get (D := (dC, dI)) (ci := 12) (v := .ref h0_39) (C := RX12) (T := TX12) (N := 54) hx hb hts iw_c_X12_fogOf_4_X12 hown hK hP 0 rfl rfl 39 (by decide +kernel) (hts (.fieldLink RX12 84 "BuoyVoteModel" "leans" "[I") (List.mem_of_getElem? (i := 2) rfl)) (fun _ h9 => h9) rfl dX12_fogOf_138 ?_
          refine lv_iload_n hx hb dX12_fogOf_141 rfl (lv_at hl 4 rfl) ?_
          refine va_iald hx hb hK hP 1 0 rfl rfl (RG_in (RG_k 4 4 rfl) (by decide +kernel)) dX12_fogOf_142 ?_
          refine lv_topi (fun x_43 ex_43 => ?_)
          obtain rfl : x_16 = x_43 := (ex_43.trans ex_16.symm).symm
          refine lv_dup2_11 hx hb dX12_fogOf_143 rfl rfl ?_
          refine va_iald hx hb hK hP 2 1 rfl rfl (RG_in g_19 (by decide +kernel)) dX12_fogOf_144 ?_
          as_aux_lemma =>
          refine lv_topi (fun x_44 ex_44 => ?_)
          refine lv_iconst (v := 1) hx hb dX12_fogOf_145 kc_iconst_1 ?_
          refine lv_isub hx hb dX12_fogOf_146 ?_
          refine lv_topi (fun x_45 ex_45 => ?_)
          refine va_iast hx hb hK hP hD hS 2 1 rfl rfl (RG_in g_19 (by decide +kernel)) dX12_fogOf_147 (fun H locs hP hD hS => ?_)
          have hP : va_P (dC, dI) vwCl (wd_c_X12_fogOf_4 h0 h0_f0 h0_1 h0_2 h0_3 h0_4 h0_5 h0_f6 h0_f7 h0_f8 h0_f9 h0_f10 h0_f11 h0_f12 h0_f13 h0_f14 h0_15 h0_16 h0_f17 h0_18 h0_19 h0_20 h0_21 h0_22 h0_23 h0_24 h0_25 h0_f26 h0_f27 h0_f28 h0_f29 h0_f30 h0_f31 h0_32 h0_33 h0_f34 h0_35 h0_36 h0_37 h0_38 h0_39 h0_40 h0_f41 h0_f42 h0_f43 h0_f44 h0_45 h0_46 h0_47 h0_48 h0_49 h0_50 h0_f51 h0_52 h0_f53 h0_39 h0_39k h0_39c h0_38 h0_38k (upd w_38 (x_16 : Int32).toNatClampNeg x_45)) H := hP
          have hD : va_D A (wd_c_X12_fogOf_4 h0 h0_f0 h0_1 h0_2 h0_3 h0_4 h0_5 h0_f6 h0_f7 h0_f8 h0_f9 h0_f10 h0_f11 h0_f12 h0_f13 h0_f14 h0_15 h0_16 h0_f17 h0_18 h0_19 h0_20 h0_21 h0_22 h0_23 h0_24 h0_25 h0_f26 h0_f27 h0_f28 h0_f29 h0_f30 h0_f31 h0_32 h0_33 h0_f34 h0_35 h0_36 h0_37 h0_38 h0_39 h0_40 h0_f41 h0_f42 h0_f43 h0_f44 h0_45 h0_46 h0_47 h0_48 h0_49 h0_50 h0_f51 h0_52 h0_f53 h0_39 h0_39k h0_39c h0_38 h0_38k (upd w_38 (x_16 : Int32).toNatClampNeg x_45)) := hD
          have l_47 : (upd w_38 (x_16 : Int32).toNatClampNeg x_45) (x_16 : Int32).toNatClampNeg = x_45 := pk_us
          generalize (upd w_38 (x_16 : Int32).toNatClampNeg x_45) = w_46 at hP hD l_47
          have hP : va_P (dC, dI) vwCl (wd_c_X12_fogOf_4 h0 h0_f0 h0_1 h0_2 h0_3 h0_4 h0_5 h0_f6 h0_f7 h0_f8 h0_f9 h0_f10 h0_f11 h0_f12 h0_f13 h0_f14 h0_15 h0_16 h0_f17 h0_18 h0_19 h0_20 h0_21 h0_22 h0_23 h0_24 h0_25 h0_f26 h0_f27 h0_f28 h0_f29 h0_f30 h0_f31 h0_32 h0_33 h0_f34 h0_35 h0_36 h0_37 h0_38 h0_39 h0_40 h0_f41 h0_f42 h0_f43 h0_f44 h0_45 h0_46 h0_47 h0_48 h0_49 h0_50 h0_f51 h0_52 h0_f53 h0_39 h0_39k h0_39c h0_38 h0_38k w_46) H := hP
          have hD : va_D A (wd_c_X12_fogOf_4 h0 h0_f0 h0_1 h0_2 h0_3 h0_4 h0_5 h0_f6 h0_f7 h0_f8 h0_f9 h0_f10 h0_f11 h0_f12 h0_f13 h0_f14 h0_15 h0_16 h0_f17 h0_18 h0_19 h0_20 h0_21 h0_22 h0_23 h0_24 h0_25 h0_f26 h0_f27 h0_f28 h0_f29 h0_f30 h0_f31 h0_32 h0_33 h0_f34 h0_35 h0_36 h0_37 h0_38 h0_39 h0_40 h0_f41 h0_f42 h0_f43 h0_f44 h0_45 h0_46 h0_47 h0_48 h0_49 h0_50 h0_f51 h0_52 h0_f53 h0_39 h0_39k h0_39c h0_38 h0_38k w_46) := hD
          refine lv_lload hx hb dX12_fogOf_148 (lv_at hl 0 rfl) ?_
          have hK9 := hK.sub (tys' := []) [] rfl
          exact W.lret (v := x_42) hx hb hr (fun t ht hW => ⟨⟨x_42, w_46, rfl, (Or.inl (LG_any x_42)), by rw [ht]; exact hP, va_K.moved hW.alike hK9, hD⟩, hS.F ht⟩) hS.2.2 dX12_fogOf_150
        · rw [h_40]
          refine lv_ladd hx hb dX12_fogOf_130 ?_
          as_aux_lemma =>
          refine lv_topl (fun x_48 ex_48 => ?_)
          refine lv_lstore (lv' := [(8, .long x_48), (6, .long x_23), (0, .ref h0), (1, .int p1), (2, .int 4), (3, .int p3), (4, .long p4)]) hx hb dX12_fogOf_131 hl (Nat.le_of_ble_eq_true rfl) rfl (fun ls hl => ?_)
          refine lv_aload_n hx hb dX12_fogOf_133 rfl (lv_at hl 2 rfl) ?_
          refine va_get (D := (dC, dI)) (ci := 12) (v := .ref h0_38) (C := RX12) (T := TX12) (N := 54) hx hb hts iw_c_X12_fogOf_4_X12 hown hK hP 0 rfl rfl 38 (by decide +kernel) (hts (.fieldLink RX12 81 "BuoyVoteModel" "tally" "[I") (List.mem_of_getElem? (i := 9) rfl)) (fun _ h9 => h9) rfl dX12_fogOf_134 ?_
          refine lv_aload_n hx hb dX12_fogOf_137 rfl (lv_at hl 2 rfl) ?_
          refine va_get (D := (dC, dI)) (ci := 12) (v := .ref h0_39) (C := RX12) (T := TX12) (N := 54) hx hb hts iw_c_X12_fogOf_4_X12 hown hK hP 0 rfl rfl 39 (by decide +kernel) (hts (.fieldLink RX12 84 "BuoyVoteModel" "leans" "[I") (List.mem_of_getElem? (i := 2) rfl)) (fun _ h9 => h9) rfl dX12_fogOf_138 ?_
          refine lv_iload_n hx hb dX12_fogOf_141 rfl (lv_at hl 4 rfl) ?_
          refine va_iald hx hb hK hP 1 0 rfl rfl (RG_in (RG_k 4 4 rfl) (by decide +kernel)) dX12_fogOf_142 ?_
          refine lv_topi (fun x_49 ex_49 => ?_)
          obtain rfl : x_16 = x_49 := (ex_49.trans ex_16.symm).symm
          refine lv_dup2_11 hx hb dX12_fogOf_143 rfl rfl ?_
          refine va_iald hx hb hK hP 2 1 rfl rfl (RG_in g_19 (by decide +kernel)) dX12_fogOf_144 ?_
          refine lv_topi (fun x_50 ex_50 => ?_)
          refine lv_iconst (v := 1) hx hb dX12_fogOf_145 kc_iconst_1 ?_
          as_aux_lemma =>
          refine lv_isub hx hb dX12_fogOf_146 ?_
          refine lv_topi (fun x_51 ex_51 => ?_)
          refine va_iast hx hb hK hP hD hS 2 1 rfl rfl (RG_in g_19 (by decide +kernel)) dX12_fogOf_147 (fun H locs hP hD hS => ?_)
          have hP : va_P (dC, dI) vwCl (wd_c_X12_fogOf_4 h0 h0_f0 h0_1 h0_2 h0_3 h0_4 h0_5 h0_f6 h0_f7 h0_f8 h0_f9 h0_f10 h0_f11 h0_f12 h0_f13 h0_f14 h0_15 h0_16 h0_f17 h0_18 h0_19 h0_20 h0_21 h0_22 h0_23 h0_24 h0_25 h0_f26 h0_f27 h0_f28 h0_f29 h0_f30 h0_f31 h0_32 h0_33 h0_f34 h0_35 h0_36 h0_37 h0_38 h0_39 h0_40 h0_f41 h0_f42 h0_f43 h0_f44 h0_45 h0_46 h0_47 h0_48 h0_49 h0_50 h0_f51 h0_52 h0_f53 h0_39 h0_39k h0_39c h0_38 h0_38k (upd w_38 (x_16 : Int32).toNatClampNeg x_51)) H := hP
          have hD : va_D A (wd_c_X12_fogOf_4 h0 h0_f0 h0_1 h0_2 h0_3 h0_4 h0_5 h0_f6 h0_f7 h0_f8 h0_f9 h0_f10 h0_f11 h0_f12 h0_f13 h0_f14 h0_15 h0_16 h0_f17 h0_18 h0_19 h0_20 h0_21 h0_22 h0_23 h0_24 h0_25 h0_f26 h0_f27 h0_f28 h0_f29 h0_f30 h0_f31 h0_32 h0_33 h0_f34 h0_35 h0_36 h0_37 h0_38 h0_39 h0_40 h0_f41 h0_f42 h0_f43 h0_f44 h0_45 h0_46 h0_47 h0_48 h0_49 h0_50 h0_f51 h0_52 h0_f53 h0_39 h0_39k h0_39c h0_38 h0_38k (upd w_38 (x_16 : Int32).toNatClampNeg x_51)) := hD
          have l_53 : (upd w_38 (x_16 : Int32).toNatClampNeg x_51) (x_16 : Int32).toNatClampNeg = x_51 := pk_us
          generalize (upd w_38 (x_16 : Int32).toNatClampNeg x_51) = w_52 at hP hD l_53
          have hP : va_P (dC, dI) vwCl (wd_c_X12_fogOf_4 h0 h0_f0 h0_1 h0_2 h0_3 h0_4 h0_5 h0_f6 h0_f7 h0_f8 h0_f9 h0_f10 h0_f11 h0_f12 h0_f13 h0_f14 h0_15 h0_16 h0_f17 h0_18 h0_19 h0_20 h0_21 h0_22 h0_23 h0_24 h0_25 h0_f26 h0_f27 h0_f28 h0_f29 h0_f30 h0_f31 h0_32 h0_33 h0_f34 h0_35 h0_36 h0_37 h0_38 h0_39 h0_40 h0_f41 h0_f42 h0_f43 h0_f44 h0_45 h0_46 h0_47 h0_48 h0_49 h0_50 h0_f51 h0_52 h0_f53 h0_39 h0_39k h0_39c h0_38 h0_38k w_52) H := hP
          have hD : va_D A (wd_c_X12_fogOf_4 h0 h0_f0 h0_1 h0_2 h0_3 h0_4 h0_5 h0_f6 h0_f7 h0_f8 h0_f9 h0_f10 h0_f11 h0_f12 h0_f13 h0_f14 h0_15 h0_16 h0_f17 h0_18 h0_19 h0_20 h0_21 h0_22 h0_23 h0_24 h0_25 h0_f26 h0_f27 h0_f28 h0_f29 h0_f30 h0_f31 h0_32 h0_33 h0_f34 h0_35 h0_36 h0_37 h0_38 h0_39 h0_40 h0_f41 h0_f42 h0_f43 h0_f44 h0_45 h0_46 h0_47 h0_48 h0_49 h0_50 h0_f51 h0_52 h0_f53 h0_39 h0_39k h0_39c h0_38 h0_38k w_52) := hD
          refine lv_lload hx hb dX12_fogOf_148 (lv_at hl 0 rfl) ?_
          have hK9 := hK.sub (tys' := []) [] rfl
          exact W.lret (v := x_48) hx hb hr (fun t ht hW => ⟨⟨x_48, w_52, rfl, (Or.inl (LG_any x_48)), by rw [ht]; exact hP, va_K.moved hW.alike hK9, hD⟩, hS.F ht⟩) hS.2.2 dX12_fogOf_150
      · rw [h_28]
        refine lv_lstore (lv' := [(8, .long 0), (6, .long x_23), (0, .ref h0), (1, .int p1), (2, .int 4), (3, .int p3), (4, .long p4)]) hx hb dX12_fogOf_97 hl (Nat.le_of_ble_eq_true rfl) rfl (fun ls hl => ?_)
        as_aux_lemma =>
        refine lv_aload_n hx hb dX12_fogOf_99 rfl (lv_at hl 2 rfl) ?_
        refine va_get (D := (dC, dI)) (ci := 12) (v := .ref h0_38) (C := RX12) (T := TX12) (N := 54) hx hb hts iw_c_X12_fogOf_4_X12 hown hK hP 0 rfl rfl 38 (by decide +kernel) (hts (.fieldLink RX12 81 "BuoyVoteModel" "tally" "[I") (List.mem_of_getElem? (i := 9) rfl)) (fun _ h9 => h9) rfl dX12_fogOf_100 ?_
        refine lv_aload_n hx hb dX12_fogOf_103 rfl (lv_at hl 2 rfl) ?_
        refine va_get (D := (dC, dI)) (ci := 12) (v := .ref h0_39) (C := RX12) (T := TX12) (N := 54) hx hb hts iw_c_X12_fogOf_4_X12 hown hK hP 0 rfl rfl 39 (by decide +kernel) (hts (.fieldLink RX12 84 "BuoyVoteModel" "leans" "[I") (List.mem_of_getElem? (i := 2) rfl)) (fun _ h9 => h9) rfl dX12_fogOf_104 ?_
        refine lv_iload_n hx hb dX12_fogOf_107 rfl (lv_at hl 4 rfl) ?_
        refine va_iald hx hb hK hP 1 0 rfl rfl (RG_in (RG_k 4 4 rfl) (by decide +kernel)) dX12_fogOf_108 ?_
        refine lv_topi (fun x_54 ex_54 => ?_)
        obtain rfl : x_16 = x_54 := (ex_54.trans ex_16.symm).symm
        refine lv_dup2_11 hx hb dX12_fogOf_109 rfl rfl ?_
        refine va_iald hx hb hK hP 2 1 rfl rfl (RG_in g_19 (by decide +kernel)) dX12_fogOf_110 ?_
        refine lv_topi (fun x_55 ex_55 => ?_)
        refine lv_iconst (v := 1) hx hb dX12_fogOf_111 kc_iconst_1 ?_
        refine lv_iadd hx hb dX12_fogOf_112 ?_
        refine lv_topi (fun x_56 ex_56 => ?_)
        as_aux_lemma =>
        refine va_iast hx hb hK hP hD hS 2 1 rfl rfl (RG_in g_19 (by decide +kernel)) dX12_fogOf_113 (fun H locs hP hD hS => ?_)
        have hP : va_P (dC, dI) vwCl (wd_c_X12_fogOf_4 h0 h0_f0 h0_1 h0_2 h0_3 h0_4 h0_5 h0_f6 h0_f7 h0_f8 h0_f9 h0_f10 h0_f11 h0_f12 h0_f13 h0_f14 h0_15 h0_16 h0_f17 h0_18 h0_19 h0_20 h0_21 h0_22 h0_23 h0_24 h0_25 h0_f26 h0_f27 h0_f28 h0_f29 h0_f30 h0_f31 h0_32 h0_33 h0_f34 h0_35 h0_36 h0_37 h0_38 h0_39 h0_40 h0_f41 h0_f42 h0_f43 h0_f44 h0_45 h0_46 h0_47 h0_48 h0_49 h0_50 h0_f51 h0_52 h0_f53 h0_39 h0_39k h0_39c h0_38 h0_38k (upd w_26 (x_16 : Int32).toNatClampNeg x_56)) H := hP
        have hD : va_D A (wd_c_X12_fogOf_4 h0 h0_f0 h0_1 h0_2 h0_3 h0_4 h0_5 h0_f6 h0_f7 h0_f8 h0_f9 h0_f10 h0_f11 h0_f12 h0_f13 h0_f14 h0_15 h0_16 h0_f17 h0_18 h0_19 h0_20 h0_21 h0_22 h0_23 h0_24 h0_25 h0_f26 h0_f27 h0_f28 h0_f29 h0_f30 h0_f31 h0_32 h0_33 h0_f34 h0_35 h0_36 h0_37 h0_38 h0_39 h0_40 h0_f41 h0_f42 h0_f43 h0_f44 h0_45 h0_46 h0_47 h0_48 h0_49 h0_50 h0_f51 h0_52 h0_f53 h0_39 h0_39k h0_39c h0_38 h0_38k (upd w_26 (x_16 : Int32).toNatClampNeg x_56)) := hD
        have l_58 : (upd w_26 (x_16 : Int32).toNatClampNeg x_56) (x_16 : Int32).toNatClampNeg = x_56 := pk_us
        generalize (upd w_26 (x_16 : Int32).toNatClampNeg x_56) = w_57 at hP hD l_58
        have hP : va_P (dC, dI) vwCl (wd_c_X12_fogOf_4 h0 h0_f0 h0_1 h0_2 h0_3 h0_4 h0_5 h0_f6 h0_f7 h0_f8 h0_f9 h0_f10 h0_f11 h0_f12 h0_f13 h0_f14 h0_15 h0_16 h0_f17 h0_18 h0_19 h0_20 h0_21 h0_22 h0_23 h0_24 h0_25 h0_f26 h0_f27 h0_f28 h0_f29 h0_f30 h0_f31 h0_32 h0_33 h0_f34 h0_35 h0_36 h0_37 h0_38 h0_39 h0_40 h0_f41 h0_f42 h0_f43 h0_f44 h0_45 h0_46 h0_47 h0_48 h0_49 h0_50 h0_f51 h0_52 h0_f53 h0_39 h0_39k h0_39c h0_38 h0_38k w_57) H := hP
        have hD : va_D A (wd_c_X12_fogOf_4 h0 h0_f0 h0_1 h0_2 h0_3 h0_4 h0_5 h0_f6 h0_f7 h0_f8 h0_f9 h0_f10 h0_f11 h0_f12 h0_f13 h0_f14 h0_15 h0_16 h0_f17 h0_18 h0_19 h0_20 h0_21 h0_22 h0_23 h0_24 h0_25 h0_f26 h0_f27 h0_f28 h0_f29 h0_f30 h0_f31 h0_32 h0_33 h0_f34 h0_35 h0_36 h0_37 h0_38 h0_39 h0_40 h0_f41 h0_f42 h0_f43 h0_f44 h0_45 h0_46 h0_47 h0_48 h0_49 h0_50 h0_f51 h0_52 h0_f53 h0_39 h0_39k h0_39c h0_38 h0_38k w_57) := hD
        refine lv_lload hx hb dX12_fogOf_114 (lv_at hl 0 rfl) ?_
        refine lv_aload_n hx hb dX12_fogOf_116 rfl (lv_at hl 2 rfl) ?_
        refine lv_iload_n hx hb dX12_fogOf_117 rfl (lv_at hl 3 rfl) ?_
        refine lv_iload_n hx hb dX12_fogOf_118 rfl (lv_at hl 4 rfl) ?_
        refine lv_iconst (v := 1) hx hb dX12_fogOf_119 kc_iconst_1 ?_
        refine lv_iadd hx hb dX12_fogOf_120 ?_
        refine lv_topi (fun x_59 ex_59 => ?_)
        as_aux_lemma =>
        obtain rfl : x_59 = 5 := ex_59.trans (by decide +kernel)
        refine lv_iload_n hx hb dX12_fogOf_121 rfl (lv_at hl 5 rfl) ?_
        refine lv_lload hx hb dX12_fogOf_122 (lv_at hl 6 rfl) ?_
        refine lv_lload hx hb dX12_fogOf_124 (lv_at hl 1 rfl) ?_
        refine lv_lsub hx hb dX12_fogOf_126 ?_
        refine lv_topl (fun x_60 ex_60 => ?_)
        obtain ⟨hPc, hDc, hFc, hqc⟩ := cl_cut (wc := (wd_c_X12_fogOf_5 h0 h0_f0 h0_1 h0_2 h0_3 h0_4 h0_5 h0_f6 h0_f7 h0_f8 h0_f9 h0_f10 h0_f11 h0_f12 h0_f13 h0_f14 h0_15 h0_16 h0_f17 h0_18 h0_19 h0_20 h0_21 h0_22 h0_23 h0_24 h0_25 h0_f26 h0_f27 h0_f28 h0_f29 h0_f30 h0_f31 h0_32 h0_33 h0_f34 h0_35 h0_36 h0_37 h0_38 h0_39 h0_40 h0_f41 h0_f42 h0_f43 h0_f44 h0_45 h0_46 h0_47 h0_48 h0_49 h0_50 h0_f51 h0_52 h0_f53 h0_39 h0_39k h0_39c h0_38 h0_38k w_57)) hP hD hS hA [0, 1, 2] (by decide +kernel) rfl
        have hKc := hK.sub (tys' := [(h0_39k, .int), (h0_38k, .int)]) [0, 1] rfl
        have hrv := va_recv hKc hPc (ci := 12) (q0 := 0) rfl rfl
        refine va_calll (va_runV (As := [.int p1, .int 5, .int p3, .long x_60]) (rest := [.long 0]) ⟨hx, hb, hml, hown, hts⟩ (c_X12_fogOf_5 l dC dI H.size h0 p1 p3 x_60 h0_f0 h0_1 h0_2 h0_3 h0_4 h0_5 h0_f6 h0_f7 h0_f8 h0_f9 h0_f10 h0_f11 h0_f12 h0_f13 h0_f14 h0_15 h0_16 h0_f17 h0_18 h0_19 h0_20 h0_21 h0_22 h0_23 h0_24 h0_25 h0_f26 h0_f27 h0_f28 h0_f29 h0_f30 h0_f31 h0_32 h0_33 h0_f34 h0_35 h0_36 h0_37 h0_38 h0_39 h0_40 h0_f41 h0_f42 h0_f43 h0_f44 h0_45 h0_46 h0_47 h0_48 h0_49 h0_50 h0_f51 h0_52 h0_f53 h0_39k h0_39c h0_38k w_57 g_p1 g_p3 g_h0_f6 g_h0_f7 g_h0_f8 g_h0_f9 g_h0_f10 g_h0_f11 g_h0_f17 g_15 (RG_w h_29 (by decide +kernel)) g_h0_f28 g_h0_f29 g_h0_f30 g_h0_f31 g_h0_f34 g_h0_f41 g_h0_f51 g_h0_f53 a_h0_39c) (cwV 4 hts gf_c_X12_fogOf_4_c_X12_fogOf_5 rfl rfl rfl mdV_X12_fogOf ⟨Nat.le_of_ble_eq_true rfl, Nat.le_of_ble_eq_true rfl⟩) ⟨fun a U g mk q => by obtain ⟨q0, q1, qP, qK, qD⟩ := q; exact ⟨q0, q1, qP, va_K.moved (u := U) (U := U.calling g mk a) (Vm.Alike.refl U.vm) qK, qD⟩, hrv, fun U hU hW => ⟨rfl, by rw [hU], by rw [hU]; exact hPc, va_K.moved hW.alike hKc, hDc.weaken (fun _ _ _ _ => trivial)⟩⟩ rfl rfl hl.1 rfl (lv_room (Nat.le_of_ble_eq_true rfl)) dX12_fogOf_127 ⟨Nat.le_of_ble_eq_true rfl, Nat.le_of_ble_eq_true rfl⟩) hS (fun q _ h => hFc q h) hFc (fun r_61 w_62 t H1 locs ht hvm hw hB hz1 hk1 hS => ?_)
        obtain ⟨hP1, hK1, hD1⟩ := hB
        rw [ht] at hP1
        obtain ⟨hP, hD⟩ := cl_put (w1 := (wd_c_X12_fogOf_5 h0 h0_f0 h0_1 h0_2 h0_3 h0_4 h0_5 h0_f6 h0_f7 h0_f8 h0_f9 h0_f10 h0_f11 h0_f12 h0_f13 h0_f14 h0_15 h0_16 h0_f17 h0_18 h0_19 h0_20 h0_21 h0_22 h0_23 h0_24 h0_25 h0_f26 h0_f27 h0_f28 h0_f29 h0_f30 h0_f31 h0_32 h0_33 h0_f34 h0_35 h0_36 h0_37 h0_38 h0_39 h0_40 h0_f41 h0_f42 h0_f43 h0_f44 h0_45 h0_46 h0_47 h0_48 h0_49 h0_50 h0_f51 h0_52 h0_f53 h0_39 h0_39k h0_39c h0_38 h0_38k w_62)) (nw := (wd_c_X12_fogOf_4 h0 h0_f0 h0_1 h0_2 h0_3 h0_4 h0_5 h0_f6 h0_f7 h0_f8 h0_f9 h0_f10 h0_f11 h0_f12 h0_f13 h0_f14 h0_15 h0_16 h0_f17 h0_18 h0_19 h0_20 h0_21 h0_22 h0_23 h0_24 h0_25 h0_f26 h0_f27 h0_f28 h0_f29 h0_f30 h0_f31 h0_32 h0_33 h0_f34 h0_35 h0_36 h0_37 h0_38 h0_39 h0_40 h0_f41 h0_f42 h0_f43 h0_f44 h0_45 h0_46 h0_47 h0_48 h0_49 h0_50 h0_f51 h0_52 h0_f53 h0_39 h0_39k h0_39c h0_38 h0_38k w_62)) hP hD [0, 1, 2] [3, 4, 5] 3 rfl hqc (by decide +kernel) rfl hk1 hFc hP1 hD1
        generalize H1 = H at hP hS ⊢
        as_aux_lemma =>
        rcases hw with h_63 | ⟨h_64, h_65⟩
        · refine lv_ladd hx hb dX12_fogOf_130 ?_
          refine lv_topl (fun x_66 ex_66 => ?_)
          refine lv_lstore (lv' := [(8, .long x_66), (6, .long x_23), (0, .ref h0), (1, .int p1), (2, .int 4), (3, .int p3), (4, .long p4)]) hx hb dX12_fogOf_131 hl (Nat.le_of_ble_eq_true rfl) rfl (fun ls hl => ?_)
          refine lv_aload_n hx hb dX12_fogOf_133 rfl (lv_at hl 2 rfl) ?_
          refine va_get (D := (dC, dI)) (ci := 12) (v := .ref h0_38) (C := RX12) (T := TX12) (N := 54) hx hb hts iw_c_X12_fogOf_4_X12 hown hK hP 0 rfl rfl 38 (by decide +kernel) (hts (.fieldLink RX12 81 "BuoyVoteModel" "tally" "[I") (List.mem_of_getElem? (i := 9) rfl)) (fun _ h9 => h9) rfl dX12_fogOf_134 ?_
          refine lv_aload_n hx hb dX12_fogOf_137 rfl (lv_at hl 2 rfl) ?_
          refine va_get (D := (dC, dI)) (ci := 12) (v := .ref h0_39) (C := RX12) (T := TX12) (N := 54) hx hb hts iw_c_X12_fogOf_4_X12 hown hK hP 0 rfl rfl 39 (by decide +kernel) (hts (.fieldLink RX12 84 "BuoyVoteModel" "leans" "[I") (List.mem_of_getElem? (i := 2) rfl)) (fun _ h9 => h9) rfl dX12_fogOf_138 ?_
          refine lv_iload_n hx hb dX12_fogOf_141 rfl (lv_at hl 4 rfl) ?_
          refine va_iald hx hb hK hP 1 0 rfl rfl (RG_in (RG_k 4 4 rfl) (by decide +kernel)) dX12_fogOf_142 ?_
          refine lv_topi (fun x_67 ex_67 => ?_)
          obtain rfl : x_16 = x_67 := (ex_67.trans ex_16.symm).symm
          refine lv_dup2_11 hx hb dX12_fogOf_143 rfl rfl ?_
          refine va_iald hx hb hK hP 2 1 rfl rfl (RG_in g_19 (by decide +kernel)) dX12_fogOf_144 ?_
          as_aux_lemma =>
          refine lv_topi (fun x_68 ex_68 => ?_)
          refine lv_iconst (v := 1) hx hb dX12_fogOf_145 kc_iconst_1 ?_
          refine lv_isub hx hb dX12_fogOf_146 ?_
          refine lv_topi (fun x_69 ex_69 => ?_)
          refine va_iast hx hb hK hP hD hS 2 1 rfl rfl (RG_in g_19 (by decide +kernel)) dX12_fogOf_147 (fun H locs hP hD hS => ?_)
          have hP : va_P (dC, dI) vwCl (wd_c_X12_fogOf_4 h0 h0_f0 h0_1 h0_2 h0_3 h0_4 h0_5 h0_f6 h0_f7 h0_f8 h0_f9 h0_f10 h0_f11 h0_f12 h0_f13 h0_f14 h0_15 h0_16 h0_f17 h0_18 h0_19 h0_20 h0_21 h0_22 h0_23 h0_24 h0_25 h0_f26 h0_f27 h0_f28 h0_f29 h0_f30 h0_f31 h0_32 h0_33 h0_f34 h0_35 h0_36 h0_37 h0_38 h0_39 h0_40 h0_f41 h0_f42 h0_f43 h0_f44 h0_45 h0_46 h0_47 h0_48 h0_49 h0_50 h0_f51 h0_52 h0_f53 h0_39 h0_39k h0_39c h0_38 h0_38k (upd w_62 (x_16 : Int32).toNatClampNeg x_69)) H := hP
          have hD : va_D A (wd_c_X12_fogOf_4 h0 h0_f0 h0_1 h0_2 h0_3 h0_4 h0_5 h0_f6 h0_f7 h0_f8 h0_f9 h0_f10 h0_f11 h0_f12 h0_f13 h0_f14 h0_15 h0_16 h0_f17 h0_18 h0_19 h0_20 h0_21 h0_22 h0_23 h0_24 h0_25 h0_f26 h0_f27 h0_f28 h0_f29 h0_f30 h0_f31 h0_32 h0_33 h0_f34 h0_35 h0_36 h0_37 h0_38 h0_39 h0_40 h0_f41 h0_f42 h0_f43 h0_f44 h0_45 h0_46 h0_47 h0_48 h0_49 h0_50 h0_f51 h0_52 h0_f53 h0_39 h0_39k h0_39c h0_38 h0_38k (upd w_62 (x_16 : Int32).toNatClampNeg x_69)) := hD
          have l_71 : (upd w_62 (x_16 : Int32).toNatClampNeg x_69) (x_16 : Int32).toNatClampNeg = x_69 := pk_us
          generalize (upd w_62 (x_16 : Int32).toNatClampNeg x_69) = w_70 at hP hD l_71
          have hP : va_P (dC, dI) vwCl (wd_c_X12_fogOf_4 h0 h0_f0 h0_1 h0_2 h0_3 h0_4 h0_5 h0_f6 h0_f7 h0_f8 h0_f9 h0_f10 h0_f11 h0_f12 h0_f13 h0_f14 h0_15 h0_16 h0_f17 h0_18 h0_19 h0_20 h0_21 h0_22 h0_23 h0_24 h0_25 h0_f26 h0_f27 h0_f28 h0_f29 h0_f30 h0_f31 h0_32 h0_33 h0_f34 h0_35 h0_36 h0_37 h0_38 h0_39 h0_40 h0_f41 h0_f42 h0_f43 h0_f44 h0_45 h0_46 h0_47 h0_48 h0_49 h0_50 h0_f51 h0_52 h0_f53 h0_39 h0_39k h0_39c h0_38 h0_38k w_70) H := hP
          have hD : va_D A (wd_c_X12_fogOf_4 h0 h0_f0 h0_1 h0_2 h0_3 h0_4 h0_5 h0_f6 h0_f7 h0_f8 h0_f9 h0_f10 h0_f11 h0_f12 h0_f13 h0_f14 h0_15 h0_16 h0_f17 h0_18 h0_19 h0_20 h0_21 h0_22 h0_23 h0_24 h0_25 h0_f26 h0_f27 h0_f28 h0_f29 h0_f30 h0_f31 h0_32 h0_33 h0_f34 h0_35 h0_36 h0_37 h0_38 h0_39 h0_40 h0_f41 h0_f42 h0_f43 h0_f44 h0_45 h0_46 h0_47 h0_48 h0_49 h0_50 h0_f51 h0_52 h0_f53 h0_39 h0_39k h0_39c h0_38 h0_38k w_70) := hD
          refine lv_lload hx hb dX12_fogOf_148 (lv_at hl 0 rfl) ?_
          have hK9 := hK.sub (tys' := []) [] rfl
          exact W.lret (v := x_66) hx hb hr (fun t ht hW => ⟨⟨x_66, w_70, rfl, (Or.inl (LG_any x_66)), by rw [ht]; exact hP, va_K.moved hW.alike hK9, hD⟩, hS.F ht⟩) hS.2.2 dX12_fogOf_150
        · rw [h_64]
          refine lv_ladd hx hb dX12_fogOf_130 ?_
          as_aux_lemma =>
          refine lv_topl (fun x_72 ex_72 => ?_)
          obtain rfl : x_72 = 0 := ex_72.trans (by decide +kernel)
          refine lv_lstore (lv' := [(8, .long 0), (6, .long x_23), (0, .ref h0), (1, .int p1), (2, .int 4), (3, .int p3), (4, .long p4)]) hx hb dX12_fogOf_131 hl (Nat.le_of_ble_eq_true rfl) rfl (fun ls hl => ?_)
          refine lv_aload_n hx hb dX12_fogOf_133 rfl (lv_at hl 2 rfl) ?_
          refine va_get (D := (dC, dI)) (ci := 12) (v := .ref h0_38) (C := RX12) (T := TX12) (N := 54) hx hb hts iw_c_X12_fogOf_4_X12 hown hK hP 0 rfl rfl 38 (by decide +kernel) (hts (.fieldLink RX12 81 "BuoyVoteModel" "tally" "[I") (List.mem_of_getElem? (i := 9) rfl)) (fun _ h9 => h9) rfl dX12_fogOf_134 ?_
          refine lv_aload_n hx hb dX12_fogOf_137 rfl (lv_at hl 2 rfl) ?_
          refine va_get (D := (dC, dI)) (ci := 12) (v := .ref h0_39) (C := RX12) (T := TX12) (N := 54) hx hb hts iw_c_X12_fogOf_4_X12 hown hK hP 0 rfl rfl 39 (by decide +kernel) (hts (.fieldLink RX12 84 "BuoyVoteModel" "leans" "[I") (List.mem_of_getElem? (i := 2) rfl)) (fun _ h9 => h9) rfl dX12_fogOf_138 ?_
          refine lv_iload_n hx hb dX12_fogOf_141 rfl (lv_at hl 4 rfl) ?_
          refine va_iald hx hb hK hP 1 0 rfl rfl (RG_in (RG_k 4 4 rfl) (by decide +kernel)) dX12_fogOf_142 ?_
          refine lv_topi (fun x_73 ex_73 => ?_)
          obtain rfl : x_16 = x_73 := (ex_73.trans ex_16.symm).symm
          refine lv_dup2_11 hx hb dX12_fogOf_143 rfl rfl ?_
          refine va_iald hx hb hK hP 2 1 rfl rfl (RG_in g_19 (by decide +kernel)) dX12_fogOf_144 ?_
          refine lv_topi (fun x_74 ex_74 => ?_)
          as_aux_lemma =>
          refine lv_iconst (v := 1) hx hb dX12_fogOf_145 kc_iconst_1 ?_
          refine lv_isub hx hb dX12_fogOf_146 ?_
          refine lv_topi (fun x_75 ex_75 => ?_)
          refine va_iast hx hb hK hP hD hS 2 1 rfl rfl (RG_in g_19 (by decide +kernel)) dX12_fogOf_147 (fun H locs hP hD hS => ?_)
          have hP : va_P (dC, dI) vwCl (wd_c_X12_fogOf_4 h0 h0_f0 h0_1 h0_2 h0_3 h0_4 h0_5 h0_f6 h0_f7 h0_f8 h0_f9 h0_f10 h0_f11 h0_f12 h0_f13 h0_f14 h0_15 h0_16 h0_f17 h0_18 h0_19 h0_20 h0_21 h0_22 h0_23 h0_24 h0_25 h0_f26 h0_f27 h0_f28 h0_f29 h0_f30 h0_f31 h0_32 h0_33 h0_f34 h0_35 h0_36 h0_37 h0_38 h0_39 h0_40 h0_f41 h0_f42 h0_f43 h0_f44 h0_45 h0_46 h0_47 h0_48 h0_49 h0_50 h0_f51 h0_52 h0_f53 h0_39 h0_39k h0_39c h0_38 h0_38k (upd w_62 (x_16 : Int32).toNatClampNeg x_75)) H := hP
          have hD : va_D A (wd_c_X12_fogOf_4 h0 h0_f0 h0_1 h0_2 h0_3 h0_4 h0_5 h0_f6 h0_f7 h0_f8 h0_f9 h0_f10 h0_f11 h0_f12 h0_f13 h0_f14 h0_15 h0_16 h0_f17 h0_18 h0_19 h0_20 h0_21 h0_22 h0_23 h0_24 h0_25 h0_f26 h0_f27 h0_f28 h0_f29 h0_f30 h0_f31 h0_32 h0_33 h0_f34 h0_35 h0_36 h0_37 h0_38 h0_39 h0_40 h0_f41 h0_f42 h0_f43 h0_f44 h0_45 h0_46 h0_47 h0_48 h0_49 h0_50 h0_f51 h0_52 h0_f53 h0_39 h0_39k h0_39c h0_38 h0_38k (upd w_62 (x_16 : Int32).toNatClampNeg x_75)) := hD
          have l_77 : (upd w_62 (x_16 : Int32).toNatClampNeg x_75) (x_16 : Int32).toNatClampNeg = x_75 := pk_us
          generalize (upd w_62 (x_16 : Int32).toNatClampNeg x_75) = w_76 at hP hD l_77
          have hP : va_P (dC, dI) vwCl (wd_c_X12_fogOf_4 h0 h0_f0 h0_1 h0_2 h0_3 h0_4 h0_5 h0_f6 h0_f7 h0_f8 h0_f9 h0_f10 h0_f11 h0_f12 h0_f13 h0_f14 h0_15 h0_16 h0_f17 h0_18 h0_19 h0_20 h0_21 h0_22 h0_23 h0_24 h0_25 h0_f26 h0_f27 h0_f28 h0_f29 h0_f30 h0_f31 h0_32 h0_33 h0_f34 h0_35 h0_36 h0_37 h0_38 h0_39 h0_40 h0_f41 h0_f42 h0_f43 h0_f44 h0_45 h0_46 h0_47 h0_48 h0_49 h0_50 h0_f51 h0_52 h0_f53 h0_39 h0_39k h0_39c h0_38 h0_38k w_76) H := hP
          have hD : va_D A (wd_c_X12_fogOf_4 h0 h0_f0 h0_1 h0_2 h0_3 h0_4 h0_5 h0_f6 h0_f7 h0_f8 h0_f9 h0_f10 h0_f11 h0_f12 h0_f13 h0_f14 h0_15 h0_16 h0_f17 h0_18 h0_19 h0_20 h0_21 h0_22 h0_23 h0_24 h0_25 h0_f26 h0_f27 h0_f28 h0_f29 h0_f30 h0_f31 h0_32 h0_33 h0_f34 h0_35 h0_36 h0_37 h0_38 h0_39 h0_40 h0_f41 h0_f42 h0_f43 h0_f44 h0_45 h0_46 h0_47 h0_48 h0_49 h0_50 h0_f51 h0_52 h0_f53 h0_39 h0_39k h0_39c h0_38 h0_38k w_76) := hD
          refine lv_lload hx hb dX12_fogOf_148 (lv_at hl 0 rfl) ?_
          have hK9 := hK.sub (tys' := []) [] rfl
          exact W.lret (v := 0) hx hb hr (fun t ht hW => ⟨⟨0, w_76, rfl, (Or.inr ⟨rfl, h_29⟩), by rw [ht]; exact hP, va_K.moved hW.alike hK9, hD⟩, hS.F ht⟩) hS.2.2 dX12_fogOf_150
    · have g_78 : RG x_16 (-1) (-1) := RG_eq1 g_17 (RG_k (-1) (-1) rfl) c_18 (by decide +kernel)
      refine lv_aload_n hx hb dX12_fogOf_63 rfl (lv_at hl 0 rfl) ?_
      as_aux_lemma =>
      refine lv_iload_n hx hb dX12_fogOf_64 rfl (lv_at hl 1 rfl) ?_
      refine lv_iload_n hx hb dX12_fogOf_65 rfl (lv_at hl 2 rfl) ?_
      refine lv_iconst (v := 1) hx hb dX12_fogOf_66 kc_iconst_1 ?_
      refine lv_iadd hx hb dX12_fogOf_67 ?_
      refine lv_topi (fun x_79 ex_79 => ?_)
      obtain rfl : x_79 = 5 := ex_79.trans (by decide +kernel)
      refine lv_iload_n hx hb dX12_fogOf_68 rfl (lv_at hl 3 rfl) ?_
      refine lv_lload hx hb dX12_fogOf_69 (lv_at hl 4 rfl) ?_
      obtain ⟨hPc, hDc, hFc, hqc⟩ := cl_cut (wc := (wd_c_X12_fogOf_5 h0 h0_f0 h0_1 h0_2 h0_3 h0_4 h0_5 h0_f6 h0_f7 h0_f8 h0_f9 h0_f10 h0_f11 h0_f12 h0_f13 h0_f14 h0_15 h0_16 h0_f17 h0_18 h0_19 h0_20 h0_21 h0_22 h0_23 h0_24 h0_25 h0_f26 h0_f27 h0_f28 h0_f29 h0_f30 h0_f31 h0_32 h0_33 h0_f34 h0_35 h0_36 h0_37 h0_38 h0_39 h0_40 h0_f41 h0_f42 h0_f43 h0_f44 h0_45 h0_46 h0_47 h0_48 h0_49 h0_50 h0_f51 h0_52 h0_f53 h0_39 h0_39k h0_39c h0_38 h0_38k h0_38c)) hP hD hS hA [0, 1, 2] (by decide +kernel) rfl
      have hKc := hK.sub (tys' := [(h0_39k, .int), (h0_38k, .int)]) [0, 1] rfl
      have hrv := va_recv hKc hPc (ci := 12) (q0 := 0) rfl rfl
      refine va_calll (va_runV (As := [.int p1, .int 5, .int p3, .long p4]) (rest := []) ⟨hx, hb, hml, hown, hts⟩ (c_X12_fogOf_5 l dC dI H.size h0 p1 p3 p4 h0_f0 h0_1 h0_2 h0_3 h0_4 h0_5 h0_f6 h0_f7 h0_f8 h0_f9 h0_f10 h0_f11 h0_f12 h0_f13 h0_f14 h0_15 h0_16 h0_f17 h0_18 h0_19 h0_20 h0_21 h0_22 h0_23 h0_24 h0_25 h0_f26 h0_f27 h0_f28 h0_f29 h0_f30 h0_f31 h0_32 h0_33 h0_f34 h0_35 h0_36 h0_37 h0_38 h0_39 h0_40 h0_f41 h0_f42 h0_f43 h0_f44 h0_45 h0_46 h0_47 h0_48 h0_49 h0_50 h0_f51 h0_52 h0_f53 h0_39k h0_39c h0_38k h0_38c g_p1 g_p3 g_h0_f6 g_h0_f7 g_h0_f8 g_h0_f9 g_h0_f10 g_h0_f11 g_h0_f17 g_15 g_h0_f27 g_h0_f28 g_h0_f29 g_h0_f30 g_h0_f31 g_h0_f34 g_h0_f41 g_h0_f51 g_h0_f53 a_h0_39c) (cwV 4 hts gf_c_X12_fogOf_4_c_X12_fogOf_5 rfl rfl rfl mdV_X12_fogOf ⟨Nat.le_of_ble_eq_true rfl, Nat.le_of_ble_eq_true rfl⟩) ⟨fun a U g mk q => by obtain ⟨q0, q1, qP, qK, qD⟩ := q; exact ⟨q0, q1, qP, va_K.moved (u := U) (U := U.calling g mk a) (Vm.Alike.refl U.vm) qK, qD⟩, hrv, fun U hU hW => ⟨rfl, by rw [hU], by rw [hU]; exact hPc, va_K.moved hW.alike hKc, hDc.weaken (fun _ _ _ _ => trivial)⟩⟩ rfl rfl hl.1 rfl (lv_room (Nat.le_of_ble_eq_true rfl)) dX12_fogOf_71 ⟨Nat.le_of_ble_eq_true rfl, Nat.le_of_ble_eq_true rfl⟩) hS (fun q _ h => hFc q h) hFc (fun r_80 w_81 t H1 locs ht hvm hw hB hz1 hk1 hS => ?_)
      obtain ⟨hP1, hK1, hD1⟩ := hB
      rw [ht] at hP1
      obtain ⟨hP, hD⟩ := cl_put (w1 := (wd_c_X12_fogOf_5 h0 h0_f0 h0_1 h0_2 h0_3 h0_4 h0_5 h0_f6 h0_f7 h0_f8 h0_f9 h0_f10 h0_f11 h0_f12 h0_f13 h0_f14 h0_15 h0_16 h0_f17 h0_18 h0_19 h0_20 h0_21 h0_22 h0_23 h0_24 h0_25 h0_f26 h0_f27 h0_f28 h0_f29 h0_f30 h0_f31 h0_32 h0_33 h0_f34 h0_35 h0_36 h0_37 h0_38 h0_39 h0_40 h0_f41 h0_f42 h0_f43 h0_f44 h0_45 h0_46 h0_47 h0_48 h0_49 h0_50 h0_f51 h0_52 h0_f53 h0_39 h0_39k h0_39c h0_38 h0_38k w_81)) (nw := (wd_c_X12_fogOf_4 h0 h0_f0 h0_1 h0_2 h0_3 h0_4 h0_5 h0_f6 h0_f7 h0_f8 h0_f9 h0_f10 h0_f11 h0_f12 h0_f13 h0_f14 h0_15 h0_16 h0_f17 h0_18 h0_19 h0_20 h0_21 h0_22 h0_23 h0_24 h0_25 h0_f26 h0_f27 h0_f28 h0_f29 h0_f30 h0_f31 h0_32 h0_33 h0_f34 h0_35 h0_36 h0_37 h0_38 h0_39 h0_40 h0_f41 h0_f42 h0_f43 h0_f44 h0_45 h0_46 h0_47 h0_48 h0_49 h0_50 h0_f51 h0_52 h0_f53 h0_39 h0_39k h0_39c h0_38 h0_38k w_81)) hP hD [0, 1, 2] [3, 4, 5] 3 rfl hqc (by decide +kernel) rfl hk1 hFc hP1 hD1
      generalize H1 = H at hP hS ⊢
      as_aux_lemma =>
      rcases hw with h_82 | ⟨h_83, h_84⟩
      · have hK9 := hK.sub (tys' := []) [] rfl
        exact W.lret (v := r_80) hx hb hr (fun t ht hW => ⟨⟨r_80, w_81, rfl, (Or.inl h_82), by rw [ht]; exact hP, va_K.moved hW.alike hK9, hD⟩, hS.F ht⟩) hS.2.2 dX12_fogOf_74
      · rw [h_83]
        have hK9 := hK.sub (tys' := []) [] rfl
        exact W.lret (v := 0) hx hb hr (fun t ht hW => ⟨⟨0, w_81, rfl, (Or.inr ⟨rfl, h_84⟩), by rw [ht]; exact hP, va_K.moved hW.alike hK9, hD⟩, hS.F ht⟩) hS.2.2 dX12_fogOf_74
  · have g_85 : RG h0_f26 4 4 := RG_eq1 g_h0_f26 (RG_k 4 4 rfl) c_14.symm (by decide +kernel)
    refine lv_iconst (v := 0) hx hb dX12_fogOf_8 kc_iconst_0 ?_
    refine lv_istore (lv' := [(6, .int 0), (0, .ref h0), (1, .int p1), (2, .int 4), (3, .int p3), (4, .long p4)]) hx hb dX12_fogOf_9 hl (Nat.le_of_ble_eq_true rfl) rfl (fun ls hl => ?_)
    exact hU _ _ _ (J11 _ 0 (Nat.lt_succ_self _) g_h0_f10 g_h0_f11 g_h0_f17 g_85 g_h0_f27 g_h0_f28 g_h0_f29 g_h0_f30 g_h0_f31 g_h0_f34 g_h0_f41 g_h0_f51 g_h0_f53 g_h0_f6 g_h0_f7 g_h0_f8 g_h0_f9 (RG_w (RG_k 0 0 rfl) (by decide +kernel)) g_p1 g_p3 _ _ _ hP hD hS (lv_sub hl [0, 1, 2, 5] rfl))
noncomputable def wd_c_X12_fogOf_3 (a0 : Nat) (a1 : Int32) (a2 : Nat) (a3 : Nat) (a4 : Nat) (a5 : Nat) (a6 : Nat) (a7 : Int32) (a8 : Int32) (a9 : Int32) (a10 : Int32) (a11 : Int32) (a12 : Int32) (a13 : Int32) (a14 : Int32) (a15 : Int32) (a16 : Nat) (a17 : Nat) (a18 : Int32) (a19 : Nat) (a20 : Nat) (a21 : Nat) (a22 : Nat) (a23 : Nat) (a24 : Nat) (a25 : Nat) (a26 : Nat) (a27 : Int32) (a28 : Int32) (a29 : Int32) (a30 : Int32) (a31 : Int32) (a32 : Int32) (a33 : Nat) (a34 : Nat) (a35 : Int32) (a36 : Nat) (a37 : Nat) (a38 : Nat) (a39 : Nat) (a40 : Nat) (a41 : Nat) (a42 : Int32) (a43 : Int64) (a44 : Int32) (a45 : Int32) (a46 : Nat) (a47 : Nat) (a48 : Nat) (a49 : Nat) (a50 : Nat) (a51 : Nat) (a52 : Int32) (a53 : Nat) (a54 : Int32) (a55 : Nat) (a56 : ClassId) (a57 : Nat → Int32) (a58 : Nat) (a59 : ClassId) (a60 : Nat → Int32) : va_W := [(a0, .inr (12, [.int a1, .ref a2, .ref a3, .ref a4, .ref a5, .ref a6, .int a7, .int a8, .int a9, .int a10, .int a11, .int a12, .int a13, .int a14, .int a15, .ref a16, .ref a17, .int a18, .ref a19, .ref a20, .ref a21, .ref a22, .ref a23, .ref a24, .ref a25, .ref a26, .int a27, .int a28, .int a29, .int a30, .int a31, .int a32, .ref a33, .ref a34, .int a35, .ref a36, .ref a37, .ref a38, .ref a39, .ref a40, .ref a41, .int a42, .long a43, .int a44, .int a45, .ref a46, .ref a47, .ref a48, .ref a49, .ref a50, .ref a51, .int a52, .ref a53, .int a54])), (a55, .inl (a56, 8, .inl a57)), (a58, .inl (a59, 3, .inl a60))]
noncomputable def wf_c_X12_fogOf_3 : List Cond := List.cons (.code yX12_fogOf cX12_fogOf 10 (some .long)) (@HAppend.hAppend (List Cond) (List Cond) (List Cond) _ [.fieldLink RX12 309 "BuoyVoteModel" "buoys" "I", .fieldLink RX12 84 "BuoyVoteModel" "leans" "[I", .constantLong RX12 545 (100), .methodLink RX12 541 yX12_fogOf, .instanceMethod yX12_fogOf, .selects RX12 yX12_fogOf yX12_fogOf, .initialized RX12, .fieldLink RX12 312 "BuoyVoteModel" "boats" "I", .fieldLink RX12 81 "BuoyVoteModel" "tally" "[I"] wsX120)
theorem iw_c_X12_fogOf_3_X12 : ∀ w ∈ wsX120, w ∈ wf_c_X12_fogOf_3 := fun w h => List.mem_cons_of_mem _ (List.mem_append_right _ h)
set_option maxRecDepth 20000 in
theorem gf_c_X12_fogOf_3_c_X12_fogOf_4 : GoodIn wf_c_X12_fogOf_3 (wsV RX12 541 RX12 yX12_fogOf wf_c_X12_fogOf_4) := goodIn_app (gi_l [4, 5, 6, 7] rfl rfl) (gi_cons (j := 0) rfl rfl (goodIn_app (gi_l [1, 2, 3, 4, 5, 6, 7, 8, 9] rfl rfl) (goodIn_sub iw_c_X12_fogOf_3_X12 gw_X12)))
set_option maxHeartbeats 4000000 in
set_option maxRecDepth 100000 in
theorem c_X12_fogOf_3 (l : Launch) (dC : Nat → ClassId) (dI : Nat → Nat → Nat) (sz : Nat) (h0 : Nat) (p1 : Int32) (p3 : Int32) (p4 : Int64) (h0_f0 : Int32) (h0_1 : Nat) (h0_2 : Nat) (h0_3 : Nat) (h0_4 : Nat) (h0_5 : Nat) (h0_f6 : Int32) (h0_f7 : Int32) (h0_f8 : Int32) (h0_f9 : Int32) (h0_f10 : Int32) (h0_f11 : Int32) (h0_f12 : Int32) (h0_f13 : Int32) (h0_f14 : Int32) (h0_15 : Nat) (h0_16 : Nat) (h0_f17 : Int32) (h0_18 : Nat) (h0_19 : Nat) (h0_20 : Nat) (h0_21 : Nat) (h0_22 : Nat) (h0_23 : Nat) (h0_24 : Nat) (h0_25 : Nat) (h0_f26 : Int32) (h0_f27 : Int32) (h0_f28 : Int32) (h0_f29 : Int32) (h0_f30 : Int32) (h0_f31 : Int32) (h0_32 : Nat) (h0_33 : Nat) (h0_f34 : Int32) (h0_35 : Nat) (h0_36 : Nat) (h0_37 : Nat) (h0_38 : Nat) (h0_39 : Nat) (h0_40 : Nat) (h0_f41 : Int32) (h0_f42 : Int64) (h0_f43 : Int32) (h0_f44 : Int32) (h0_45 : Nat) (h0_46 : Nat) (h0_47 : Nat) (h0_48 : Nat) (h0_49 : Nat) (h0_50 : Nat) (h0_f51 : Int32) (h0_52 : Nat) (h0_f53 : Int32) (h0_39k : ClassId) (h0_39c : Nat → Int32) (h0_38k : ClassId) (h0_38c : Nat → Int32) (g_p1 : RG p1 0 2) (g_p3 : RG p3 0 100) (g_h0_f6 : RG h0_f6 0 240) (g_h0_f7 : RG h0_f7 0 4) (g_h0_f8 : RG h0_f8 0 720) (g_h0_f9 : RG h0_f9 0 240) (g_h0_f10 : RG h0_f10 0 240) (g_h0_f11 : RG h0_f11 (-1) 240) (g_h0_f17 : RG h0_f17 0 1) (g_h0_f26 : RG h0_f26 3 8) (g_h0_f27 : RG h0_f27 0 3) (g_h0_f28 : RG h0_f28 0 8) (g_h0_f29 : RG h0_f29 0 3) (g_h0_f30 : RG h0_f30 0 4) (g_h0_f31 : RG h0_f31 0 1) (g_h0_f34 : RG h0_f34 (-1) 3) (g_h0_f41 : RG h0_f41 0 40) (g_h0_f51 : RG h0_f51 0 10) (g_h0_f53 : RG h0_f53 0 1) (a_h0_39c : AI h0_39c (-1) 2) : Met l yX12_fogOf wf_c_X12_fogOf_3 ({ frames := 5, cells := 0, slots := 0, locals := 145 }) (va_Pc [.ref h0, .int p1, .int 3, .int p3, .long p4] (fun U => U.heap.size = sz ∧ va_P (dC, dI) vwCl (wd_c_X12_fogOf_3 h0 h0_f0 h0_1 h0_2 h0_3 h0_4 h0_5 h0_f6 h0_f7 h0_f8 h0_f9 h0_f10 h0_f11 h0_f12 h0_f13 h0_f14 h0_15 h0_16 h0_f17 h0_18 h0_19 h0_20 h0_21 h0_22 h0_23 h0_24 h0_25 h0_f26 h0_f27 h0_f28 h0_f29 h0_f30 h0_f31 h0_32 h0_33 h0_f34 h0_35 h0_36 h0_37 h0_38 h0_39 h0_40 h0_f41 h0_f42 h0_f43 h0_f44 h0_45 h0_46 h0_47 h0_48 h0_49 h0_50 h0_f51 h0_52 h0_f53 h0_39 h0_39k h0_39c h0_38 h0_38k h0_38c) U.heap ∧ va_K (dC, dI) vwCl [(h0_39k, .int), (h0_38k, .int)] U ∧ va_D (fun _ => True) (wd_c_X12_fogOf_3 h0 h0_f0 h0_1 h0_2 h0_3 h0_4 h0_5 h0_f6 h0_f7 h0_f8 h0_f9 h0_f10 h0_f11 h0_f12 h0_f13 h0_f14 h0_15 h0_16 h0_f17 h0_18 h0_19 h0_20 h0_21 h0_22 h0_23 h0_24 h0_25 h0_f26 h0_f27 h0_f28 h0_f29 h0_f30 h0_f31 h0_32 h0_33 h0_f34 h0_35 h0_36 h0_37 h0_38 h0_39 h0_40 h0_f41 h0_f42 h0_f43 h0_f44 h0_45 h0_46 h0_47 h0_48 h0_49 h0_50 h0_f51 h0_52 h0_f53 h0_39 h0_39k h0_39c h0_38 h0_38k h0_38c))) (va_Ql (fun (r : Int64) (u : (Nat → Int32)) => (LG r (-9223372036854775808) 9223372036854775807) ∨ (r = 0 ∧ RG h0_f27 1 3)) (fun (u : (Nat → Int32)) t => va_P (dC, dI) vwCl (wd_c_X12_fogOf_3 h0 h0_f0 h0_1 h0_2 h0_3 h0_4 h0_5 h0_f6 h0_f7 h0_f8 h0_f9 h0_f10 h0_f11 h0_f12 h0_f13 h0_f14 h0_15 h0_16 h0_f17 h0_18 h0_19 h0_20 h0_21 h0_22 h0_23 h0_24 h0_25 h0_f26 h0_f27 h0_f28 h0_f29 h0_f30 h0_f31 h0_32 h0_33 h0_f34 h0_35 h0_36 h0_37 h0_38 h0_39 h0_40 h0_f41 h0_f42 h0_f43 h0_f44 h0_45 h0_46 h0_47 h0_48 h0_49 h0_50 h0_f51 h0_52 h0_f53 h0_39 h0_39k h0_39c h0_38 h0_38k (u)) t.heap ∧ va_K (dC, dI) vwCl [] t ∧ va_D (va_A (wd_c_X12_fogOf_3 h0 h0_f0 h0_1 h0_2 h0_3 h0_4 h0_5 h0_f6 h0_f7 h0_f8 h0_f9 h0_f10 h0_f11 h0_f12 h0_f13 h0_f14 h0_15 h0_16 h0_f17 h0_18 h0_19 h0_20 h0_21 h0_22 h0_23 h0_24 h0_25 h0_f26 h0_f27 h0_f28 h0_f29 h0_f30 h0_f31 h0_32 h0_33 h0_f34 h0_35 h0_36 h0_37 h0_38 h0_39 h0_40 h0_f41 h0_f42 h0_f43 h0_f44 h0_45 h0_46 h0_47 h0_48 h0_49 h0_50 h0_f51 h0_52 h0_f53 h0_39 h0_39k h0_39c h0_38 h0_38k h0_38c) sz) (wd_c_X12_fogOf_3 h0 h0_f0 h0_1 h0_2 h0_3 h0_4 h0_5 h0_f6 h0_f7 h0_f8 h0_f9 h0_f10 h0_f11 h0_f12 h0_f13 h0_f14 h0_15 h0_16 h0_f17 h0_18 h0_19 h0_20 h0_21 h0_22 h0_23 h0_24 h0_25 h0_f26 h0_f27 h0_f28 h0_f29 h0_f30 h0_f31 h0_32 h0_33 h0_f34 h0_35 h0_36 h0_37 h0_38 h0_39 h0_40 h0_f41 h0_f42 h0_f43 h0_f44 h0_45 h0_46 h0_47 h0_48 h0_49 h0_50 h0_f51 h0_52 h0_f53 h0_39 h0_39k h0_39c h0_38 h0_38k (u))) (va_A (wd_c_X12_fogOf_3 h0 h0_f0 h0_1 h0_2 h0_3 h0_4 h0_5 h0_f6 h0_f7 h0_f8 h0_f9 h0_f10 h0_f11 h0_f12 h0_f13 h0_f14 h0_15 h0_16 h0_f17 h0_18 h0_19 h0_20 h0_21 h0_22 h0_23 h0_24 h0_25 h0_f26 h0_f27 h0_f28 h0_f29 h0_f30 h0_f31 h0_32 h0_33 h0_f34 h0_35 h0_36 h0_37 h0_38 h0_39 h0_40 h0_f41 h0_f42 h0_f43 h0_f44 h0_45 h0_46 h0_47 h0_48 h0_49 h0_50 h0_f51 h0_52 h0_f53 h0_39 h0_39k h0_39c h0_38 h0_38k h0_38c) sz)) 0 0 (va_A (wd_c_X12_fogOf_3 h0 h0_f0 h0_1 h0_2 h0_3 h0_4 h0_5 h0_f6 h0_f7 h0_f8 h0_f9 h0_f10 h0_f11 h0_f12 h0_f13 h0_f14 h0_15 h0_16 h0_f17 h0_18 h0_19 h0_20 h0_21 h0_22 h0_23 h0_24 h0_25 h0_f26 h0_f27 h0_f28 h0_f29 h0_f30 h0_f31 h0_32 h0_33 h0_f34 h0_35 h0_36 h0_37 h0_38 h0_39 h0_40 h0_f41 h0_f42 h0_f43 h0_f44 h0_45 h0_46 h0_47 h0_48 h0_49 h0_50 h0_f51 h0_52 h0_f53 h0_39 h0_39k h0_39c h0_38 h0_38k h0_38c) sz) := by
  refine Met.ofW (cc := cX12_fogOf) (maxL := 10) (ret := (some .long)) (by decide +kernel) rfl ?_
  intro p e s m args below meth c s₁ B hml hv
  obtain ⟨rfl, hsz, hP, hK, hD0⟩ := hv
  have hx := B.exec
  have hb := B.bytes
  have hr := B.returns
  have hts := atoms_spec (ws := wf_c_X12_fogOf_3) B.pre
  have hown : s.vm.findClass RX12 = some m.cls := findClass_of_methodNamed B.named
  have hlocks := B.notSynchronized
  subst hsz
  have hD := hD0.self (sz := s.heap.size)
  generalize hAe : va_A (wd_c_X12_fogOf_3 h0 h0_f0 h0_1 h0_2 h0_3 h0_4 h0_5 h0_f6 h0_f7 h0_f8 h0_f9 h0_f10 h0_f11 h0_f12 h0_f13 h0_f14 h0_15 h0_16 h0_f17 h0_18 h0_19 h0_20 h0_21 h0_22 h0_23 h0_24 h0_25 h0_f26 h0_f27 h0_f28 h0_f29 h0_f30 h0_f31 h0_32 h0_33 h0_f34 h0_35 h0_36 h0_37 h0_38 h0_39 h0_40 h0_f41 h0_f42 h0_f43 h0_f44 h0_45 h0_46 h0_47 h0_48 h0_49 h0_50 h0_f51 h0_52 h0_f53 h0_39 h0_39k h0_39c h0_38 h0_38k h0_38c) s.heap.size = A at hD ⊢
  have hA : ∀ q : Nat, s.heap.size ≤ q → A q := fun q h => by rw [← hAe]; exact Or.inr h
  have hP : va_P (dC, dI) vwCl (wd_c_X12_fogOf_3 h0 h0_f0 h0_1 h0_2 h0_3 h0_4 h0_5 h0_f6 h0_f7 h0_f8 h0_f9 h0_f10 h0_f11 h0_f12 h0_f13 h0_f14 h0_15 h0_16 h0_f17 h0_18 h0_19 h0_20 h0_21 h0_22 h0_23 h0_24 h0_25 h0_f26 h0_f27 h0_f28 h0_f29 h0_f30 h0_f31 h0_32 h0_33 h0_f34 h0_35 h0_36 h0_37 h0_38 h0_39 h0_40 h0_f41 h0_f42 h0_f43 h0_f44 h0_45 h0_46 h0_47 h0_48 h0_49 h0_50 h0_f51 h0_52 h0_f53 h0_39 h0_39k h0_39c h0_38 h0_38k h0_38c) s.heap := hP
  have hl := lv_entry ([.ref h0, .int p1, .int 3, .int p3, .long p4]) (n := 10) (Nat.le_of_ble_eq_true rfl)
  rw [lg_entry_eq]
  generalize (lg_sl ([.ref h0, .int p1, .int 3, .int p3, .long p4]) ++ List.replicate (10 - (lg_sl ([.ref h0, .int p1, .int 3, .int p3, .long p4])).length) Slot.unset).toArray = ls at hl ⊢
  have hl : lv_has ls 10 [(0, .ref h0), (1, .int p1), (2, .int 3), (3, .int p3), (4, .long p4)] := hl
  obtain ⟨H, hHe⟩ : ∃ H : Heap, s.heap = H := ⟨_, rfl⟩
  have hS : va_S A s.heap H [] := by rw [hHe]; exact va_S.rf
  have hP : va_P (dC, dI) vwCl (wd_c_X12_fogOf_3 h0 h0_f0 h0_1 h0_2 h0_3 h0_4 h0_5 h0_f6 h0_f7 h0_f8 h0_f9 h0_f10 h0_f11 h0_f12 h0_f13 h0_f14 h0_15 h0_16 h0_f17 h0_18 h0_19 h0_20 h0_21 h0_22 h0_23 h0_24 h0_25 h0_f26 h0_f27 h0_f28 h0_f29 h0_f30 h0_f31 h0_32 h0_33 h0_f34 h0_35 h0_36 h0_37 h0_38 h0_39 h0_40 h0_f41 h0_f42 h0_f43 h0_f44 h0_45 h0_46 h0_47 h0_48 h0_49 h0_50 h0_f51 h0_52 h0_f53 h0_39 h0_39k h0_39c h0_38 h0_38k h0_38c) H := by rw [← hHe]; exact hP
  rw [hHe]
  refine wj (fun G hG hU => ?_)
  as_aux_lemma =>
  have J11 : ∀ (n11 : Nat) (j11_l6 : Int32) (hM11 : MU j11_l6 < n11) (g_h0_f10 : RG h0_f10 0 240) (g_h0_f11 : RG h0_f11 (-1) 240) (g_h0_f17 : RG h0_f17 0 1) (g_h0_f26 : RG h0_f26 3 3) (g_h0_f27 : RG h0_f27 0 3) (g_h0_f28 : RG h0_f28 0 8) (g_h0_f29 : RG h0_f29 0 3) (g_h0_f30 : RG h0_f30 0 4) (g_h0_f31 : RG h0_f31 0 1) (g_h0_f34 : RG h0_f34 (-1) 3) (g_h0_f41 : RG h0_f41 0 40) (g_h0_f51 : RG h0_f51 0 10) (g_h0_f53 : RG h0_f53 0 1) (g_h0_f6 : RG h0_f6 0 240) (g_h0_f7 : RG h0_f7 0 4) (g_h0_f8 : RG h0_f8 0 720) (g_h0_f9 : RG h0_f9 0 240) (g_j11_l6 : RG j11_l6 0 3) (g_p1 : RG p1 0 2) (g_p3 : RG p3 0 100) (H : Heap) (locs : List Loc) (ls : Array Slot) (hP : va_P (dC, dI) vwCl (wd_c_X12_fogOf_3 h0 h0_f0 h0_1 h0_2 h0_3 h0_4 h0_5 h0_f6 h0_f7 h0_f8 h0_f9 h0_f10 h0_f11 h0_f12 h0_f13 h0_f14 h0_15 h0_16 h0_f17 h0_18 h0_19 h0_20 h0_21 h0_22 h0_23 h0_24 h0_25 h0_f26 h0_f27 h0_f28 h0_f29 h0_f30 h0_f31 h0_32 h0_33 h0_f34 h0_35 h0_36 h0_37 h0_38 h0_39 h0_40 h0_f41 h0_f42 h0_f43 h0_f44 h0_45 h0_46 h0_47 h0_48 h0_49 h0_50 h0_f51 h0_52 h0_f53 h0_39 h0_39k h0_39c h0_38 h0_38k h0_38c) H) (hD : va_D A (wd_c_X12_fogOf_3 h0 h0_f0 h0_1 h0_2 h0_3 h0_4 h0_5 h0_f6 h0_f7 h0_f8 h0_f9 h0_f10 h0_f11 h0_f12 h0_f13 h0_f14 h0_15 h0_16 h0_f17 h0_18 h0_19 h0_20 h0_21 h0_22 h0_23 h0_24 h0_25 h0_f26 h0_f27 h0_f28 h0_f29 h0_f30 h0_f31 h0_32 h0_33 h0_f34 h0_35 h0_36 h0_37 h0_38 h0_39 h0_40 h0_f41 h0_f42 h0_f43 h0_f44 h0_45 h0_46 h0_47 h0_48 h0_49 h0_50 h0_f51 h0_52 h0_f53 h0_39 h0_39k h0_39c h0_38 h0_38k h0_38c)) (hS : va_S A s.heap H locs) (hl : lv_has ls 10 [(6, .int j11_l6), (0, .ref h0), (1, .int p1), (4, .long p4)]), G H locs (F0 m 11 ls []) := by
    as_aux_lemma =>
    intro n11
    induction n11 with
    | zero => intros; exact absurd (by assumption) (Nat.not_lt_zero _)
    | succ n11 ih11 =>
      intro j11_l6 hM11 g_h0_f10 g_h0_f11 g_h0_f17 g_h0_f26 g_h0_f27 g_h0_f28 g_h0_f29 g_h0_f30 g_h0_f31 g_h0_f34 g_h0_f41 g_h0_f51 g_h0_f53 g_h0_f6 g_h0_f7 g_h0_f8 g_h0_f9 g_j11_l6 g_p1 g_p3 H locs ls hP hD hS hl
      have J44 : ∀ (g_h0_f10 : RG h0_f10 0 240) (g_h0_f11 : RG h0_f11 (-1) 240) (g_h0_f17 : RG h0_f17 0 1) (g_h0_f26 : RG h0_f26 3 3) (g_h0_f27 : RG h0_f27 1 3) (g_h0_f28 : RG h0_f28 0 8) (g_h0_f29 : RG h0_f29 0 3) (g_h0_f30 : RG h0_f30 0 4) (g_h0_f31 : RG h0_f31 0 1) (g_h0_f34 : RG h0_f34 (-1) 3) (g_h0_f41 : RG h0_f41 0 40) (g_h0_f51 : RG h0_f51 0 10) (g_h0_f53 : RG h0_f53 0 1) (g_h0_f6 : RG h0_f6 0 240) (g_h0_f7 : RG h0_f7 0 4) (g_h0_f8 : RG h0_f8 0 720) (g_h0_f9 : RG h0_f9 0 240) (g_j11_l6 : RG j11_l6 0 2) (g_p1 : RG p1 0 2) (g_p3 : RG p3 0 100) (H : Heap) (locs : List Loc) (ls : Array Slot) (hP : va_P (dC, dI) vwCl (wd_c_X12_fogOf_3 h0 h0_f0 h0_1 h0_2 h0_3 h0_4 h0_5 h0_f6 h0_f7 h0_f8 h0_f9 h0_f10 h0_f11 h0_f12 h0_f13 h0_f14 h0_15 h0_16 h0_f17 h0_18 h0_19 h0_20 h0_21 h0_22 h0_23 h0_24 h0_25 h0_f26 h0_f27 h0_f28 h0_f29 h0_f30 h0_f31 h0_32 h0_33 h0_f34 h0_35 h0_36 h0_37 h0_38 h0_39 h0_40 h0_f41 h0_f42 h0_f43 h0_f44 h0_45 h0_46 h0_47 h0_48 h0_49 h0_50 h0_f51 h0_52 h0_f53 h0_39 h0_39k h0_39c h0_38 h0_38k h0_38c) H) (hD : va_D A (wd_c_X12_fogOf_3 h0 h0_f0 h0_1 h0_2 h0_3 h0_4 h0_5 h0_f6 h0_f7 h0_f8 h0_f9 h0_f10 h0_f11 h0_f12 h0_f13 h0_f14 h0_15 h0_16 h0_f17 h0_18 h0_19 h0_20 h0_21 h0_22 h0_23 h0_24 h0_25 h0_f26 h0_f27 h0_f28 h0_f29 h0_f30 h0_f31 h0_32 h0_33 h0_f34 h0_35 h0_36 h0_37 h0_38 h0_39 h0_40 h0_f41 h0_f42 h0_f43 h0_f44 h0_45 h0_46 h0_47 h0_48 h0_49 h0_50 h0_f51 h0_52 h0_f53 h0_39 h0_39k h0_39c h0_38 h0_38k h0_38c)) (hS : va_S A s.heap H locs) (hl : lv_has ls 10 [(6, .int j11_l6), (0, .ref h0), (1, .int p1), (4, .long p4)]), G H locs (F0 m 44 ls []) := by
        as_aux_lemma =>
        intro g_h0_f10 g_h0_f11 g_h0_f17 g_h0_f26 g_h0_f27 g_h0_f28 g_h0_f29 g_h0_f30 g_h0_f31 g_h0_f34 g_h0_f41 g_h0_f51 g_h0_f53 g_h0_f6 g_h0_f7 g_h0_f8 g_h0_f9 g_j11_l6 g_p1 g_p3 H locs ls hP hD hS hl
        refine hG _ _ _ ?_
        obtain ⟨x_1, ex_1⟩ : ∃ y : Int32, y = j11_l6 + 1 := ⟨_, rfl⟩
        have g_2 : RG x_1 1 3 := RG_add ex_1 g_j11_l6 (RG_k 1 1 rfl) (by decide +kernel)
        refine lv_iinc (v := x_1) (lv' := [(6, .int x_1), (0, .ref h0), (1, .int p1), (4, .long p4)]) hx hb dX12_fogOf_44 hl (k := 0) rfl (by rw [ex_1]; rfl) (Nat.le_of_ble_eq_true rfl) rfl (fun ls hl => ?_)
        refine lv_goto (tgt := 11) hx hb dX12_fogOf_47 rfl ?_
        exact hU _ _ _ (ih11 x_1 (mu_s (MU_add ex_1 g_j11_l6 (q := 1) rfl (by decide +kernel)) hM11) g_h0_f10 g_h0_f11 g_h0_f17 g_h0_f26 (RG_w g_h0_f27 (by decide +kernel)) g_h0_f28 g_h0_f29 g_h0_f30 g_h0_f31 g_h0_f34 g_h0_f41 g_h0_f51 g_h0_f53 g_h0_f6 g_h0_f7 g_h0_f8 g_h0_f9 (RG_w g_2 (by decide +kernel)) g_p1 g_p3 _ _ _ hP hD hS (lv_sub hl [0, 1, 2, 3] rfl))
      refine hG _ _ _ ?_
      refine lv_iload hx hb dX12_fogOf_11 (lv_at hl 0 rfl) ?_
      refine lv_aload_n hx hb dX12_fogOf_13 rfl (lv_at hl 1 rfl) ?_
      refine va_get (D := (dC, dI)) (ci := 12) (v := .int h0_f27) (C := RX12) (T := TX12) (N := 54) hx hb hts iw_c_X12_fogOf_3_X12 hown hK hP 0 rfl rfl 27 (by decide +kernel) (hts (.fieldLink RX12 312 "BuoyVoteModel" "boats" "I") (List.mem_of_getElem? (i := 8) rfl)) (fun _ h9 => h9) rfl dX12_fogOf_14 ?_
      refine lv_icmp_ge (tgt := 50) hx hb dX12_fogOf_17 rfl (fun c_3 => ?_) (fun c_3 => ?_)
      · refine lv_lload hx hb dX12_fogOf_50 (lv_at hl 3 rfl) ?_
        have hK9 := hK.sub (tys' := []) [] rfl
        exact W.lret (v := p4) hx hb hr (fun t ht hW => ⟨⟨p4, h0_38c, rfl, (Or.inl (LG_any p4)), by rw [ht]; exact hP, va_K.moved hW.alike hK9, hD⟩, hS.F ht⟩) hS.2.2 dX12_fogOf_52
      · have d_4 := Int32.not_le.mp c_3
        have g_5 : RG j11_l6 0 2 := RG_lt1 g_j11_l6 g_h0_f27 d_4 (by decide +kernel)
        have g_6 : RG h0_f27 1 3 := RG_lt2 g_j11_l6 g_h0_f27 d_4 (by decide +kernel)
        refine lv_iload hx hb dX12_fogOf_20 (lv_at hl 0 rfl) ?_
        as_aux_lemma =>
        refine lv_iload_n hx hb dX12_fogOf_22 rfl (lv_at hl 2 rfl) ?_
        refine lv_icmp_eq (tgt := 44) hx hb dX12_fogOf_23 rfl (fun c_7 => ?_) (fun c_7 => ?_)
        · exact hU _ _ _ (J44 g_h0_f10 g_h0_f11 g_h0_f17 g_h0_f26 g_6 g_h0_f28 g_h0_f29 g_h0_f30 g_h0_f31 g_h0_f34 g_h0_f41 g_h0_f51 g_h0_f53 g_h0_f6 g_h0_f7 g_h0_f8 g_h0_f9 g_5 g_p1 g_p3 _ _ _ hP hD hS (lv_sub hl [0, 1, 2, 3] rfl))
        · refine lv_aload_n hx hb dX12_fogOf_26 rfl (lv_at hl 1 rfl) ?_
          refine va_get (D := (dC, dI)) (ci := 12) (v := .ref h0_38) (C := RX12) (T := TX12) (N := 54) hx hb hts iw_c_X12_fogOf_3_X12 hown hK hP 0 rfl rfl 38 (by decide +kernel) (hts (.fieldLink RX12 81 "BuoyVoteModel" "tally" "[I") (List.mem_of_getElem? (i := 9) rfl)) (fun _ h9 => h9) rfl dX12_fogOf_27 ?_
          refine lv_iload hx hb dX12_fogOf_30 (lv_at hl 0 rfl) ?_
          refine va_iald hx hb hK hP 2 1 rfl rfl (RG_in g_5 (by decide +kernel)) dX12_fogOf_32 ?_
          refine lv_topi (fun x_8 ex_8 => ?_)
          refine lv_aload_n hx hb dX12_fogOf_33 rfl (lv_at hl 1 rfl) ?_
          refine va_get (D := (dC, dI)) (ci := 12) (v := .ref h0_38) (C := RX12) (T := TX12) (N := 54) hx hb hts iw_c_X12_fogOf_3_X12 hown hK hP 0 rfl rfl 38 (by decide +kernel) (hts (.fieldLink RX12 81 "BuoyVoteModel" "tally" "[I") (List.mem_of_getElem? (i := 9) rfl)) (fun _ h9 => h9) rfl dX12_fogOf_34 ?_
          refine lv_iload_n hx hb dX12_fogOf_37 rfl (lv_at hl 2 rfl) ?_
          refine va_iald hx hb hK hP 2 1 rfl rfl (RG_in g_p1 (by decide +kernel)) dX12_fogOf_38 ?_
          refine lv_topi (fun x_9 ex_9 => ?_)
          refine lv_icmp_lt (tgt := 44) hx hb dX12_fogOf_39 rfl (fun c_10 => ?_) (fun c_10 => ?_)
          · have g_11 : RG x_8 (-2147483648) 2147483646 := RG_lt1 (RG_any x_8) (RG_any x_9) c_10 (by decide +kernel)
            have g_12 : RG x_9 (-2147483647) 2147483647 := RG_lt2 (RG_any x_8) (RG_any x_9) c_10 (by decide +kernel)
            exact hU _ _ _ (J44 g_h0_f10 g_h0_f11 g_h0_f17 g_h0_f26 g_6 g_h0_f28 g_h0_f29 g_h0_f30 g_h0_f31 g_h0_f34 g_h0_f41 g_h0_f51 g_h0_f53 g_h0_f6 g_h0_f7 g_h0_f8 g_h0_f9 g_5 g_p1 g_p3 _ _ _ hP hD hS (lv_sub hl [0, 1, 2, 3] rfl))
          · have d_13 := Int32.not_lt.mp c_10
            refine lv_lconst (v := 0) hx hb dX12_fogOf_42 (by decide +kernel) ?_
            as_aux_lemma =>
            have hK9 := hK.sub (tys' := []) [] rfl
            exact W.lret (v := 0) hx hb hr (fun t ht hW => ⟨⟨0, h0_38c, rfl, (Or.inr ⟨rfl, g_6⟩), by rw [ht]; exact hP, va_K.moved hW.alike hK9, hD⟩, hS.F ht⟩) hS.2.2 dX12_fogOf_43
  refine hG _ _ _ ?_
  refine lv_iload_n hx hb dX12_fogOf_0 rfl (lv_at hl 2 rfl) ?_
  refine lv_aload_n hx hb dX12_fogOf_1 rfl (lv_at hl 0 rfl) ?_
  refine va_get (D := (dC, dI)) (ci := 12) (v := .int h0_f26) (C := RX12) (T := TX12) (N := 54) hx hb hts iw_c_X12_fogOf_3_X12 hown hK hP 0 rfl rfl 26 (by decide +kernel) (hts (.fieldLink RX12 309 "BuoyVoteModel" "buoys" "I") (List.mem_of_getElem? (i := 1) rfl)) (fun _ h9 => h9) rfl dX12_fogOf_2 ?_
  refine lv_icmp_ne (tgt := 53) hx hb dX12_fogOf_5 rfl (fun c_14 => ?_) (fun c_14 => ?_)
  · have g_15 : RG h0_f26 4 8 := RG_ne1 g_h0_f26 (q := 3) rfl (fun q => c_14 q.symm) (by decide +kernel)
    refine lv_aload_n hx hb dX12_fogOf_53 rfl (lv_at hl 0 rfl) ?_
    refine va_get (D := (dC, dI)) (ci := 12) (v := .ref h0_39) (C := RX12) (T := TX12) (N := 54) hx hb hts iw_c_X12_fogOf_3_X12 hown hK hP 0 rfl rfl 39 (by decide +kernel) (hts (.fieldLink RX12 84 "BuoyVoteModel" "leans" "[I") (List.mem_of_getElem? (i := 2) rfl)) (fun _ h9 => h9) rfl dX12_fogOf_54 ?_
    refine lv_iload_n hx hb dX12_fogOf_57 rfl (lv_at hl 2 rfl) ?_
    refine va_iald hx hb hK hP 1 0 rfl rfl (RG_in (RG_k 3 3 rfl) (by decide +kernel)) dX12_fogOf_58 ?_
    refine lv_topi (fun x_16 ex_16 => ?_)
    have g_17 : RG x_16 (-1) 2 := AI_rd a_h0_39c ex_16
    refine lv_iconst (v := (-1)) hx hb dX12_fogOf_59 kc_iconst_m1 ?_
    as_aux_lemma =>
    refine lv_icmp_ne (tgt := 75) hx hb dX12_fogOf_60 rfl (fun c_18 => ?_) (fun c_18 => ?_)
    · have g_19 : RG x_16 0 2 := RG_ne1 g_17 (q := (-1)) rfl c_18 (by decide +kernel)
      refine lv_lload hx hb dX12_fogOf_75 (lv_at hl 4 rfl) ?_
      refine lv_iload_n hx hb dX12_fogOf_77 rfl (lv_at hl 3 rfl) ?_
      refine lv_i2l (v := p3.toInt64) hx hb dX12_fogOf_78 rfl ?_
      refine lv_topl (fun x_20 ex_20 => ?_)
      have g_21 : LG x_20 0 100 := LG_i2l ex_20 g_p3
      refine lv_lmul hx hb dX12_fogOf_79 ?_
      refine lv_topl (fun x_22 ex_22 => ?_)
      refine lv_ldc2 hx hb hown (hts (.constantLong RX12 545 (100)) (List.mem_of_getElem? (i := 3) rfl)) dX12_fogOf_80 ?_
      refine lv_ldiv hx hb dX12_fogOf_83 (by decide +kernel) ?_
      refine lv_topl (fun x_23 ex_23 => ?_)
      refine lv_lstore (lv' := [(6, .long x_23), (0, .ref h0), (1, .int p1), (2, .int 3), (3, .int p3), (4, .long p4)]) hx hb dX12_fogOf_84 hl (Nat.le_of_ble_eq_true rfl) rfl (fun ls hl => ?_)
      refine lv_aload_n hx hb dX12_fogOf_86 rfl (lv_at hl 1 rfl) ?_
      as_aux_lemma =>
      refine lv_iload_n hx hb dX12_fogOf_87 rfl (lv_at hl 2 rfl) ?_
      refine lv_iload_n hx hb dX12_fogOf_88 rfl (lv_at hl 3 rfl) ?_
      refine lv_iconst (v := 1) hx hb dX12_fogOf_89 kc_iconst_1 ?_
      refine lv_iadd hx hb dX12_fogOf_90 ?_
      refine lv_topi (fun x_24 ex_24 => ?_)
      obtain rfl : x_24 = 4 := ex_24.trans (by decide +kernel)
      refine lv_iload_n hx hb dX12_fogOf_91 rfl (lv_at hl 4 rfl) ?_
      refine lv_lload hx hb dX12_fogOf_92 (lv_at hl 0 rfl) ?_
      obtain ⟨hPc, hDc, hFc, hqc⟩ := cl_cut (wc := (wd_c_X12_fogOf_4 h0 h0_f0 h0_1 h0_2 h0_3 h0_4 h0_5 h0_f6 h0_f7 h0_f8 h0_f9 h0_f10 h0_f11 h0_f12 h0_f13 h0_f14 h0_15 h0_16 h0_f17 h0_18 h0_19 h0_20 h0_21 h0_22 h0_23 h0_24 h0_25 h0_f26 h0_f27 h0_f28 h0_f29 h0_f30 h0_f31 h0_32 h0_33 h0_f34 h0_35 h0_36 h0_37 h0_38 h0_39 h0_40 h0_f41 h0_f42 h0_f43 h0_f44 h0_45 h0_46 h0_47 h0_48 h0_49 h0_50 h0_f51 h0_52 h0_f53 h0_39 h0_39k h0_39c h0_38 h0_38k h0_38c)) hP hD hS hA [0, 1, 2] (by decide +kernel) rfl
      have hKc := hK.sub (tys' := [(h0_39k, .int), (h0_38k, .int)]) [0, 1] rfl
      have hrv := va_recv hKc hPc (ci := 12) (q0 := 0) rfl rfl
      refine va_calll (va_runV (As := [.int p1, .int 4, .int p3, .long x_23]) (rest := []) ⟨hx, hb, hml, hown, hts⟩ (c_X12_fogOf_4 l dC dI H.size h0 p1 p3 x_23 h0_f0 h0_1 h0_2 h0_3 h0_4 h0_5 h0_f6 h0_f7 h0_f8 h0_f9 h0_f10 h0_f11 h0_f12 h0_f13 h0_f14 h0_15 h0_16 h0_f17 h0_18 h0_19 h0_20 h0_21 h0_22 h0_23 h0_24 h0_25 h0_f26 h0_f27 h0_f28 h0_f29 h0_f30 h0_f31 h0_32 h0_33 h0_f34 h0_35 h0_36 h0_37 h0_38 h0_39 h0_40 h0_f41 h0_f42 h0_f43 h0_f44 h0_45 h0_46 h0_47 h0_48 h0_49 h0_50 h0_f51 h0_52 h0_f53 h0_39k h0_39c h0_38k h0_38c g_p1 g_p3 g_h0_f6 g_h0_f7 g_h0_f8 g_h0_f9 g_h0_f10 g_h0_f11 g_h0_f17 g_15 g_h0_f27 g_h0_f28 g_h0_f29 g_h0_f30 g_h0_f31 g_h0_f34 g_h0_f41 g_h0_f51 g_h0_f53 a_h0_39c) (cwV 4 hts gf_c_X12_fogOf_3_c_X12_fogOf_4 rfl rfl rfl mdV_X12_fogOf ⟨Nat.le_of_ble_eq_true rfl, Nat.le_of_ble_eq_true rfl⟩) ⟨fun a U g mk q => by obtain ⟨q0, q1, qP, qK, qD⟩ := q; exact ⟨q0, q1, qP, va_K.moved (u := U) (U := U.calling g mk a) (Vm.Alike.refl U.vm) qK, qD⟩, hrv, fun U hU hW => ⟨rfl, by rw [hU], by rw [hU]; exact hPc, va_K.moved hW.alike hKc, hDc.weaken (fun _ _ _ _ => trivial)⟩⟩ rfl rfl hl.1 rfl (lv_room (Nat.le_of_ble_eq_true rfl)) dX12_fogOf_94 ⟨Nat.le_of_ble_eq_true rfl, Nat.le_of_ble_eq_true rfl⟩) hS (fun q _ h => hFc q h) hFc (fun r_25 w_26 t H1 locs ht hvm hw hB hz1 hk1 hS => ?_)
      obtain ⟨hP1, hK1, hD1⟩ := hB
      rw [ht] at hP1
      obtain ⟨hP, hD⟩ := cl_put (w1 := (wd_c_X12_fogOf_4 h0 h0_f0 h0_1 h0_2 h0_3 h0_4 h0_5 h0_f6 h0_f7 h0_f8 h0_f9 h0_f10 h0_f11 h0_f12 h0_f13 h0_f14 h0_15 h0_16 h0_f17 h0_18 h0_19 h0_20 h0_21 h0_22 h0_23 h0_24 h0_25 h0_f26 h0_f27 h0_f28 h0_f29 h0_f30 h0_f31 h0_32 h0_33 h0_f34 h0_35 h0_36 h0_37 h0_38 h0_39 h0_40 h0_f41 h0_f42 h0_f43 h0_f44 h0_45 h0_46 h0_47 h0_48 h0_49 h0_50 h0_f51 h0_52 h0_f53 h0_39 h0_39k h0_39c h0_38 h0_38k w_26)) (nw := (wd_c_X12_fogOf_3 h0 h0_f0 h0_1 h0_2 h0_3 h0_4 h0_5 h0_f6 h0_f7 h0_f8 h0_f9 h0_f10 h0_f11 h0_f12 h0_f13 h0_f14 h0_15 h0_16 h0_f17 h0_18 h0_19 h0_20 h0_21 h0_22 h0_23 h0_24 h0_25 h0_f26 h0_f27 h0_f28 h0_f29 h0_f30 h0_f31 h0_32 h0_33 h0_f34 h0_35 h0_36 h0_37 h0_38 h0_39 h0_40 h0_f41 h0_f42 h0_f43 h0_f44 h0_45 h0_46 h0_47 h0_48 h0_49 h0_50 h0_f51 h0_52 h0_f53 h0_39 h0_39k h0_39c h0_38 h0_38k w_26)) hP hD [0, 1, 2] [3, 4, 5] 3 rfl hqc (by decide +kernel) rfl hk1 hFc hP1 hD1
      generalize H1 = H at hP hS ⊢
      as_aux_lemma =>
      rcases hw with h_27 | ⟨h_28, h_29⟩
      · refine lv_lstore (lv' := [(8, .long r_25), (6, .long x_23), (0, .ref h0), (1, .int p1), (2, .int 3), (3, .int p3), (4, .long p4)]) hx hb dX12_fogOf_97 hl (Nat.le_of_ble_eq_true rfl) rfl (fun ls hl => ?_)
        refine lv_aload_n hx hb dX12_fogOf_99 rfl (lv_at hl 2 rfl) ?_
        refine va_get (D := (dC, dI)) (ci := 12) (v := .ref h0_38) (C := RX12) (T := TX12) (N := 54) hx hb hts iw_c_X12_fogOf_3_X12 hown hK hP 0 rfl rfl 38 (by decide +kernel) (hts (.fieldLink RX12 81 "BuoyVoteModel" "tally" "[I") (List.mem_of_getElem? (i := 9) rfl)) (fun _ h9 => h9) rfl dX12_fogOf_100 ?_
        refine lv_aload_n hx hb dX12_fogOf_103 rfl (lv_at hl 2 rfl) ?_
        refine va_get (D := (dC, dI)) (ci := 12) (v := .ref h0_39) (C := RX12) (T := TX12) (N := 54) hx hb hts iw_c_X12_fogOf_3_X12 hown hK hP 0 rfl rfl 39 (by decide +kernel) (hts (.fieldLink RX12 84 "BuoyVoteModel" "leans" "[I") (List.mem_of_getElem? (i := 2) rfl)) (fun _ h9 => h9) rfl dX12_fogOf_104 ?_
        refine lv_iload_n hx hb dX12_fogOf_107 rfl (lv_at hl 4 rfl) ?_
        refine va_iald hx hb hK hP 1 0 rfl rfl (RG_in (RG_k 3 3 rfl) (by decide +kernel)) dX12_fogOf_108 ?_
        refine lv_topi (fun x_30 ex_30 => ?_)
        obtain rfl : x_16 = x_30 := (ex_30.trans ex_16.symm).symm
        refine lv_dup2_11 hx hb dX12_fogOf_109 rfl rfl ?_
        refine va_iald hx hb hK hP 2 1 rfl rfl (RG_in g_19 (by decide +kernel)) dX12_fogOf_110 ?_
        refine lv_topi (fun x_31 ex_31 => ?_)
        refine lv_iconst (v := 1) hx hb dX12_fogOf_111 kc_iconst_1 ?_
        as_aux_lemma =>
        refine lv_iadd hx hb dX12_fogOf_112 ?_
        refine lv_topi (fun x_32 ex_32 => ?_)
        refine va_iast hx hb hK hP hD hS 2 1 rfl rfl (RG_in g_19 (by decide +kernel)) dX12_fogOf_113 (fun H locs hP hD hS => ?_)
        have hP : va_P (dC, dI) vwCl (wd_c_X12_fogOf_3 h0 h0_f0 h0_1 h0_2 h0_3 h0_4 h0_5 h0_f6 h0_f7 h0_f8 h0_f9 h0_f10 h0_f11 h0_f12 h0_f13 h0_f14 h0_15 h0_16 h0_f17 h0_18 h0_19 h0_20 h0_21 h0_22 h0_23 h0_24 h0_25 h0_f26 h0_f27 h0_f28 h0_f29 h0_f30 h0_f31 h0_32 h0_33 h0_f34 h0_35 h0_36 h0_37 h0_38 h0_39 h0_40 h0_f41 h0_f42 h0_f43 h0_f44 h0_45 h0_46 h0_47 h0_48 h0_49 h0_50 h0_f51 h0_52 h0_f53 h0_39 h0_39k h0_39c h0_38 h0_38k (upd w_26 (x_16 : Int32).toNatClampNeg x_32)) H := hP
        have hD : va_D A (wd_c_X12_fogOf_3 h0 h0_f0 h0_1 h0_2 h0_3 h0_4 h0_5 h0_f6 h0_f7 h0_f8 h0_f9 h0_f10 h0_f11 h0_f12 h0_f13 h0_f14 h0_15 h0_16 h0_f17 h0_18 h0_19 h0_20 h0_21 h0_22 h0_23 h0_24 h0_25 h0_f26 h0_f27 h0_f28 h0_f29 h0_f30 h0_f31 h0_32 h0_33 h0_f34 h0_35 h0_36 h0_37 h0_38 h0_39 h0_40 h0_f41 h0_f42 h0_f43 h0_f44 h0_45 h0_46 h0_47 h0_48 h0_49 h0_50 h0_f51 h0_52 h0_f53 h0_39 h0_39k h0_39c h0_38 h0_38k (upd w_26 (x_16 : Int32).toNatClampNeg x_32)) := hD
        have l_34 : (upd w_26 (x_16 : Int32).toNatClampNeg x_32) (x_16 : Int32).toNatClampNeg = x_32 := pk_us
        generalize (upd w_26 (x_16 : Int32).toNatClampNeg x_32) = w_33 at hP hD l_34
        have hP : va_P (dC, dI) vwCl (wd_c_X12_fogOf_3 h0 h0_f0 h0_1 h0_2 h0_3 h0_4 h0_5 h0_f6 h0_f7 h0_f8 h0_f9 h0_f10 h0_f11 h0_f12 h0_f13 h0_f14 h0_15 h0_16 h0_f17 h0_18 h0_19 h0_20 h0_21 h0_22 h0_23 h0_24 h0_25 h0_f26 h0_f27 h0_f28 h0_f29 h0_f30 h0_f31 h0_32 h0_33 h0_f34 h0_35 h0_36 h0_37 h0_38 h0_39 h0_40 h0_f41 h0_f42 h0_f43 h0_f44 h0_45 h0_46 h0_47 h0_48 h0_49 h0_50 h0_f51 h0_52 h0_f53 h0_39 h0_39k h0_39c h0_38 h0_38k w_33) H := hP
        have hD : va_D A (wd_c_X12_fogOf_3 h0 h0_f0 h0_1 h0_2 h0_3 h0_4 h0_5 h0_f6 h0_f7 h0_f8 h0_f9 h0_f10 h0_f11 h0_f12 h0_f13 h0_f14 h0_15 h0_16 h0_f17 h0_18 h0_19 h0_20 h0_21 h0_22 h0_23 h0_24 h0_25 h0_f26 h0_f27 h0_f28 h0_f29 h0_f30 h0_f31 h0_32 h0_33 h0_f34 h0_35 h0_36 h0_37 h0_38 h0_39 h0_40 h0_f41 h0_f42 h0_f43 h0_f44 h0_45 h0_46 h0_47 h0_48 h0_49 h0_50 h0_f51 h0_52 h0_f53 h0_39 h0_39k h0_39c h0_38 h0_38k w_33) := hD
        refine lv_lload hx hb dX12_fogOf_114 (lv_at hl 0 rfl) ?_
        refine lv_aload_n hx hb dX12_fogOf_116 rfl (lv_at hl 2 rfl) ?_
        refine lv_iload_n hx hb dX12_fogOf_117 rfl (lv_at hl 3 rfl) ?_
        refine lv_iload_n hx hb dX12_fogOf_118 rfl (lv_at hl 4 rfl) ?_
        refine lv_iconst (v := 1) hx hb dX12_fogOf_119 kc_iconst_1 ?_
        as_aux_lemma =>
        refine lv_iadd hx hb dX12_fogOf_120 ?_
        refine lv_topi (fun x_35 ex_35 => ?_)
        obtain rfl : x_35 = 4 := ex_35.trans (by decide +kernel)
        refine lv_iload_n hx hb dX12_fogOf_121 rfl (lv_at hl 5 rfl) ?_
        refine lv_lload hx hb dX12_fogOf_122 (lv_at hl 6 rfl) ?_
        refine lv_lload hx hb dX12_fogOf_124 (lv_at hl 1 rfl) ?_
        refine lv_lsub hx hb dX12_fogOf_126 ?_
        refine lv_topl (fun x_36 ex_36 => ?_)
        obtain ⟨hPc, hDc, hFc, hqc⟩ := cl_cut (wc := (wd_c_X12_fogOf_4 h0 h0_f0 h0_1 h0_2 h0_3 h0_4 h0_5 h0_f6 h0_f7 h0_f8 h0_f9 h0_f10 h0_f11 h0_f12 h0_f13 h0_f14 h0_15 h0_16 h0_f17 h0_18 h0_19 h0_20 h0_21 h0_22 h0_23 h0_24 h0_25 h0_f26 h0_f27 h0_f28 h0_f29 h0_f30 h0_f31 h0_32 h0_33 h0_f34 h0_35 h0_36 h0_37 h0_38 h0_39 h0_40 h0_f41 h0_f42 h0_f43 h0_f44 h0_45 h0_46 h0_47 h0_48 h0_49 h0_50 h0_f51 h0_52 h0_f53 h0_39 h0_39k h0_39c h0_38 h0_38k w_33)) hP hD hS hA [0, 1, 2] (by decide +kernel) rfl
        have hKc := hK.sub (tys' := [(h0_39k, .int), (h0_38k, .int)]) [0, 1] rfl
        have hrv := va_recv hKc hPc (ci := 12) (q0 := 0) rfl rfl
        refine va_calll (va_runV (As := [.int p1, .int 4, .int p3, .long x_36]) (rest := [.long r_25]) ⟨hx, hb, hml, hown, hts⟩ (c_X12_fogOf_4 l dC dI H.size h0 p1 p3 x_36 h0_f0 h0_1 h0_2 h0_3 h0_4 h0_5 h0_f6 h0_f7 h0_f8 h0_f9 h0_f10 h0_f11 h0_f12 h0_f13 h0_f14 h0_15 h0_16 h0_f17 h0_18 h0_19 h0_20 h0_21 h0_22 h0_23 h0_24 h0_25 h0_f26 h0_f27 h0_f28 h0_f29 h0_f30 h0_f31 h0_32 h0_33 h0_f34 h0_35 h0_36 h0_37 h0_38 h0_39 h0_40 h0_f41 h0_f42 h0_f43 h0_f44 h0_45 h0_46 h0_47 h0_48 h0_49 h0_50 h0_f51 h0_52 h0_f53 h0_39k h0_39c h0_38k w_33 g_p1 g_p3 g_h0_f6 g_h0_f7 g_h0_f8 g_h0_f9 g_h0_f10 g_h0_f11 g_h0_f17 g_15 g_h0_f27 g_h0_f28 g_h0_f29 g_h0_f30 g_h0_f31 g_h0_f34 g_h0_f41 g_h0_f51 g_h0_f53 a_h0_39c) (cwV 4 hts gf_c_X12_fogOf_3_c_X12_fogOf_4 rfl rfl rfl mdV_X12_fogOf ⟨Nat.le_of_ble_eq_true rfl, Nat.le_of_ble_eq_true rfl⟩) ⟨fun a U g mk q => by obtain ⟨q0, q1, qP, qK, qD⟩ := q; exact ⟨q0, q1, qP, va_K.moved (u := U) (U := U.calling g mk a) (Vm.Alike.refl U.vm) qK, qD⟩, hrv, fun U hU hW => ⟨rfl, by rw [hU], by rw [hU]; exact hPc, va_K.moved hW.alike hKc, hDc.weaken (fun _ _ _ _ => trivial)⟩⟩ rfl rfl hl.1 rfl (lv_room (Nat.le_of_ble_eq_true rfl)) dX12_fogOf_127 ⟨Nat.le_of_ble_eq_true rfl, Nat.le_of_ble_eq_true rfl⟩) hS (fun q _ h => hFc q h) hFc (fun r_37 w_38 t H1 locs ht hvm hw hB hz1 hk1 hS => ?_)
        obtain ⟨hP1, hK1, hD1⟩ := hB
        rw [ht] at hP1
        obtain ⟨hP, hD⟩ := cl_put (w1 := (wd_c_X12_fogOf_4 h0 h0_f0 h0_1 h0_2 h0_3 h0_4 h0_5 h0_f6 h0_f7 h0_f8 h0_f9 h0_f10 h0_f11 h0_f12 h0_f13 h0_f14 h0_15 h0_16 h0_f17 h0_18 h0_19 h0_20 h0_21 h0_22 h0_23 h0_24 h0_25 h0_f26 h0_f27 h0_f28 h0_f29 h0_f30 h0_f31 h0_32 h0_33 h0_f34 h0_35 h0_36 h0_37 h0_38 h0_39 h0_40 h0_f41 h0_f42 h0_f43 h0_f44 h0_45 h0_46 h0_47 h0_48 h0_49 h0_50 h0_f51 h0_52 h0_f53 h0_39 h0_39k h0_39c h0_38 h0_38k w_38)) (nw := (wd_c_X12_fogOf_3 h0 h0_f0 h0_1 h0_2 h0_3 h0_4 h0_5 h0_f6 h0_f7 h0_f8 h0_f9 h0_f10 h0_f11 h0_f12 h0_f13 h0_f14 h0_15 h0_16 h0_f17 h0_18 h0_19 h0_20 h0_21 h0_22 h0_23 h0_24 h0_25 h0_f26 h0_f27 h0_f28 h0_f29 h0_f30 h0_f31 h0_32 h0_33 h0_f34 h0_35 h0_36 h0_37 h0_38 h0_39 h0_40 h0_f41 h0_f42 h0_f43 h0_f44 h0_45 h0_46 h0_47 h0_48 h0_49 h0_50 h0_f51 h0_52 h0_f53 h0_39 h0_39k h0_39c h0_38 h0_38k w_38)) hP hD [0, 1, 2] [3, 4, 5] 3 rfl hqc (by decide +kernel) rfl hk1 hFc hP1 hD1
        generalize H1 = H at hP hS ⊢
        as_aux_lemma =>
        rcases hw with h_39 | ⟨h_40, h_41⟩
        · refine lv_ladd hx hb dX12_fogOf_130 ?_
          refine lv_topl (fun x_42 ex_42 => ?_)
          refine lv_lstore (lv' := [(8, .long x_42), (6, .long x_23), (0, .ref h0), (1, .int p1), (2, .int 3), (3, .int p3), (4, .long p4)]) hx hb dX12_fogOf_131 hl (Nat.le_of_ble_eq_true rfl) rfl (fun ls hl => ?_)
          refine lv_aload_n hx hb dX12_fogOf_133 rfl (lv_at hl 2 rfl) ?_
          refine va_get (D := (dC, dI)) (ci := 12) (v := .ref h0_38) (C := RX12) (T := TX12) (N := 54) hx hb hts iw_c_X12_fogOf_3_X12 hown hK hP 0 rfl rfl 38 (by decide +kernel) (hts (.fieldLink RX12 81 "BuoyVoteModel" "tally" "[I") (List.mem_of_getElem? (i := 9) rfl)) (fun _ h9 => h9) rfl dX12_fogOf_134 ?_
          refine lv_aload_n hx hb dX12_fogOf_137 rfl (lv_at hl 2 rfl) ?_
          refine va_get (D := (dC, dI)) (ci := 12) (v := .ref h0_39) (C := RX12) (T := TX12) (N := 54) hx hb hts iw_c_X12_fogOf_3_X12 hown hK hP 0 rfl rfl 39 (by decide +kernel) (hts (.fieldLink RX12 84 "BuoyVoteModel" "leans" "[I") (List.mem_of_getElem? (i := 2) rfl)) (fun _ h9 => h9) rfl dX12_fogOf_138 ?_
          refine lv_iload_n hx hb dX12_fogOf_141 rfl (lv_at hl 4 rfl) ?_
          refine va_iald hx hb hK hP 1 0 rfl rfl (RG_in (RG_k 3 3 rfl) (by decide +kernel)) dX12_fogOf_142 ?_
          refine lv_topi (fun x_43 ex_43 => ?_)
          obtain rfl : x_16 = x_43 := (ex_43.trans ex_16.symm).symm
          refine lv_dup2_11 hx hb dX12_fogOf_143 rfl rfl ?_
          refine va_iald hx hb hK hP 2 1 rfl rfl (RG_in g_19 (by decide +kernel)) dX12_fogOf_144 ?_
          as_aux_lemma =>
          refine lv_topi (fun x_44 ex_44 => ?_)
          refine lv_iconst (v := 1) hx hb dX12_fogOf_145 kc_iconst_1 ?_
          refine lv_isub hx hb dX12_fogOf_146 ?_
          refine lv_topi (fun x_45 ex_45 => ?_)
          refine va_iast hx hb hK hP hD hS 2 1 rfl rfl (RG_in g_19 (by decide +kernel)) dX12_fogOf_147 (fun H locs hP hD hS => ?_)
          have hP : va_P (dC, dI) vwCl (wd_c_X12_fogOf_3 h0 h0_f0 h0_1 h0_2 h0_3 h0_4 h0_5 h0_f6 h0_f7 h0_f8 h0_f9 h0_f10 h0_f11 h0_f12 h0_f13 h0_f14 h0_15 h0_16 h0_f17 h0_18 h0_19 h0_20 h0_21 h0_22 h0_23 h0_24 h0_25 h0_f26 h0_f27 h0_f28 h0_f29 h0_f30 h0_f31 h0_32 h0_33 h0_f34 h0_35 h0_36 h0_37 h0_38 h0_39 h0_40 h0_f41 h0_f42 h0_f43 h0_f44 h0_45 h0_46 h0_47 h0_48 h0_49 h0_50 h0_f51 h0_52 h0_f53 h0_39 h0_39k h0_39c h0_38 h0_38k (upd w_38 (x_16 : Int32).toNatClampNeg x_45)) H := hP
          have hD : va_D A (wd_c_X12_fogOf_3 h0 h0_f0 h0_1 h0_2 h0_3 h0_4 h0_5 h0_f6 h0_f7 h0_f8 h0_f9 h0_f10 h0_f11 h0_f12 h0_f13 h0_f14 h0_15 h0_16 h0_f17 h0_18 h0_19 h0_20 h0_21 h0_22 h0_23 h0_24 h0_25 h0_f26 h0_f27 h0_f28 h0_f29 h0_f30 h0_f31 h0_32 h0_33 h0_f34 h0_35 h0_36 h0_37 h0_38 h0_39 h0_40 h0_f41 h0_f42 h0_f43 h0_f44 h0_45 h0_46 h0_47 h0_48 h0_49 h0_50 h0_f51 h0_52 h0_f53 h0_39 h0_39k h0_39c h0_38 h0_38k (upd w_38 (x_16 : Int32).toNatClampNeg x_45)) := hD
          have l_47 : (upd w_38 (x_16 : Int32).toNatClampNeg x_45) (x_16 : Int32).toNatClampNeg = x_45 := pk_us
          generalize (upd w_38 (x_16 : Int32).toNatClampNeg x_45) = w_46 at hP hD l_47
          have hP : va_P (dC, dI) vwCl (wd_c_X12_fogOf_3 h0 h0_f0 h0_1 h0_2 h0_3 h0_4 h0_5 h0_f6 h0_f7 h0_f8 h0_f9 h0_f10 h0_f11 h0_f12 h0_f13 h0_f14 h0_15 h0_16 h0_f17 h0_18 h0_19 h0_20 h0_21 h0_22 h0_23 h0_24 h0_25 h0_f26 h0_f27 h0_f28 h0_f29 h0_f30 h0_f31 h0_32 h0_33 h0_f34 h0_35 h0_36 h0_37 h0_38 h0_39 h0_40 h0_f41 h0_f42 h0_f43 h0_f44 h0_45 h0_46 h0_47 h0_48 h0_49 h0_50 h0_f51 h0_52 h0_f53 h0_39 h0_39k h0_39c h0_38 h0_38k w_46) H := hP
          have hD : va_D A (wd_c_X12_fogOf_3 h0 h0_f0 h0_1 h0_2 h0_3 h0_4 h0_5 h0_f6 h0_f7 h0_f8 h0_f9 h0_f10 h0_f11 h0_f12 h0_f13 h0_f14 h0_15 h0_16 h0_f17 h0_18 h0_19 h0_20 h0_21 h0_22 h0_23 h0_24 h0_25 h0_f26 h0_f27 h0_f28 h0_f29 h0_f30 h0_f31 h0_32 h0_33 h0_f34 h0_35 h0_36 h0_37 h0_38 h0_39 h0_40 h0_f41 h0_f42 h0_f43 h0_f44 h0_45 h0_46 h0_47 h0_48 h0_49 h0_50 h0_f51 h0_52 h0_f53 h0_39 h0_39k h0_39c h0_38 h0_38k w_46) := hD
          refine lv_lload hx hb dX12_fogOf_148 (lv_at hl 0 rfl) ?_
          have hK9 := hK.sub (tys' := []) [] rfl
          exact W.lret (v := x_42) hx hb hr (fun t ht hW => ⟨⟨x_42, w_46, rfl, (Or.inl (LG_any x_42)), by rw [ht]; exact hP, va_K.moved hW.alike hK9, hD⟩, hS.F ht⟩) hS.2.2 dX12_fogOf_150
        · rw [h_40]
          refine lv_ladd hx hb dX12_fogOf_130 ?_
          as_aux_lemma =>
          refine lv_topl (fun x_48 ex_48 => ?_)
          refine lv_lstore (lv' := [(8, .long x_48), (6, .long x_23), (0, .ref h0), (1, .int p1), (2, .int 3), (3, .int p3), (4, .long p4)]) hx hb dX12_fogOf_131 hl (Nat.le_of_ble_eq_true rfl) rfl (fun ls hl => ?_)
          refine lv_aload_n hx hb dX12_fogOf_133 rfl (lv_at hl 2 rfl) ?_
          refine va_get (D := (dC, dI)) (ci := 12) (v := .ref h0_38) (C := RX12) (T := TX12) (N := 54) hx hb hts iw_c_X12_fogOf_3_X12 hown hK hP 0 rfl rfl 38 (by decide +kernel) (hts (.fieldLink RX12 81 "BuoyVoteModel" "tally" "[I") (List.mem_of_getElem? (i := 9) rfl)) (fun _ h9 => h9) rfl dX12_fogOf_134 ?_
          refine lv_aload_n hx hb dX12_fogOf_137 rfl (lv_at hl 2 rfl) ?_
          refine va_get (D := (dC, dI)) (ci := 12) (v := .ref h0_39) (C := RX12) (T := TX12) (N := 54) hx hb hts iw_c_X12_fogOf_3_X12 hown hK hP 0 rfl rfl 39 (by decide +kernel) (hts (.fieldLink RX12 84 "BuoyVoteModel" "leans" "[I") (List.mem_of_getElem? (i := 2) rfl)) (fun _ h9 => h9) rfl dX12_fogOf_138 ?_
          refine lv_iload_n hx hb dX12_fogOf_141 rfl (lv_at hl 4 rfl) ?_
          refine va_iald hx hb hK hP 1 0 rfl rfl (RG_in (RG_k 3 3 rfl) (by decide +kernel)) dX12_fogOf_142 ?_
          refine lv_topi (fun x_49 ex_49 => ?_)
          obtain rfl : x_16 = x_49 := (ex_49.trans ex_16.symm).symm
          refine lv_dup2_11 hx hb dX12_fogOf_143 rfl rfl ?_
          refine va_iald hx hb hK hP 2 1 rfl rfl (RG_in g_19 (by decide +kernel)) dX12_fogOf_144 ?_
          refine lv_topi (fun x_50 ex_50 => ?_)
          refine lv_iconst (v := 1) hx hb dX12_fogOf_145 kc_iconst_1 ?_
          as_aux_lemma =>
          refine lv_isub hx hb dX12_fogOf_146 ?_
          refine lv_topi (fun x_51 ex_51 => ?_)
          refine va_iast hx hb hK hP hD hS 2 1 rfl rfl (RG_in g_19 (by decide +kernel)) dX12_fogOf_147 (fun H locs hP hD hS => ?_)
          have hP : va_P (dC, dI) vwCl (wd_c_X12_fogOf_3 h0 h0_f0 h0_1 h0_2 h0_3 h0_4 h0_5 h0_f6 h0_f7 h0_f8 h0_f9 h0_f10 h0_f11 h0_f12 h0_f13 h0_f14 h0_15 h0_16 h0_f17 h0_18 h0_19 h0_20 h0_21 h0_22 h0_23 h0_24 h0_25 h0_f26 h0_f27 h0_f28 h0_f29 h0_f30 h0_f31 h0_32 h0_33 h0_f34 h0_35 h0_36 h0_37 h0_38 h0_39 h0_40 h0_f41 h0_f42 h0_f43 h0_f44 h0_45 h0_46 h0_47 h0_48 h0_49 h0_50 h0_f51 h0_52 h0_f53 h0_39 h0_39k h0_39c h0_38 h0_38k (upd w_38 (x_16 : Int32).toNatClampNeg x_51)) H := hP
          have hD : va_D A (wd_c_X12_fogOf_3 h0 h0_f0 h0_1 h0_2 h0_3 h0_4 h0_5 h0_f6 h0_f7 h0_f8 h0_f9 h0_f10 h0_f11 h0_f12 h0_f13 h0_f14 h0_15 h0_16 h0_f17 h0_18 h0_19 h0_20 h0_21 h0_22 h0_23 h0_24 h0_25 h0_f26 h0_f27 h0_f28 h0_f29 h0_f30 h0_f31 h0_32 h0_33 h0_f34 h0_35 h0_36 h0_37 h0_38 h0_39 h0_40 h0_f41 h0_f42 h0_f43 h0_f44 h0_45 h0_46 h0_47 h0_48 h0_49 h0_50 h0_f51 h0_52 h0_f53 h0_39 h0_39k h0_39c h0_38 h0_38k (upd w_38 (x_16 : Int32).toNatClampNeg x_51)) := hD
          have l_53 : (upd w_38 (x_16 : Int32).toNatClampNeg x_51) (x_16 : Int32).toNatClampNeg = x_51 := pk_us
          generalize (upd w_38 (x_16 : Int32).toNatClampNeg x_51) = w_52 at hP hD l_53
          have hP : va_P (dC, dI) vwCl (wd_c_X12_fogOf_3 h0 h0_f0 h0_1 h0_2 h0_3 h0_4 h0_5 h0_f6 h0_f7 h0_f8 h0_f9 h0_f10 h0_f11 h0_f12 h0_f13 h0_f14 h0_15 h0_16 h0_f17 h0_18 h0_19 h0_20 h0_21 h0_22 h0_23 h0_24 h0_25 h0_f26 h0_f27 h0_f28 h0_f29 h0_f30 h0_f31 h0_32 h0_33 h0_f34 h0_35 h0_36 h0_37 h0_38 h0_39 h0_40 h0_f41 h0_f42 h0_f43 h0_f44 h0_45 h0_46 h0_47 h0_48 h0_49 h0_50 h0_f51 h0_52 h0_f53 h0_39 h0_39k h0_39c h0_38 h0_38k w_52) H := hP
          have hD : va_D A (wd_c_X12_fogOf_3 h0 h0_f0 h0_1 h0_2 h0_3 h0_4 h0_5 h0_f6 h0_f7 h0_f8 h0_f9 h0_f10 h0_f11 h0_f12 h0_f13 h0_f14 h0_15 h0_16 h0_f17 h0_18 h0_19 h0_20 h0_21 h0_22 h0_23 h0_24 h0_25 h0_f26 h0_f27 h0_f28 h0_f29 h0_f30 h0_f31 h0_32 h0_33 h0_f34 h0_35 h0_36 h0_37 h0_38 h0_39 h0_40 h0_f41 h0_f42 h0_f43 h0_f44 h0_45 h0_46 h0_47 h0_48 h0_49 h0_50 h0_f51 h0_52 h0_f53 h0_39 h0_39k h0_39c h0_38 h0_38k w_52) := hD
          refine lv_lload hx hb dX12_fogOf_148 (lv_at hl 0 rfl) ?_
          have hK9 := hK.sub (tys' := []) [] rfl
          exact W.lret (v := x_48) hx hb hr (fun t ht hW => ⟨⟨x_48, w_52, rfl, (Or.inl (LG_any x_48)), by rw [ht]; exact hP, va_K.moved hW.alike hK9, hD⟩, hS.F ht⟩) hS.2.2 dX12_fogOf_150
      · rw [h_28]
        refine lv_lstore (lv' := [(8, .long 0), (6, .long x_23), (0, .ref h0), (1, .int p1), (2, .int 3), (3, .int p3), (4, .long p4)]) hx hb dX12_fogOf_97 hl (Nat.le_of_ble_eq_true rfl) rfl (fun ls hl => ?_)
        as_aux_lemma =>
        refine lv_aload_n hx hb dX12_fogOf_99 rfl (lv_at hl 2 rfl) ?_
        refine va_get (D := (dC, dI)) (ci := 12) (v := .ref h0_38) (C := RX12) (T := TX12) (N := 54) hx hb hts iw_c_X12_fogOf_3_X12 hown hK hP 0 rfl rfl 38 (by decide +kernel) (hts (.fieldLink RX12 81 "BuoyVoteModel" "tally" "[I") (List.mem_of_getElem? (i := 9) rfl)) (fun _ h9 => h9) rfl dX12_fogOf_100 ?_
        refine lv_aload_n hx hb dX12_fogOf_103 rfl (lv_at hl 2 rfl) ?_
        refine va_get (D := (dC, dI)) (ci := 12) (v := .ref h0_39) (C := RX12) (T := TX12) (N := 54) hx hb hts iw_c_X12_fogOf_3_X12 hown hK hP 0 rfl rfl 39 (by decide +kernel) (hts (.fieldLink RX12 84 "BuoyVoteModel" "leans" "[I") (List.mem_of_getElem? (i := 2) rfl)) (fun _ h9 => h9) rfl dX12_fogOf_104 ?_
        refine lv_iload_n hx hb dX12_fogOf_107 rfl (lv_at hl 4 rfl) ?_
        refine va_iald hx hb hK hP 1 0 rfl rfl (RG_in (RG_k 3 3 rfl) (by decide +kernel)) dX12_fogOf_108 ?_
        refine lv_topi (fun x_54 ex_54 => ?_)
        obtain rfl : x_16 = x_54 := (ex_54.trans ex_16.symm).symm
        refine lv_dup2_11 hx hb dX12_fogOf_109 rfl rfl ?_
        refine va_iald hx hb hK hP 2 1 rfl rfl (RG_in g_19 (by decide +kernel)) dX12_fogOf_110 ?_
        refine lv_topi (fun x_55 ex_55 => ?_)
        refine lv_iconst (v := 1) hx hb dX12_fogOf_111 kc_iconst_1 ?_
        refine lv_iadd hx hb dX12_fogOf_112 ?_
        refine lv_topi (fun x_56 ex_56 => ?_)
        as_aux_lemma =>
        refine va_iast hx hb hK hP hD hS 2 1 rfl rfl (RG_in g_19 (by decide +kernel)) dX12_fogOf_113 (fun H locs hP hD hS => ?_)
        have hP : va_P (dC, dI) vwCl (wd_c_X12_fogOf_3 h0 h0_f0 h0_1 h0_2 h0_3 h0_4 h0_5 h0_f6 h0_f7 h0_f8 h0_f9 h0_f10 h0_f11 h0_f12 h0_f13 h0_f14 h0_15 h0_16 h0_f17 h0_18 h0_19 h0_20 h0_21 h0_22 h0_23 h0_24 h0_25 h0_f26 h0_f27 h0_f28 h0_f29 h0_f30 h0_f31 h0_32 h0_33 h0_f34 h0_35 h0_36 h0_37 h0_38 h0_39 h0_40 h0_f41 h0_f42 h0_f43 h0_f44 h0_45 h0_46 h0_47 h0_48 h0_49 h0_50 h0_f51 h0_52 h0_f53 h0_39 h0_39k h0_39c h0_38 h0_38k (upd w_26 (x_16 : Int32).toNatClampNeg x_56)) H := hP
        have hD : va_D A (wd_c_X12_fogOf_3 h0 h0_f0 h0_1 h0_2 h0_3 h0_4 h0_5 h0_f6 h0_f7 h0_f8 h0_f9 h0_f10 h0_f11 h0_f12 h0_f13 h0_f14 h0_15 h0_16 h0_f17 h0_18 h0_19 h0_20 h0_21 h0_22 h0_23 h0_24 h0_25 h0_f26 h0_f27 h0_f28 h0_f29 h0_f30 h0_f31 h0_32 h0_33 h0_f34 h0_35 h0_36 h0_37 h0_38 h0_39 h0_40 h0_f41 h0_f42 h0_f43 h0_f44 h0_45 h0_46 h0_47 h0_48 h0_49 h0_50 h0_f51 h0_52 h0_f53 h0_39 h0_39k h0_39c h0_38 h0_38k (upd w_26 (x_16 : Int32).toNatClampNeg x_56)) := hD
        have l_58 : (upd w_26 (x_16 : Int32).toNatClampNeg x_56) (x_16 : Int32).toNatClampNeg = x_56 := pk_us
        generalize (upd w_26 (x_16 : Int32).toNatClampNeg x_56) = w_57 at hP hD l_58
        have hP : va_P (dC, dI) vwCl (wd_c_X12_fogOf_3 h0 h0_f0 h0_1 h0_2 h0_3 h0_4 h0_5 h0_f6 h0_f7 h0_f8 h0_f9 h0_f10 h0_f11 h0_f12 h0_f13 h0_f14 h0_15 h0_16 h0_f17 h0_18 h0_19 h0_20 h0_21 h0_22 h0_23 h0_24 h0_25 h0_f26 h0_f27 h0_f28 h0_f29 h0_f30 h0_f31 h0_32 h0_33 h0_f34 h0_35 h0_36 h0_37 h0_38 h0_39 h0_40 h0_f41 h0_f42 h0_f43 h0_f44 h0_45 h0_46 h0_47 h0_48 h0_49 h0_50 h0_f51 h0_52 h0_f53 h0_39 h0_39k h0_39c h0_38 h0_38k w_57) H := hP
        have hD : va_D A (wd_c_X12_fogOf_3 h0 h0_f0 h0_1 h0_2 h0_3 h0_4 h0_5 h0_f6 h0_f7 h0_f8 h0_f9 h0_f10 h0_f11 h0_f12 h0_f13 h0_f14 h0_15 h0_16 h0_f17 h0_18 h0_19 h0_20 h0_21 h0_22 h0_23 h0_24 h0_25 h0_f26 h0_f27 h0_f28 h0_f29 h0_f30 h0_f31 h0_32 h0_33 h0_f34 h0_35 h0_36 h0_37 h0_38 h0_39 h0_40 h0_f41 h0_f42 h0_f43 h0_f44 h0_45 h0_46 h0_47 h0_48 h0_49 h0_50 h0_f51 h0_52 h0_f53 h0_39 h0_39k h0_39c h0_38 h0_38k w_57) := hD
        refine lv_lload hx hb dX12_fogOf_114 (lv_at hl 0 rfl) ?_
        refine lv_aload_n hx hb dX12_fogOf_116 rfl (lv_at hl 2 rfl) ?_
        refine lv_iload_n hx hb dX12_fogOf_117 rfl (lv_at hl 3 rfl) ?_
        refine lv_iload_n hx hb dX12_fogOf_118 rfl (lv_at hl 4 rfl) ?_
        refine lv_iconst (v := 1) hx hb dX12_fogOf_119 kc_iconst_1 ?_
        refine lv_iadd hx hb dX12_fogOf_120 ?_
        refine lv_topi (fun x_59 ex_59 => ?_)
        as_aux_lemma =>
        obtain rfl : x_59 = 4 := ex_59.trans (by decide +kernel)
        refine lv_iload_n hx hb dX12_fogOf_121 rfl (lv_at hl 5 rfl) ?_
        refine lv_lload hx hb dX12_fogOf_122 (lv_at hl 6 rfl) ?_
        refine lv_lload hx hb dX12_fogOf_124 (lv_at hl 1 rfl) ?_
        refine lv_lsub hx hb dX12_fogOf_126 ?_
        refine lv_topl (fun x_60 ex_60 => ?_)
        obtain ⟨hPc, hDc, hFc, hqc⟩ := cl_cut (wc := (wd_c_X12_fogOf_4 h0 h0_f0 h0_1 h0_2 h0_3 h0_4 h0_5 h0_f6 h0_f7 h0_f8 h0_f9 h0_f10 h0_f11 h0_f12 h0_f13 h0_f14 h0_15 h0_16 h0_f17 h0_18 h0_19 h0_20 h0_21 h0_22 h0_23 h0_24 h0_25 h0_f26 h0_f27 h0_f28 h0_f29 h0_f30 h0_f31 h0_32 h0_33 h0_f34 h0_35 h0_36 h0_37 h0_38 h0_39 h0_40 h0_f41 h0_f42 h0_f43 h0_f44 h0_45 h0_46 h0_47 h0_48 h0_49 h0_50 h0_f51 h0_52 h0_f53 h0_39 h0_39k h0_39c h0_38 h0_38k w_57)) hP hD hS hA [0, 1, 2] (by decide +kernel) rfl
        have hKc := hK.sub (tys' := [(h0_39k, .int), (h0_38k, .int)]) [0, 1] rfl
        have hrv := va_recv hKc hPc (ci := 12) (q0 := 0) rfl rfl
        refine va_calll (va_runV (As := [.int p1, .int 4, .int p3, .long x_60]) (rest := [.long 0]) ⟨hx, hb, hml, hown, hts⟩ (c_X12_fogOf_4 l dC dI H.size h0 p1 p3 x_60 h0_f0 h0_1 h0_2 h0_3 h0_4 h0_5 h0_f6 h0_f7 h0_f8 h0_f9 h0_f10 h0_f11 h0_f12 h0_f13 h0_f14 h0_15 h0_16 h0_f17 h0_18 h0_19 h0_20 h0_21 h0_22 h0_23 h0_24 h0_25 h0_f26 h0_f27 h0_f28 h0_f29 h0_f30 h0_f31 h0_32 h0_33 h0_f34 h0_35 h0_36 h0_37 h0_38 h0_39 h0_40 h0_f41 h0_f42 h0_f43 h0_f44 h0_45 h0_46 h0_47 h0_48 h0_49 h0_50 h0_f51 h0_52 h0_f53 h0_39k h0_39c h0_38k w_57 g_p1 g_p3 g_h0_f6 g_h0_f7 g_h0_f8 g_h0_f9 g_h0_f10 g_h0_f11 g_h0_f17 g_15 (RG_w h_29 (by decide +kernel)) g_h0_f28 g_h0_f29 g_h0_f30 g_h0_f31 g_h0_f34 g_h0_f41 g_h0_f51 g_h0_f53 a_h0_39c) (cwV 4 hts gf_c_X12_fogOf_3_c_X12_fogOf_4 rfl rfl rfl mdV_X12_fogOf ⟨Nat.le_of_ble_eq_true rfl, Nat.le_of_ble_eq_true rfl⟩) ⟨fun a U g mk q => by obtain ⟨q0, q1, qP, qK, qD⟩ := q; exact ⟨q0, q1, qP, va_K.moved (u := U) (U := U.calling g mk a) (Vm.Alike.refl U.vm) qK, qD⟩, hrv, fun U hU hW => ⟨rfl, by rw [hU], by rw [hU]; exact hPc, va_K.moved hW.alike hKc, hDc.weaken (fun _ _ _ _ => trivial)⟩⟩ rfl rfl hl.1 rfl (lv_room (Nat.le_of_ble_eq_true rfl)) dX12_fogOf_127 ⟨Nat.le_of_ble_eq_true rfl, Nat.le_of_ble_eq_true rfl⟩) hS (fun q _ h => hFc q h) hFc (fun r_61 w_62 t H1 locs ht hvm hw hB hz1 hk1 hS => ?_)
        obtain ⟨hP1, hK1, hD1⟩ := hB
        rw [ht] at hP1
        obtain ⟨hP, hD⟩ := cl_put (w1 := (wd_c_X12_fogOf_4 h0 h0_f0 h0_1 h0_2 h0_3 h0_4 h0_5 h0_f6 h0_f7 h0_f8 h0_f9 h0_f10 h0_f11 h0_f12 h0_f13 h0_f14 h0_15 h0_16 h0_f17 h0_18 h0_19 h0_20 h0_21 h0_22 h0_23 h0_24 h0_25 h0_f26 h0_f27 h0_f28 h0_f29 h0_f30 h0_f31 h0_32 h0_33 h0_f34 h0_35 h0_36 h0_37 h0_38 h0_39 h0_40 h0_f41 h0_f42 h0_f43 h0_f44 h0_45 h0_46 h0_47 h0_48 h0_49 h0_50 h0_f51 h0_52 h0_f53 h0_39 h0_39k h0_39c h0_38 h0_38k w_62)) (nw := (wd_c_X12_fogOf_3 h0 h0_f0 h0_1 h0_2 h0_3 h0_4 h0_5 h0_f6 h0_f7 h0_f8 h0_f9 h0_f10 h0_f11 h0_f12 h0_f13 h0_f14 h0_15 h0_16 h0_f17 h0_18 h0_19 h0_20 h0_21 h0_22 h0_23 h0_24 h0_25 h0_f26 h0_f27 h0_f28 h0_f29 h0_f30 h0_f31 h0_32 h0_33 h0_f34 h0_35 h0_36 h0_37 h0_38 h0_39 h0_40 h0_f41 h0_f42 h0_f43 h0_f44 h0_45 h0_46 h0_47 h0_48 h0_49 h0_50 h0_f51 h0_52 h0_f53 h0_39 h0_39k h0_39c h0_38 h0_38k w_62)) hP hD [0, 1, 2] [3, 4, 5] 3 rfl hqc (by decide +kernel) rfl hk1 hFc hP1 hD1
        generalize H1 = H at hP hS ⊢
        as_aux_lemma =>
        rcases hw with h_63 | ⟨h_64, h_65⟩
        · refine lv_ladd hx hb dX12_fogOf_130 ?_
          refine lv_topl (fun x_66 ex_66 => ?_)
          refine lv_lstore (lv' := [(8, .long x_66), (6, .long x_23), (0, .ref h0), (1, .int p1), (2, .int 3), (3, .int p3), (4, .long p4)]) hx hb dX12_fogOf_131 hl (Nat.le_of_ble_eq_true rfl) rfl (fun ls hl => ?_)
          refine lv_aload_n hx hb dX12_fogOf_133 rfl (lv_at hl 2 rfl) ?_
          refine va_get (D := (dC, dI)) (ci := 12) (v := .ref h0_38) (C := RX12) (T := TX12) (N := 54) hx hb hts iw_c_X12_fogOf_3_X12 hown hK hP 0 rfl rfl 38 (by decide +kernel) (hts (.fieldLink RX12 81 "BuoyVoteModel" "tally" "[I") (List.mem_of_getElem? (i := 9) rfl)) (fun _ h9 => h9) rfl dX12_fogOf_134 ?_
          refine lv_aload_n hx hb dX12_fogOf_137 rfl (lv_at hl 2 rfl) ?_
          refine va_get (D := (dC, dI)) (ci := 12) (v := .ref h0_39) (C := RX12) (T := TX12) (N := 54) hx hb hts iw_c_X12_fogOf_3_X12 hown hK hP 0 rfl rfl 39 (by decide +kernel) (hts (.fieldLink RX12 84 "BuoyVoteModel" "leans" "[I") (List.mem_of_getElem? (i := 2) rfl)) (fun _ h9 => h9) rfl dX12_fogOf_138 ?_
          refine lv_iload_n hx hb dX12_fogOf_141 rfl (lv_at hl 4 rfl) ?_
          refine va_iald hx hb hK hP 1 0 rfl rfl (RG_in (RG_k 3 3 rfl) (by decide +kernel)) dX12_fogOf_142 ?_
          refine lv_topi (fun x_67 ex_67 => ?_)
          obtain rfl : x_16 = x_67 := (ex_67.trans ex_16.symm).symm
          refine lv_dup2_11 hx hb dX12_fogOf_143 rfl rfl ?_
          refine va_iald hx hb hK hP 2 1 rfl rfl (RG_in g_19 (by decide +kernel)) dX12_fogOf_144 ?_
          as_aux_lemma =>
          refine lv_topi (fun x_68 ex_68 => ?_)
          refine lv_iconst (v := 1) hx hb dX12_fogOf_145 kc_iconst_1 ?_
          refine lv_isub hx hb dX12_fogOf_146 ?_
          refine lv_topi (fun x_69 ex_69 => ?_)
          refine va_iast hx hb hK hP hD hS 2 1 rfl rfl (RG_in g_19 (by decide +kernel)) dX12_fogOf_147 (fun H locs hP hD hS => ?_)
          have hP : va_P (dC, dI) vwCl (wd_c_X12_fogOf_3 h0 h0_f0 h0_1 h0_2 h0_3 h0_4 h0_5 h0_f6 h0_f7 h0_f8 h0_f9 h0_f10 h0_f11 h0_f12 h0_f13 h0_f14 h0_15 h0_16 h0_f17 h0_18 h0_19 h0_20 h0_21 h0_22 h0_23 h0_24 h0_25 h0_f26 h0_f27 h0_f28 h0_f29 h0_f30 h0_f31 h0_32 h0_33 h0_f34 h0_35 h0_36 h0_37 h0_38 h0_39 h0_40 h0_f41 h0_f42 h0_f43 h0_f44 h0_45 h0_46 h0_47 h0_48 h0_49 h0_50 h0_f51 h0_52 h0_f53 h0_39 h0_39k h0_39c h0_38 h0_38k (upd w_62 (x_16 : Int32).toNatClampNeg x_69)) H := hP
          have hD : va_D A (wd_c_X12_fogOf_3 h0 h0_f0 h0_1 h0_2 h0_3 h0_4 h0_5 h0_f6 h0_f7 h0_f8 h0_f9 h0_f10 h0_f11 h0_f12 h0_f13 h0_f14 h0_15 h0_16 h0_f17 h0_18 h0_19 h0_20 h0_21 h0_22 h0_23 h0_24 h0_25 h0_f26 h0_f27 h0_f28 h0_f29 h0_f30 h0_f31 h0_32 h0_33 h0_f34 h0_35 h0_36 h0_37 h0_38 h0_39 h0_40 h0_f41 h0_f42 h0_f43 h0_f44 h0_45 h0_46 h0_47 h0_48 h0_49 h0_50 h0_f51 h0_52 h0_f53 h0_39 h0_39k h0_39c h0_38 h0_38k (upd w_62 (x_16 : Int32).toNatClampNeg x_69)) := hD
          have l_71 : (upd w_62 (x_16 : Int32).toNatClampNeg x_69) (x_16 : Int32).toNatClampNeg = x_69 := pk_us
          generalize (upd w_62 (x_16 : Int32).toNatClampNeg x_69) = w_70 at hP hD l_71
          have hP : va_P (dC, dI) vwCl (wd_c_X12_fogOf_3 h0 h0_f0 h0_1 h0_2 h0_3 h0_4 h0_5 h0_f6 h0_f7 h0_f8 h0_f9 h0_f10 h0_f11 h0_f12 h0_f13 h0_f14 h0_15 h0_16 h0_f17 h0_18 h0_19 h0_20 h0_21 h0_22 h0_23 h0_24 h0_25 h0_f26 h0_f27 h0_f28 h0_f29 h0_f30 h0_f31 h0_32 h0_33 h0_f34 h0_35 h0_36 h0_37 h0_38 h0_39 h0_40 h0_f41 h0_f42 h0_f43 h0_f44 h0_45 h0_46 h0_47 h0_48 h0_49 h0_50 h0_f51 h0_52 h0_f53 h0_39 h0_39k h0_39c h0_38 h0_38k w_70) H := hP
          have hD : va_D A (wd_c_X12_fogOf_3 h0 h0_f0 h0_1 h0_2 h0_3 h0_4 h0_5 h0_f6 h0_f7 h0_f8 h0_f9 h0_f10 h0_f11 h0_f12 h0_f13 h0_f14 h0_15 h0_16 h0_f17 h0_18 h0_19 h0_20 h0_21 h0_22 h0_23 h0_24 h0_25 h0_f26 h0_f27 h0_f28 h0_f29 h0_f30 h0_f31 h0_32 h0_33 h0_f34 h0_35 h0_36 h0_37 h0_38 h0_39 h0_40 h0_f41 h0_f42 h0_f43 h0_f44 h0_45 h0_46 h0_47 h0_48 h0_49 h0_50 h0_f51 h0_52 h0_f53 h0_39 h0_39k h0_39c h0_38 h0_38k w_70) := hD
          refine lv_lload hx hb dX12_fogOf_148 (lv_at hl 0 rfl) ?_
          have hK9 := hK.sub (tys' := []) [] rfl
          exact W.lret (v := x_66) hx hb hr (fun t ht hW => ⟨⟨x_66, w_70, rfl, (Or.inl (LG_any x_66)), by rw [ht]; exact hP, va_K.moved hW.alike hK9, hD⟩, hS.F ht⟩) hS.2.2 dX12_fogOf_150
        · rw [h_64]
          refine lv_ladd hx hb dX12_fogOf_130 ?_
          as_aux_lemma =>
          refine lv_topl (fun x_72 ex_72 => ?_)
          obtain rfl : x_72 = 0 := ex_72.trans (by decide +kernel)
          refine lv_lstore (lv' := [(8, .long 0), (6, .long x_23), (0, .ref h0), (1, .int p1), (2, .int 3), (3, .int p3), (4, .long p4)]) hx hb dX12_fogOf_131 hl (Nat.le_of_ble_eq_true rfl) rfl (fun ls hl => ?_)
          refine lv_aload_n hx hb dX12_fogOf_133 rfl (lv_at hl 2 rfl) ?_
          refine va_get (D := (dC, dI)) (ci := 12) (v := .ref h0_38) (C := RX12) (T := TX12) (N := 54) hx hb hts iw_c_X12_fogOf_3_X12 hown hK hP 0 rfl rfl 38 (by decide +kernel) (hts (.fieldLink RX12 81 "BuoyVoteModel" "tally" "[I") (List.mem_of_getElem? (i := 9) rfl)) (fun _ h9 => h9) rfl dX12_fogOf_134 ?_
          refine lv_aload_n hx hb dX12_fogOf_137 rfl (lv_at hl 2 rfl) ?_
          refine va_get (D := (dC, dI)) (ci := 12) (v := .ref h0_39) (C := RX12) (T := TX12) (N := 54) hx hb hts iw_c_X12_fogOf_3_X12 hown hK hP 0 rfl rfl 39 (by decide +kernel) (hts (.fieldLink RX12 84 "BuoyVoteModel" "leans" "[I") (List.mem_of_getElem? (i := 2) rfl)) (fun _ h9 => h9) rfl dX12_fogOf_138 ?_
          refine lv_iload_n hx hb dX12_fogOf_141 rfl (lv_at hl 4 rfl) ?_
          refine va_iald hx hb hK hP 1 0 rfl rfl (RG_in (RG_k 3 3 rfl) (by decide +kernel)) dX12_fogOf_142 ?_
          refine lv_topi (fun x_73 ex_73 => ?_)
          obtain rfl : x_16 = x_73 := (ex_73.trans ex_16.symm).symm
          refine lv_dup2_11 hx hb dX12_fogOf_143 rfl rfl ?_
          refine va_iald hx hb hK hP 2 1 rfl rfl (RG_in g_19 (by decide +kernel)) dX12_fogOf_144 ?_
          refine lv_topi (fun x_74 ex_74 => ?_)
          as_aux_lemma =>
          refine lv_iconst (v := 1) hx hb dX12_fogOf_145 kc_iconst_1 ?_
          refine lv_isub hx hb dX12_fogOf_146 ?_
          refine lv_topi (fun x_75 ex_75 => ?_)
          refine va_iast hx hb hK hP hD hS 2 1 rfl rfl (RG_in g_19 (by decide +kernel)) dX12_fogOf_147 (fun H locs hP hD hS => ?_)
          have hP : va_P (dC, dI) vwCl (wd_c_X12_fogOf_3 h0 h0_f0 h0_1 h0_2 h0_3 h0_4 h0_5 h0_f6 h0_f7 h0_f8 h0_f9 h0_f10 h0_f11 h0_f12 h0_f13 h0_f14 h0_15 h0_16 h0_f17 h0_18 h0_19 h0_20 h0_21 h0_22 h0_23 h0_24 h0_25 h0_f26 h0_f27 h0_f28 h0_f29 h0_f30 h0_f31 h0_32 h0_33 h0_f34 h0_35 h0_36 h0_37 h0_38 h0_39 h0_40 h0_f41 h0_f42 h0_f43 h0_f44 h0_45 h0_46 h0_47 h0_48 h0_49 h0_50 h0_f51 h0_52 h0_f53 h0_39 h0_39k h0_39c h0_38 h0_38k (upd w_62 (x_16 : Int32).toNatClampNeg x_75)) H := hP
          have hD : va_D A (wd_c_X12_fogOf_3 h0 h0_f0 h0_1 h0_2 h0_3 h0_4 h0_5 h0_f6 h0_f7 h0_f8 h0_f9 h0_f10 h0_f11 h0_f12 h0_f13 h0_f14 h0_15 h0_16 h0_f17 h0_18 h0_19 h0_20 h0_21 h0_22 h0_23 h0_24 h0_25 h0_f26 h0_f27 h0_f28 h0_f29 h0_f30 h0_f31 h0_32 h0_33 h0_f34 h0_35 h0_36 h0_37 h0_38 h0_39 h0_40 h0_f41 h0_f42 h0_f43 h0_f44 h0_45 h0_46 h0_47 h0_48 h0_49 h0_50 h0_f51 h0_52 h0_f53 h0_39 h0_39k h0_39c h0_38 h0_38k (upd w_62 (x_16 : Int32).toNatClampNeg x_75)) := hD
          have l_77 : (upd w_62 (x_16 : Int32).toNatClampNeg x_75) (x_16 : Int32).toNatClampNeg = x_75 := pk_us
          generalize (upd w_62 (x_16 : Int32).toNatClampNeg x_75) = w_76 at hP hD l_77
          have hP : va_P (dC, dI) vwCl (wd_c_X12_fogOf_3 h0 h0_f0 h0_1 h0_2 h0_3 h0_4 h0_5 h0_f6 h0_f7 h0_f8 h0_f9 h0_f10 h0_f11 h0_f12 h0_f13 h0_f14 h0_15 h0_16 h0_f17 h0_18 h0_19 h0_20 h0_21 h0_22 h0_23 h0_24 h0_25 h0_f26 h0_f27 h0_f28 h0_f29 h0_f30 h0_f31 h0_32 h0_33 h0_f34 h0_35 h0_36 h0_37 h0_38 h0_39 h0_40 h0_f41 h0_f42 h0_f43 h0_f44 h0_45 h0_46 h0_47 h0_48 h0_49 h0_50 h0_f51 h0_52 h0_f53 h0_39 h0_39k h0_39c h0_38 h0_38k w_76) H := hP
          have hD : va_D A (wd_c_X12_fogOf_3 h0 h0_f0 h0_1 h0_2 h0_3 h0_4 h0_5 h0_f6 h0_f7 h0_f8 h0_f9 h0_f10 h0_f11 h0_f12 h0_f13 h0_f14 h0_15 h0_16 h0_f17 h0_18 h0_19 h0_20 h0_21 h0_22 h0_23 h0_24 h0_25 h0_f26 h0_f27 h0_f28 h0_f29 h0_f30 h0_f31 h0_32 h0_33 h0_f34 h0_35 h0_36 h0_37 h0_38 h0_39 h0_40 h0_f41 h0_f42 h0_f43 h0_f44 h0_45 h0_46 h0_47 h0_48 h0_49 h0_50 h0_f51 h0_52 h0_f53 h0_39 h0_39k h0_39c h0_38 h0_38k w_76) := hD
          refine lv_lload hx hb dX12_fogOf_148 (lv_at hl 0 rfl) ?_
          have hK9 := hK.sub (tys' := []) [] rfl
          exact W.lret (v := 0) hx hb hr (fun t ht hW => ⟨⟨0, w_76, rfl, (Or.inr ⟨rfl, h_29⟩), by rw [ht]; exact hP, va_K.moved hW.alike hK9, hD⟩, hS.F ht⟩) hS.2.2 dX12_fogOf_150
    · have g_78 : RG x_16 (-1) (-1) := RG_eq1 g_17 (RG_k (-1) (-1) rfl) c_18 (by decide +kernel)
      refine lv_aload_n hx hb dX12_fogOf_63 rfl (lv_at hl 0 rfl) ?_
      as_aux_lemma =>
      refine lv_iload_n hx hb dX12_fogOf_64 rfl (lv_at hl 1 rfl) ?_
      refine lv_iload_n hx hb dX12_fogOf_65 rfl (lv_at hl 2 rfl) ?_
      refine lv_iconst (v := 1) hx hb dX12_fogOf_66 kc_iconst_1 ?_
      refine lv_iadd hx hb dX12_fogOf_67 ?_
      refine lv_topi (fun x_79 ex_79 => ?_)
      obtain rfl : x_79 = 4 := ex_79.trans (by decide +kernel)
      refine lv_iload_n hx hb dX12_fogOf_68 rfl (lv_at hl 3 rfl) ?_
      refine lv_lload hx hb dX12_fogOf_69 (lv_at hl 4 rfl) ?_
      obtain ⟨hPc, hDc, hFc, hqc⟩ := cl_cut (wc := (wd_c_X12_fogOf_4 h0 h0_f0 h0_1 h0_2 h0_3 h0_4 h0_5 h0_f6 h0_f7 h0_f8 h0_f9 h0_f10 h0_f11 h0_f12 h0_f13 h0_f14 h0_15 h0_16 h0_f17 h0_18 h0_19 h0_20 h0_21 h0_22 h0_23 h0_24 h0_25 h0_f26 h0_f27 h0_f28 h0_f29 h0_f30 h0_f31 h0_32 h0_33 h0_f34 h0_35 h0_36 h0_37 h0_38 h0_39 h0_40 h0_f41 h0_f42 h0_f43 h0_f44 h0_45 h0_46 h0_47 h0_48 h0_49 h0_50 h0_f51 h0_52 h0_f53 h0_39 h0_39k h0_39c h0_38 h0_38k h0_38c)) hP hD hS hA [0, 1, 2] (by decide +kernel) rfl
      have hKc := hK.sub (tys' := [(h0_39k, .int), (h0_38k, .int)]) [0, 1] rfl
      have hrv := va_recv hKc hPc (ci := 12) (q0 := 0) rfl rfl
      refine va_calll (va_runV (As := [.int p1, .int 4, .int p3, .long p4]) (rest := []) ⟨hx, hb, hml, hown, hts⟩ (c_X12_fogOf_4 l dC dI H.size h0 p1 p3 p4 h0_f0 h0_1 h0_2 h0_3 h0_4 h0_5 h0_f6 h0_f7 h0_f8 h0_f9 h0_f10 h0_f11 h0_f12 h0_f13 h0_f14 h0_15 h0_16 h0_f17 h0_18 h0_19 h0_20 h0_21 h0_22 h0_23 h0_24 h0_25 h0_f26 h0_f27 h0_f28 h0_f29 h0_f30 h0_f31 h0_32 h0_33 h0_f34 h0_35 h0_36 h0_37 h0_38 h0_39 h0_40 h0_f41 h0_f42 h0_f43 h0_f44 h0_45 h0_46 h0_47 h0_48 h0_49 h0_50 h0_f51 h0_52 h0_f53 h0_39k h0_39c h0_38k h0_38c g_p1 g_p3 g_h0_f6 g_h0_f7 g_h0_f8 g_h0_f9 g_h0_f10 g_h0_f11 g_h0_f17 g_15 g_h0_f27 g_h0_f28 g_h0_f29 g_h0_f30 g_h0_f31 g_h0_f34 g_h0_f41 g_h0_f51 g_h0_f53 a_h0_39c) (cwV 4 hts gf_c_X12_fogOf_3_c_X12_fogOf_4 rfl rfl rfl mdV_X12_fogOf ⟨Nat.le_of_ble_eq_true rfl, Nat.le_of_ble_eq_true rfl⟩) ⟨fun a U g mk q => by obtain ⟨q0, q1, qP, qK, qD⟩ := q; exact ⟨q0, q1, qP, va_K.moved (u := U) (U := U.calling g mk a) (Vm.Alike.refl U.vm) qK, qD⟩, hrv, fun U hU hW => ⟨rfl, by rw [hU], by rw [hU]; exact hPc, va_K.moved hW.alike hKc, hDc.weaken (fun _ _ _ _ => trivial)⟩⟩ rfl rfl hl.1 rfl (lv_room (Nat.le_of_ble_eq_true rfl)) dX12_fogOf_71 ⟨Nat.le_of_ble_eq_true rfl, Nat.le_of_ble_eq_true rfl⟩) hS (fun q _ h => hFc q h) hFc (fun r_80 w_81 t H1 locs ht hvm hw hB hz1 hk1 hS => ?_)
      obtain ⟨hP1, hK1, hD1⟩ := hB
      rw [ht] at hP1
      obtain ⟨hP, hD⟩ := cl_put (w1 := (wd_c_X12_fogOf_4 h0 h0_f0 h0_1 h0_2 h0_3 h0_4 h0_5 h0_f6 h0_f7 h0_f8 h0_f9 h0_f10 h0_f11 h0_f12 h0_f13 h0_f14 h0_15 h0_16 h0_f17 h0_18 h0_19 h0_20 h0_21 h0_22 h0_23 h0_24 h0_25 h0_f26 h0_f27 h0_f28 h0_f29 h0_f30 h0_f31 h0_32 h0_33 h0_f34 h0_35 h0_36 h0_37 h0_38 h0_39 h0_40 h0_f41 h0_f42 h0_f43 h0_f44 h0_45 h0_46 h0_47 h0_48 h0_49 h0_50 h0_f51 h0_52 h0_f53 h0_39 h0_39k h0_39c h0_38 h0_38k w_81)) (nw := (wd_c_X12_fogOf_3 h0 h0_f0 h0_1 h0_2 h0_3 h0_4 h0_5 h0_f6 h0_f7 h0_f8 h0_f9 h0_f10 h0_f11 h0_f12 h0_f13 h0_f14 h0_15 h0_16 h0_f17 h0_18 h0_19 h0_20 h0_21 h0_22 h0_23 h0_24 h0_25 h0_f26 h0_f27 h0_f28 h0_f29 h0_f30 h0_f31 h0_32 h0_33 h0_f34 h0_35 h0_36 h0_37 h0_38 h0_39 h0_40 h0_f41 h0_f42 h0_f43 h0_f44 h0_45 h0_46 h0_47 h0_48 h0_49 h0_50 h0_f51 h0_52 h0_f53 h0_39 h0_39k h0_39c h0_38 h0_38k w_81)) hP hD [0, 1, 2] [3, 4, 5] 3 rfl hqc (by decide +kernel) rfl hk1 hFc hP1 hD1
      generalize H1 = H at hP hS ⊢
      as_aux_lemma =>
      rcases hw with h_82 | ⟨h_83, h_84⟩
      · have hK9 := hK.sub (tys' := []) [] rfl
        exact W.lret (v := r_80) hx hb hr (fun t ht hW => ⟨⟨r_80, w_81, rfl, (Or.inl h_82), by rw [ht]; exact hP, va_K.moved hW.alike hK9, hD⟩, hS.F ht⟩) hS.2.2 dX12_fogOf_74
      · rw [h_83]
        have hK9 := hK.sub (tys' := []) [] rfl
        exact W.lret (v := 0) hx hb hr (fun t ht hW => ⟨⟨0, w_81, rfl, (Or.inr ⟨rfl, h_84⟩), by rw [ht]; exact hP, va_K.moved hW.alike hK9, hD⟩, hS.F ht⟩) hS.2.2 dX12_fogOf_74
  · have g_85 : RG h0_f26 3 3 := RG_eq1 g_h0_f26 (RG_k 3 3 rfl) c_14.symm (by decide +kernel)
    refine lv_iconst (v := 0) hx hb dX12_fogOf_8 kc_iconst_0 ?_
    refine lv_istore (lv' := [(6, .int 0), (0, .ref h0), (1, .int p1), (2, .int 3), (3, .int p3), (4, .long p4)]) hx hb dX12_fogOf_9 hl (Nat.le_of_ble_eq_true rfl) rfl (fun ls hl => ?_)
    exact hU _ _ _ (J11 _ 0 (Nat.lt_succ_self _) g_h0_f10 g_h0_f11 g_h0_f17 g_85 g_h0_f27 g_h0_f28 g_h0_f29 g_h0_f30 g_h0_f31 g_h0_f34 g_h0_f41 g_h0_f51 g_h0_f53 g_h0_f6 g_h0_f7 g_h0_f8 g_h0_f9 (RG_w (RG_k 0 0 rfl) (by decide +kernel)) g_p1 g_p3 _ _ _ hP hD hS (lv_sub hl [0, 1, 2, 5] rfl))
noncomputable def wd_c_X12_fogOf_2 (a0 : Nat) (a1 : Int32) (a2 : Nat) (a3 : Nat) (a4 : Nat) (a5 : Nat) (a6 : Nat) (a7 : Int32) (a8 : Int32) (a9 : Int32) (a10 : Int32) (a11 : Int32) (a12 : Int32) (a13 : Int32) (a14 : Int32) (a15 : Int32) (a16 : Nat) (a17 : Nat) (a18 : Int32) (a19 : Nat) (a20 : Nat) (a21 : Nat) (a22 : Nat) (a23 : Nat) (a24 : Nat) (a25 : Nat) (a26 : Nat) (a27 : Int32) (a28 : Int32) (a29 : Int32) (a30 : Int32) (a31 : Int32) (a32 : Int32) (a33 : Nat) (a34 : Nat) (a35 : Int32) (a36 : Nat) (a37 : Nat) (a38 : Nat) (a39 : Nat) (a40 : Nat) (a41 : Nat) (a42 : Int32) (a43 : Int64) (a44 : Int32) (a45 : Int32) (a46 : Nat) (a47 : Nat) (a48 : Nat) (a49 : Nat) (a50 : Nat) (a51 : Nat) (a52 : Int32) (a53 : Nat) (a54 : Int32) (a55 : Nat) (a56 : ClassId) (a57 : Nat → Int32) (a58 : Nat) (a59 : ClassId) (a60 : Nat → Int32) : va_W := [(a0, .inr (12, [.int a1, .ref a2, .ref a3, .ref a4, .ref a5, .ref a6, .int a7, .int a8, .int a9, .int a10, .int a11, .int a12, .int a13, .int a14, .int a15, .ref a16, .ref a17, .int a18, .ref a19, .ref a20, .ref a21, .ref a22, .ref a23, .ref a24, .ref a25, .ref a26, .int a27, .int a28, .int a29, .int a30, .int a31, .int a32, .ref a33, .ref a34, .int a35, .ref a36, .ref a37, .ref a38, .ref a39, .ref a40, .ref a41, .int a42, .long a43, .int a44, .int a45, .ref a46, .ref a47, .ref a48, .ref a49, .ref a50, .ref a51, .int a52, .ref a53, .int a54])), (a55, .inl (a56, 8, .inl a57)), (a58, .inl (a59, 3, .inl a60))]
noncomputable def wf_c_X12_fogOf_2 : List Cond := List.cons (.code yX12_fogOf cX12_fogOf 10 (some .long)) (@HAppend.hAppend (List Cond) (List Cond) (List Cond) _ [.fieldLink RX12 309 "BuoyVoteModel" "buoys" "I", .fieldLink RX12 84 "BuoyVoteModel" "leans" "[I", .constantLong RX12 545 (100), .methodLink RX12 541 yX12_fogOf, .instanceMethod yX12_fogOf, .selects RX12 yX12_fogOf yX12_fogOf, .initialized RX12, .fieldLink RX12 312 "BuoyVoteModel" "boats" "I", .fieldLink RX12 81 "BuoyVoteModel" "tally" "[I"] wsX120)
theorem iw_c_X12_fogOf_2_X12 : ∀ w ∈ wsX120, w ∈ wf_c_X12_fogOf_2 := fun w h => List.mem_cons_of_mem _ (List.mem_append_right _ h)
set_option maxRecDepth 20000 in
theorem gf_c_X12_fogOf_2_c_X12_fogOf_3 : GoodIn wf_c_X12_fogOf_2 (wsV RX12 541 RX12 yX12_fogOf wf_c_X12_fogOf_3) := goodIn_app (gi_l [4, 5, 6, 7] rfl rfl) (gi_cons (j := 0) rfl rfl (goodIn_app (gi_l [1, 2, 3, 4, 5, 6, 7, 8, 9] rfl rfl) (goodIn_sub iw_c_X12_fogOf_2_X12 gw_X12)))
set_option maxHeartbeats 4000000 in
set_option maxRecDepth 100000 in
theorem c_X12_fogOf_2 (l : Launch) (dC : Nat → ClassId) (dI : Nat → Nat → Nat) (sz : Nat) (h0 : Nat) (p1 : Int32) (p3 : Int32) (p4 : Int64) (h0_f0 : Int32) (h0_1 : Nat) (h0_2 : Nat) (h0_3 : Nat) (h0_4 : Nat) (h0_5 : Nat) (h0_f6 : Int32) (h0_f7 : Int32) (h0_f8 : Int32) (h0_f9 : Int32) (h0_f10 : Int32) (h0_f11 : Int32) (h0_f12 : Int32) (h0_f13 : Int32) (h0_f14 : Int32) (h0_15 : Nat) (h0_16 : Nat) (h0_f17 : Int32) (h0_18 : Nat) (h0_19 : Nat) (h0_20 : Nat) (h0_21 : Nat) (h0_22 : Nat) (h0_23 : Nat) (h0_24 : Nat) (h0_25 : Nat) (h0_f26 : Int32) (h0_f27 : Int32) (h0_f28 : Int32) (h0_f29 : Int32) (h0_f30 : Int32) (h0_f31 : Int32) (h0_32 : Nat) (h0_33 : Nat) (h0_f34 : Int32) (h0_35 : Nat) (h0_36 : Nat) (h0_37 : Nat) (h0_38 : Nat) (h0_39 : Nat) (h0_40 : Nat) (h0_f41 : Int32) (h0_f42 : Int64) (h0_f43 : Int32) (h0_f44 : Int32) (h0_45 : Nat) (h0_46 : Nat) (h0_47 : Nat) (h0_48 : Nat) (h0_49 : Nat) (h0_50 : Nat) (h0_f51 : Int32) (h0_52 : Nat) (h0_f53 : Int32) (h0_39k : ClassId) (h0_39c : Nat → Int32) (h0_38k : ClassId) (h0_38c : Nat → Int32) (g_p1 : RG p1 0 2) (g_p3 : RG p3 0 100) (g_h0_f6 : RG h0_f6 0 240) (g_h0_f7 : RG h0_f7 0 4) (g_h0_f8 : RG h0_f8 0 720) (g_h0_f9 : RG h0_f9 0 240) (g_h0_f10 : RG h0_f10 0 240) (g_h0_f11 : RG h0_f11 (-1) 240) (g_h0_f17 : RG h0_f17 0 1) (g_h0_f26 : RG h0_f26 2 8) (g_h0_f27 : RG h0_f27 0 3) (g_h0_f28 : RG h0_f28 0 8) (g_h0_f29 : RG h0_f29 0 3) (g_h0_f30 : RG h0_f30 0 4) (g_h0_f31 : RG h0_f31 0 1) (g_h0_f34 : RG h0_f34 (-1) 3) (g_h0_f41 : RG h0_f41 0 40) (g_h0_f51 : RG h0_f51 0 10) (g_h0_f53 : RG h0_f53 0 1) (a_h0_39c : AI h0_39c (-1) 2) : Met l yX12_fogOf wf_c_X12_fogOf_2 ({ frames := 6, cells := 0, slots := 0, locals := 174 }) (va_Pc [.ref h0, .int p1, .int 2, .int p3, .long p4] (fun U => U.heap.size = sz ∧ va_P (dC, dI) vwCl (wd_c_X12_fogOf_2 h0 h0_f0 h0_1 h0_2 h0_3 h0_4 h0_5 h0_f6 h0_f7 h0_f8 h0_f9 h0_f10 h0_f11 h0_f12 h0_f13 h0_f14 h0_15 h0_16 h0_f17 h0_18 h0_19 h0_20 h0_21 h0_22 h0_23 h0_24 h0_25 h0_f26 h0_f27 h0_f28 h0_f29 h0_f30 h0_f31 h0_32 h0_33 h0_f34 h0_35 h0_36 h0_37 h0_38 h0_39 h0_40 h0_f41 h0_f42 h0_f43 h0_f44 h0_45 h0_46 h0_47 h0_48 h0_49 h0_50 h0_f51 h0_52 h0_f53 h0_39 h0_39k h0_39c h0_38 h0_38k h0_38c) U.heap ∧ va_K (dC, dI) vwCl [(h0_39k, .int), (h0_38k, .int)] U ∧ va_D (fun _ => True) (wd_c_X12_fogOf_2 h0 h0_f0 h0_1 h0_2 h0_3 h0_4 h0_5 h0_f6 h0_f7 h0_f8 h0_f9 h0_f10 h0_f11 h0_f12 h0_f13 h0_f14 h0_15 h0_16 h0_f17 h0_18 h0_19 h0_20 h0_21 h0_22 h0_23 h0_24 h0_25 h0_f26 h0_f27 h0_f28 h0_f29 h0_f30 h0_f31 h0_32 h0_33 h0_f34 h0_35 h0_36 h0_37 h0_38 h0_39 h0_40 h0_f41 h0_f42 h0_f43 h0_f44 h0_45 h0_46 h0_47 h0_48 h0_49 h0_50 h0_f51 h0_52 h0_f53 h0_39 h0_39k h0_39c h0_38 h0_38k h0_38c))) (va_Ql (fun (r : Int64) (u : (Nat → Int32)) => (LG r (-9223372036854775808) 9223372036854775807) ∨ (r = 0 ∧ RG h0_f27 1 3)) (fun (u : (Nat → Int32)) t => va_P (dC, dI) vwCl (wd_c_X12_fogOf_2 h0 h0_f0 h0_1 h0_2 h0_3 h0_4 h0_5 h0_f6 h0_f7 h0_f8 h0_f9 h0_f10 h0_f11 h0_f12 h0_f13 h0_f14 h0_15 h0_16 h0_f17 h0_18 h0_19 h0_20 h0_21 h0_22 h0_23 h0_24 h0_25 h0_f26 h0_f27 h0_f28 h0_f29 h0_f30 h0_f31 h0_32 h0_33 h0_f34 h0_35 h0_36 h0_37 h0_38 h0_39 h0_40 h0_f41 h0_f42 h0_f43 h0_f44 h0_45 h0_46 h0_47 h0_48 h0_49 h0_50 h0_f51 h0_52 h0_f53 h0_39 h0_39k h0_39c h0_38 h0_38k (u)) t.heap ∧ va_K (dC, dI) vwCl [] t ∧ va_D (va_A (wd_c_X12_fogOf_2 h0 h0_f0 h0_1 h0_2 h0_3 h0_4 h0_5 h0_f6 h0_f7 h0_f8 h0_f9 h0_f10 h0_f11 h0_f12 h0_f13 h0_f14 h0_15 h0_16 h0_f17 h0_18 h0_19 h0_20 h0_21 h0_22 h0_23 h0_24 h0_25 h0_f26 h0_f27 h0_f28 h0_f29 h0_f30 h0_f31 h0_32 h0_33 h0_f34 h0_35 h0_36 h0_37 h0_38 h0_39 h0_40 h0_f41 h0_f42 h0_f43 h0_f44 h0_45 h0_46 h0_47 h0_48 h0_49 h0_50 h0_f51 h0_52 h0_f53 h0_39 h0_39k h0_39c h0_38 h0_38k h0_38c) sz) (wd_c_X12_fogOf_2 h0 h0_f0 h0_1 h0_2 h0_3 h0_4 h0_5 h0_f6 h0_f7 h0_f8 h0_f9 h0_f10 h0_f11 h0_f12 h0_f13 h0_f14 h0_15 h0_16 h0_f17 h0_18 h0_19 h0_20 h0_21 h0_22 h0_23 h0_24 h0_25 h0_f26 h0_f27 h0_f28 h0_f29 h0_f30 h0_f31 h0_32 h0_33 h0_f34 h0_35 h0_36 h0_37 h0_38 h0_39 h0_40 h0_f41 h0_f42 h0_f43 h0_f44 h0_45 h0_46 h0_47 h0_48 h0_49 h0_50 h0_f51 h0_52 h0_f53 h0_39 h0_39k h0_39c h0_38 h0_38k (u))) (va_A (wd_c_X12_fogOf_2 h0 h0_f0 h0_1 h0_2 h0_3 h0_4 h0_5 h0_f6 h0_f7 h0_f8 h0_f9 h0_f10 h0_f11 h0_f12 h0_f13 h0_f14 h0_15 h0_16 h0_f17 h0_18 h0_19 h0_20 h0_21 h0_22 h0_23 h0_24 h0_25 h0_f26 h0_f27 h0_f28 h0_f29 h0_f30 h0_f31 h0_32 h0_33 h0_f34 h0_35 h0_36 h0_37 h0_38 h0_39 h0_40 h0_f41 h0_f42 h0_f43 h0_f44 h0_45 h0_46 h0_47 h0_48 h0_49 h0_50 h0_f51 h0_52 h0_f53 h0_39 h0_39k h0_39c h0_38 h0_38k h0_38c) sz)) 0 0 (va_A (wd_c_X12_fogOf_2 h0 h0_f0 h0_1 h0_2 h0_3 h0_4 h0_5 h0_f6 h0_f7 h0_f8 h0_f9 h0_f10 h0_f11 h0_f12 h0_f13 h0_f14 h0_15 h0_16 h0_f17 h0_18 h0_19 h0_20 h0_21 h0_22 h0_23 h0_24 h0_25 h0_f26 h0_f27 h0_f28 h0_f29 h0_f30 h0_f31 h0_32 h0_33 h0_f34 h0_35 h0_36 h0_37 h0_38 h0_39 h0_40 h0_f41 h0_f42 h0_f43 h0_f44 h0_45 h0_46 h0_47 h0_48 h0_49 h0_50 h0_f51 h0_52 h0_f53 h0_39 h0_39k h0_39c h0_38 h0_38k h0_38c) sz) := by
  refine Met.ofW (cc := cX12_fogOf) (maxL := 10) (ret := (some .long)) (by decide +kernel) rfl ?_
  intro p e s m args below meth c s₁ B hml hv
  obtain ⟨rfl, hsz, hP, hK, hD0⟩ := hv
  have hx := B.exec
  have hb := B.bytes
  have hr := B.returns
  have hts := atoms_spec (ws := wf_c_X12_fogOf_2) B.pre
  have hown : s.vm.findClass RX12 = some m.cls := findClass_of_methodNamed B.named
  have hlocks := B.notSynchronized
  subst hsz
  have hD := hD0.self (sz := s.heap.size)
  generalize hAe : va_A (wd_c_X12_fogOf_2 h0 h0_f0 h0_1 h0_2 h0_3 h0_4 h0_5 h0_f6 h0_f7 h0_f8 h0_f9 h0_f10 h0_f11 h0_f12 h0_f13 h0_f14 h0_15 h0_16 h0_f17 h0_18 h0_19 h0_20 h0_21 h0_22 h0_23 h0_24 h0_25 h0_f26 h0_f27 h0_f28 h0_f29 h0_f30 h0_f31 h0_32 h0_33 h0_f34 h0_35 h0_36 h0_37 h0_38 h0_39 h0_40 h0_f41 h0_f42 h0_f43 h0_f44 h0_45 h0_46 h0_47 h0_48 h0_49 h0_50 h0_f51 h0_52 h0_f53 h0_39 h0_39k h0_39c h0_38 h0_38k h0_38c) s.heap.size = A at hD ⊢
  have hA : ∀ q : Nat, s.heap.size ≤ q → A q := fun q h => by rw [← hAe]; exact Or.inr h
  have hP : va_P (dC, dI) vwCl (wd_c_X12_fogOf_2 h0 h0_f0 h0_1 h0_2 h0_3 h0_4 h0_5 h0_f6 h0_f7 h0_f8 h0_f9 h0_f10 h0_f11 h0_f12 h0_f13 h0_f14 h0_15 h0_16 h0_f17 h0_18 h0_19 h0_20 h0_21 h0_22 h0_23 h0_24 h0_25 h0_f26 h0_f27 h0_f28 h0_f29 h0_f30 h0_f31 h0_32 h0_33 h0_f34 h0_35 h0_36 h0_37 h0_38 h0_39 h0_40 h0_f41 h0_f42 h0_f43 h0_f44 h0_45 h0_46 h0_47 h0_48 h0_49 h0_50 h0_f51 h0_52 h0_f53 h0_39 h0_39k h0_39c h0_38 h0_38k h0_38c) s.heap := hP
  have hl := lv_entry ([.ref h0, .int p1, .int 2, .int p3, .long p4]) (n := 10) (Nat.le_of_ble_eq_true rfl)
  rw [lg_entry_eq]
  generalize (lg_sl ([.ref h0, .int p1, .int 2, .int p3, .long p4]) ++ List.replicate (10 - (lg_sl ([.ref h0, .int p1, .int 2, .int p3, .long p4])).length) Slot.unset).toArray = ls at hl ⊢
  have hl : lv_has ls 10 [(0, .ref h0), (1, .int p1), (2, .int 2), (3, .int p3), (4, .long p4)] := hl
  obtain ⟨H, hHe⟩ : ∃ H : Heap, s.heap = H := ⟨_, rfl⟩
  have hS : va_S A s.heap H [] := by rw [hHe]; exact va_S.rf
  have hP : va_P (dC, dI) vwCl (wd_c_X12_fogOf_2 h0 h0_f0 h0_1 h0_2 h0_3 h0_4 h0_5 h0_f6 h0_f7 h0_f8 h0_f9 h0_f10 h0_f11 h0_f12 h0_f13 h0_f14 h0_15 h0_16 h0_f17 h0_18 h0_19 h0_20 h0_21 h0_22 h0_23 h0_24 h0_25 h0_f26 h0_f27 h0_f28 h0_f29 h0_f30 h0_f31 h0_32 h0_33 h0_f34 h0_35 h0_36 h0_37 h0_38 h0_39 h0_40 h0_f41 h0_f42 h0_f43 h0_f44 h0_45 h0_46 h0_47 h0_48 h0_49 h0_50 h0_f51 h0_52 h0_f53 h0_39 h0_39k h0_39c h0_38 h0_38k h0_38c) H := by rw [← hHe]; exact hP
  rw [hHe]
  refine wj (fun G hG hU => ?_)
  as_aux_lemma =>
  have J11 : ∀ (n11 : Nat) (j11_l6 : Int32) (hM11 : MU j11_l6 < n11) (g_h0_f10 : RG h0_f10 0 240) (g_h0_f11 : RG h0_f11 (-1) 240) (g_h0_f17 : RG h0_f17 0 1) (g_h0_f26 : RG h0_f26 2 2) (g_h0_f27 : RG h0_f27 0 3) (g_h0_f28 : RG h0_f28 0 8) (g_h0_f29 : RG h0_f29 0 3) (g_h0_f30 : RG h0_f30 0 4) (g_h0_f31 : RG h0_f31 0 1) (g_h0_f34 : RG h0_f34 (-1) 3) (g_h0_f41 : RG h0_f41 0 40) (g_h0_f51 : RG h0_f51 0 10) (g_h0_f53 : RG h0_f53 0 1) (g_h0_f6 : RG h0_f6 0 240) (g_h0_f7 : RG h0_f7 0 4) (g_h0_f8 : RG h0_f8 0 720) (g_h0_f9 : RG h0_f9 0 240) (g_j11_l6 : RG j11_l6 0 3) (g_p1 : RG p1 0 2) (g_p3 : RG p3 0 100) (H : Heap) (locs : List Loc) (ls : Array Slot) (hP : va_P (dC, dI) vwCl (wd_c_X12_fogOf_2 h0 h0_f0 h0_1 h0_2 h0_3 h0_4 h0_5 h0_f6 h0_f7 h0_f8 h0_f9 h0_f10 h0_f11 h0_f12 h0_f13 h0_f14 h0_15 h0_16 h0_f17 h0_18 h0_19 h0_20 h0_21 h0_22 h0_23 h0_24 h0_25 h0_f26 h0_f27 h0_f28 h0_f29 h0_f30 h0_f31 h0_32 h0_33 h0_f34 h0_35 h0_36 h0_37 h0_38 h0_39 h0_40 h0_f41 h0_f42 h0_f43 h0_f44 h0_45 h0_46 h0_47 h0_48 h0_49 h0_50 h0_f51 h0_52 h0_f53 h0_39 h0_39k h0_39c h0_38 h0_38k h0_38c) H) (hD : va_D A (wd_c_X12_fogOf_2 h0 h0_f0 h0_1 h0_2 h0_3 h0_4 h0_5 h0_f6 h0_f7 h0_f8 h0_f9 h0_f10 h0_f11 h0_f12 h0_f13 h0_f14 h0_15 h0_16 h0_f17 h0_18 h0_19 h0_20 h0_21 h0_22 h0_23 h0_24 h0_25 h0_f26 h0_f27 h0_f28 h0_f29 h0_f30 h0_f31 h0_32 h0_33 h0_f34 h0_35 h0_36 h0_37 h0_38 h0_39 h0_40 h0_f41 h0_f42 h0_f43 h0_f44 h0_45 h0_46 h0_47 h0_48 h0_49 h0_50 h0_f51 h0_52 h0_f53 h0_39 h0_39k h0_39c h0_38 h0_38k h0_38c)) (hS : va_S A s.heap H locs) (hl : lv_has ls 10 [(6, .int j11_l6), (0, .ref h0), (1, .int p1), (4, .long p4)]), G H locs (F0 m 11 ls []) := by
    as_aux_lemma =>
    intro n11
    induction n11 with
    | zero => intros; exact absurd (by assumption) (Nat.not_lt_zero _)
    | succ n11 ih11 =>
      intro j11_l6 hM11 g_h0_f10 g_h0_f11 g_h0_f17 g_h0_f26 g_h0_f27 g_h0_f28 g_h0_f29 g_h0_f30 g_h0_f31 g_h0_f34 g_h0_f41 g_h0_f51 g_h0_f53 g_h0_f6 g_h0_f7 g_h0_f8 g_h0_f9 g_j11_l6 g_p1 g_p3 H locs ls hP hD hS hl
      have J44 : ∀ (g_h0_f10 : RG h0_f10 0 240) (g_h0_f11 : RG h0_f11 (-1) 240) (g_h0_f17 : RG h0_f17 0 1) (g_h0_f26 : RG h0_f26 2 2) (g_h0_f27 : RG h0_f27 1 3) (g_h0_f28 : RG h0_f28 0 8) (g_h0_f29 : RG h0_f29 0 3) (g_h0_f30 : RG h0_f30 0 4) (g_h0_f31 : RG h0_f31 0 1) (g_h0_f34 : RG h0_f34 (-1) 3) (g_h0_f41 : RG h0_f41 0 40) (g_h0_f51 : RG h0_f51 0 10) (g_h0_f53 : RG h0_f53 0 1) (g_h0_f6 : RG h0_f6 0 240) (g_h0_f7 : RG h0_f7 0 4) (g_h0_f8 : RG h0_f8 0 720) (g_h0_f9 : RG h0_f9 0 240) (g_j11_l6 : RG j11_l6 0 2) (g_p1 : RG p1 0 2) (g_p3 : RG p3 0 100) (H : Heap) (locs : List Loc) (ls : Array Slot) (hP : va_P (dC, dI) vwCl (wd_c_X12_fogOf_2 h0 h0_f0 h0_1 h0_2 h0_3 h0_4 h0_5 h0_f6 h0_f7 h0_f8 h0_f9 h0_f10 h0_f11 h0_f12 h0_f13 h0_f14 h0_15 h0_16 h0_f17 h0_18 h0_19 h0_20 h0_21 h0_22 h0_23 h0_24 h0_25 h0_f26 h0_f27 h0_f28 h0_f29 h0_f30 h0_f31 h0_32 h0_33 h0_f34 h0_35 h0_36 h0_37 h0_38 h0_39 h0_40 h0_f41 h0_f42 h0_f43 h0_f44 h0_45 h0_46 h0_47 h0_48 h0_49 h0_50 h0_f51 h0_52 h0_f53 h0_39 h0_39k h0_39c h0_38 h0_38k h0_38c) H) (hD : va_D A (wd_c_X12_fogOf_2 h0 h0_f0 h0_1 h0_2 h0_3 h0_4 h0_5 h0_f6 h0_f7 h0_f8 h0_f9 h0_f10 h0_f11 h0_f12 h0_f13 h0_f14 h0_15 h0_16 h0_f17 h0_18 h0_19 h0_20 h0_21 h0_22 h0_23 h0_24 h0_25 h0_f26 h0_f27 h0_f28 h0_f29 h0_f30 h0_f31 h0_32 h0_33 h0_f34 h0_35 h0_36 h0_37 h0_38 h0_39 h0_40 h0_f41 h0_f42 h0_f43 h0_f44 h0_45 h0_46 h0_47 h0_48 h0_49 h0_50 h0_f51 h0_52 h0_f53 h0_39 h0_39k h0_39c h0_38 h0_38k h0_38c)) (hS : va_S A s.heap H locs) (hl : lv_has ls 10 [(6, .int j11_l6), (0, .ref h0), (1, .int p1), (4, .long p4)]), G H locs (F0 m 44 ls []) := by
        as_aux_lemma =>
        intro g_h0_f10 g_h0_f11 g_h0_f17 g_h0_f26 g_h0_f27 g_h0_f28 g_h0_f29 g_h0_f30 g_h0_f31 g_h0_f34 g_h0_f41 g_h0_f51 g_h0_f53 g_h0_f6 g_h0_f7 g_h0_f8 g_h0_f9 g_j11_l6 g_p1 g_p3 H locs ls hP hD hS hl
        refine hG _ _ _ ?_
        obtain ⟨x_1, ex_1⟩ : ∃ y : Int32, y = j11_l6 + 1 := ⟨_, rfl⟩
        have g_2 : RG x_1 1 3 := RG_add ex_1 g_j11_l6 (RG_k 1 1 rfl) (by decide +kernel)
        refine lv_iinc (v := x_1) (lv' := [(6, .int x_1), (0, .ref h0), (1, .int p1), (4, .long p4)]) hx hb dX12_fogOf_44 hl (k := 0) rfl (by rw [ex_1]; rfl) (Nat.le_of_ble_eq_true rfl) rfl (fun ls hl => ?_)
        refine lv_goto (tgt := 11) hx hb dX12_fogOf_47 rfl ?_
        exact hU _ _ _ (ih11 x_1 (mu_s (MU_add ex_1 g_j11_l6 (q := 1) rfl (by decide +kernel)) hM11) g_h0_f10 g_h0_f11 g_h0_f17 g_h0_f26 (RG_w g_h0_f27 (by decide +kernel)) g_h0_f28 g_h0_f29 g_h0_f30 g_h0_f31 g_h0_f34 g_h0_f41 g_h0_f51 g_h0_f53 g_h0_f6 g_h0_f7 g_h0_f8 g_h0_f9 (RG_w g_2 (by decide +kernel)) g_p1 g_p3 _ _ _ hP hD hS (lv_sub hl [0, 1, 2, 3] rfl))
      refine hG _ _ _ ?_
      refine lv_iload hx hb dX12_fogOf_11 (lv_at hl 0 rfl) ?_
      refine lv_aload_n hx hb dX12_fogOf_13 rfl (lv_at hl 1 rfl) ?_
      refine va_get (D := (dC, dI)) (ci := 12) (v := .int h0_f27) (C := RX12) (T := TX12) (N := 54) hx hb hts iw_c_X12_fogOf_2_X12 hown hK hP 0 rfl rfl 27 (by decide +kernel) (hts (.fieldLink RX12 312 "BuoyVoteModel" "boats" "I") (List.mem_of_getElem? (i := 8) rfl)) (fun _ h9 => h9) rfl dX12_fogOf_14 ?_
      refine lv_icmp_ge (tgt := 50) hx hb dX12_fogOf_17 rfl (fun c_3 => ?_) (fun c_3 => ?_)
      · refine lv_lload hx hb dX12_fogOf_50 (lv_at hl 3 rfl) ?_
        have hK9 := hK.sub (tys' := []) [] rfl
        exact W.lret (v := p4) hx hb hr (fun t ht hW => ⟨⟨p4, h0_38c, rfl, (Or.inl (LG_any p4)), by rw [ht]; exact hP, va_K.moved hW.alike hK9, hD⟩, hS.F ht⟩) hS.2.2 dX12_fogOf_52
      · have d_4 := Int32.not_le.mp c_3
        have g_5 : RG j11_l6 0 2 := RG_lt1 g_j11_l6 g_h0_f27 d_4 (by decide +kernel)
        have g_6 : RG h0_f27 1 3 := RG_lt2 g_j11_l6 g_h0_f27 d_4 (by decide +kernel)
        refine lv_iload hx hb dX12_fogOf_20 (lv_at hl 0 rfl) ?_
        as_aux_lemma =>
        refine lv_iload_n hx hb dX12_fogOf_22 rfl (lv_at hl 2 rfl) ?_
        refine lv_icmp_eq (tgt := 44) hx hb dX12_fogOf_23 rfl (fun c_7 => ?_) (fun c_7 => ?_)
        · exact hU _ _ _ (J44 g_h0_f10 g_h0_f11 g_h0_f17 g_h0_f26 g_6 g_h0_f28 g_h0_f29 g_h0_f30 g_h0_f31 g_h0_f34 g_h0_f41 g_h0_f51 g_h0_f53 g_h0_f6 g_h0_f7 g_h0_f8 g_h0_f9 g_5 g_p1 g_p3 _ _ _ hP hD hS (lv_sub hl [0, 1, 2, 3] rfl))
        · refine lv_aload_n hx hb dX12_fogOf_26 rfl (lv_at hl 1 rfl) ?_
          refine va_get (D := (dC, dI)) (ci := 12) (v := .ref h0_38) (C := RX12) (T := TX12) (N := 54) hx hb hts iw_c_X12_fogOf_2_X12 hown hK hP 0 rfl rfl 38 (by decide +kernel) (hts (.fieldLink RX12 81 "BuoyVoteModel" "tally" "[I") (List.mem_of_getElem? (i := 9) rfl)) (fun _ h9 => h9) rfl dX12_fogOf_27 ?_
          refine lv_iload hx hb dX12_fogOf_30 (lv_at hl 0 rfl) ?_
          refine va_iald hx hb hK hP 2 1 rfl rfl (RG_in g_5 (by decide +kernel)) dX12_fogOf_32 ?_
          refine lv_topi (fun x_8 ex_8 => ?_)
          refine lv_aload_n hx hb dX12_fogOf_33 rfl (lv_at hl 1 rfl) ?_
          refine va_get (D := (dC, dI)) (ci := 12) (v := .ref h0_38) (C := RX12) (T := TX12) (N := 54) hx hb hts iw_c_X12_fogOf_2_X12 hown hK hP 0 rfl rfl 38 (by decide +kernel) (hts (.fieldLink RX12 81 "BuoyVoteModel" "tally" "[I") (List.mem_of_getElem? (i := 9) rfl)) (fun _ h9 => h9) rfl dX12_fogOf_34 ?_
          refine lv_iload_n hx hb dX12_fogOf_37 rfl (lv_at hl 2 rfl) ?_
          refine va_iald hx hb hK hP 2 1 rfl rfl (RG_in g_p1 (by decide +kernel)) dX12_fogOf_38 ?_
          refine lv_topi (fun x_9 ex_9 => ?_)
          refine lv_icmp_lt (tgt := 44) hx hb dX12_fogOf_39 rfl (fun c_10 => ?_) (fun c_10 => ?_)
          · have g_11 : RG x_8 (-2147483648) 2147483646 := RG_lt1 (RG_any x_8) (RG_any x_9) c_10 (by decide +kernel)
            have g_12 : RG x_9 (-2147483647) 2147483647 := RG_lt2 (RG_any x_8) (RG_any x_9) c_10 (by decide +kernel)
            exact hU _ _ _ (J44 g_h0_f10 g_h0_f11 g_h0_f17 g_h0_f26 g_6 g_h0_f28 g_h0_f29 g_h0_f30 g_h0_f31 g_h0_f34 g_h0_f41 g_h0_f51 g_h0_f53 g_h0_f6 g_h0_f7 g_h0_f8 g_h0_f9 g_5 g_p1 g_p3 _ _ _ hP hD hS (lv_sub hl [0, 1, 2, 3] rfl))
          · have d_13 := Int32.not_lt.mp c_10
            refine lv_lconst (v := 0) hx hb dX12_fogOf_42 (by decide +kernel) ?_
            as_aux_lemma =>
            have hK9 := hK.sub (tys' := []) [] rfl
            exact W.lret (v := 0) hx hb hr (fun t ht hW => ⟨⟨0, h0_38c, rfl, (Or.inr ⟨rfl, g_6⟩), by rw [ht]; exact hP, va_K.moved hW.alike hK9, hD⟩, hS.F ht⟩) hS.2.2 dX12_fogOf_43
  refine hG _ _ _ ?_
  refine lv_iload_n hx hb dX12_fogOf_0 rfl (lv_at hl 2 rfl) ?_
  refine lv_aload_n hx hb dX12_fogOf_1 rfl (lv_at hl 0 rfl) ?_
  refine va_get (D := (dC, dI)) (ci := 12) (v := .int h0_f26) (C := RX12) (T := TX12) (N := 54) hx hb hts iw_c_X12_fogOf_2_X12 hown hK hP 0 rfl rfl 26 (by decide +kernel) (hts (.fieldLink RX12 309 "BuoyVoteModel" "buoys" "I") (List.mem_of_getElem? (i := 1) rfl)) (fun _ h9 => h9) rfl dX12_fogOf_2 ?_
  refine lv_icmp_ne (tgt := 53) hx hb dX12_fogOf_5 rfl (fun c_14 => ?_) (fun c_14 => ?_)
  · have g_15 : RG h0_f26 3 8 := RG_ne1 g_h0_f26 (q := 2) rfl (fun q => c_14 q.symm) (by decide +kernel)
    refine lv_aload_n hx hb dX12_fogOf_53 rfl (lv_at hl 0 rfl) ?_
    refine va_get (D := (dC, dI)) (ci := 12) (v := .ref h0_39) (C := RX12) (T := TX12) (N := 54) hx hb hts iw_c_X12_fogOf_2_X12 hown hK hP 0 rfl rfl 39 (by decide +kernel) (hts (.fieldLink RX12 84 "BuoyVoteModel" "leans" "[I") (List.mem_of_getElem? (i := 2) rfl)) (fun _ h9 => h9) rfl dX12_fogOf_54 ?_
    refine lv_iload_n hx hb dX12_fogOf_57 rfl (lv_at hl 2 rfl) ?_
    refine va_iald hx hb hK hP 1 0 rfl rfl (RG_in (RG_k 2 2 rfl) (by decide +kernel)) dX12_fogOf_58 ?_
    refine lv_topi (fun x_16 ex_16 => ?_)
    have g_17 : RG x_16 (-1) 2 := AI_rd a_h0_39c ex_16
    refine lv_iconst (v := (-1)) hx hb dX12_fogOf_59 kc_iconst_m1 ?_
    as_aux_lemma =>
    refine lv_icmp_ne (tgt := 75) hx hb dX12_fogOf_60 rfl (fun c_18 => ?_) (fun c_18 => ?_)
    · have g_19 : RG x_16 0 2 := RG_ne1 g_17 (q := (-1)) rfl c_18 (by decide +kernel)
      refine lv_lload hx hb dX12_fogOf_75 (lv_at hl 4 rfl) ?_
      refine lv_iload_n hx hb dX12_fogOf_77 rfl (lv_at hl 3 rfl) ?_
      refine lv_i2l (v := p3.toInt64) hx hb dX12_fogOf_78 rfl ?_
      refine lv_topl (fun x_20 ex_20 => ?_)
      have g_21 : LG x_20 0 100 := LG_i2l ex_20 g_p3
      refine lv_lmul hx hb dX12_fogOf_79 ?_
      refine lv_topl (fun x_22 ex_22 => ?_)
      refine lv_ldc2 hx hb hown (hts (.constantLong RX12 545 (100)) (List.mem_of_getElem? (i := 3) rfl)) dX12_fogOf_80 ?_
      refine lv_ldiv hx hb dX12_fogOf_83 (by decide +kernel) ?_
      refine lv_topl (fun x_23 ex_23 => ?_)
      refine lv_lstore (lv' := [(6, .long x_23), (0, .ref h0), (1, .int p1), (2, .int 2), (3, .int p3), (4, .long p4)]) hx hb dX12_fogOf_84 hl (Nat.le_of_ble_eq_true rfl) rfl (fun ls hl => ?_)
      refine lv_aload_n hx hb dX12_fogOf_86 rfl (lv_at hl 1 rfl) ?_
      as_aux_lemma =>
      refine lv_iload_n hx hb dX12_fogOf_87 rfl (lv_at hl 2 rfl) ?_
      refine lv_iload_n hx hb dX12_fogOf_88 rfl (lv_at hl 3 rfl) ?_
      refine lv_iconst (v := 1) hx hb dX12_fogOf_89 kc_iconst_1 ?_
      refine lv_iadd hx hb dX12_fogOf_90 ?_
      refine lv_topi (fun x_24 ex_24 => ?_)
      obtain rfl : x_24 = 3 := ex_24.trans (by decide +kernel)
      refine lv_iload_n hx hb dX12_fogOf_91 rfl (lv_at hl 4 rfl) ?_
      refine lv_lload hx hb dX12_fogOf_92 (lv_at hl 0 rfl) ?_
      obtain ⟨hPc, hDc, hFc, hqc⟩ := cl_cut (wc := (wd_c_X12_fogOf_3 h0 h0_f0 h0_1 h0_2 h0_3 h0_4 h0_5 h0_f6 h0_f7 h0_f8 h0_f9 h0_f10 h0_f11 h0_f12 h0_f13 h0_f14 h0_15 h0_16 h0_f17 h0_18 h0_19 h0_20 h0_21 h0_22 h0_23 h0_24 h0_25 h0_f26 h0_f27 h0_f28 h0_f29 h0_f30 h0_f31 h0_32 h0_33 h0_f34 h0_35 h0_36 h0_37 h0_38 h0_39 h0_40 h0_f41 h0_f42 h0_f43 h0_f44 h0_45 h0_46 h0_47 h0_48 h0_49 h0_50 h0_f51 h0_52 h0_f53 h0_39 h0_39k h0_39c h0_38 h0_38k h0_38c)) hP hD hS hA [0, 1, 2] (by decide +kernel) rfl
      have hKc := hK.sub (tys' := [(h0_39k, .int), (h0_38k, .int)]) [0, 1] rfl
      have hrv := va_recv hKc hPc (ci := 12) (q0 := 0) rfl rfl
      refine va_calll (va_runV (As := [.int p1, .int 3, .int p3, .long x_23]) (rest := []) ⟨hx, hb, hml, hown, hts⟩ (c_X12_fogOf_3 l dC dI H.size h0 p1 p3 x_23 h0_f0 h0_1 h0_2 h0_3 h0_4 h0_5 h0_f6 h0_f7 h0_f8 h0_f9 h0_f10 h0_f11 h0_f12 h0_f13 h0_f14 h0_15 h0_16 h0_f17 h0_18 h0_19 h0_20 h0_21 h0_22 h0_23 h0_24 h0_25 h0_f26 h0_f27 h0_f28 h0_f29 h0_f30 h0_f31 h0_32 h0_33 h0_f34 h0_35 h0_36 h0_37 h0_38 h0_39 h0_40 h0_f41 h0_f42 h0_f43 h0_f44 h0_45 h0_46 h0_47 h0_48 h0_49 h0_50 h0_f51 h0_52 h0_f53 h0_39k h0_39c h0_38k h0_38c g_p1 g_p3 g_h0_f6 g_h0_f7 g_h0_f8 g_h0_f9 g_h0_f10 g_h0_f11 g_h0_f17 g_15 g_h0_f27 g_h0_f28 g_h0_f29 g_h0_f30 g_h0_f31 g_h0_f34 g_h0_f41 g_h0_f51 g_h0_f53 a_h0_39c) (cwV 4 hts gf_c_X12_fogOf_2_c_X12_fogOf_3 rfl rfl rfl mdV_X12_fogOf ⟨Nat.le_of_ble_eq_true rfl, Nat.le_of_ble_eq_true rfl⟩) ⟨fun a U g mk q => by obtain ⟨q0, q1, qP, qK, qD⟩ := q; exact ⟨q0, q1, qP, va_K.moved (u := U) (U := U.calling g mk a) (Vm.Alike.refl U.vm) qK, qD⟩, hrv, fun U hU hW => ⟨rfl, by rw [hU], by rw [hU]; exact hPc, va_K.moved hW.alike hKc, hDc.weaken (fun _ _ _ _ => trivial)⟩⟩ rfl rfl hl.1 rfl (lv_room (Nat.le_of_ble_eq_true rfl)) dX12_fogOf_94 ⟨Nat.le_of_ble_eq_true rfl, Nat.le_of_ble_eq_true rfl⟩) hS (fun q _ h => hFc q h) hFc (fun r_25 w_26 t H1 locs ht hvm hw hB hz1 hk1 hS => ?_)
      obtain ⟨hP1, hK1, hD1⟩ := hB
      rw [ht] at hP1
      obtain ⟨hP, hD⟩ := cl_put (w1 := (wd_c_X12_fogOf_3 h0 h0_f0 h0_1 h0_2 h0_3 h0_4 h0_5 h0_f6 h0_f7 h0_f8 h0_f9 h0_f10 h0_f11 h0_f12 h0_f13 h0_f14 h0_15 h0_16 h0_f17 h0_18 h0_19 h0_20 h0_21 h0_22 h0_23 h0_24 h0_25 h0_f26 h0_f27 h0_f28 h0_f29 h0_f30 h0_f31 h0_32 h0_33 h0_f34 h0_35 h0_36 h0_37 h0_38 h0_39 h0_40 h0_f41 h0_f42 h0_f43 h0_f44 h0_45 h0_46 h0_47 h0_48 h0_49 h0_50 h0_f51 h0_52 h0_f53 h0_39 h0_39k h0_39c h0_38 h0_38k w_26)) (nw := (wd_c_X12_fogOf_2 h0 h0_f0 h0_1 h0_2 h0_3 h0_4 h0_5 h0_f6 h0_f7 h0_f8 h0_f9 h0_f10 h0_f11 h0_f12 h0_f13 h0_f14 h0_15 h0_16 h0_f17 h0_18 h0_19 h0_20 h0_21 h0_22 h0_23 h0_24 h0_25 h0_f26 h0_f27 h0_f28 h0_f29 h0_f30 h0_f31 h0_32 h0_33 h0_f34 h0_35 h0_36 h0_37 h0_38 h0_39 h0_40 h0_f41 h0_f42 h0_f43 h0_f44 h0_45 h0_46 h0_47 h0_48 h0_49 h0_50 h0_f51 h0_52 h0_f53 h0_39 h0_39k h0_39c h0_38 h0_38k w_26)) hP hD [0, 1, 2] [3, 4, 5] 3 rfl hqc (by decide +kernel) rfl hk1 hFc hP1 hD1
      generalize H1 = H at hP hS ⊢
      as_aux_lemma =>
      rcases hw with h_27 | ⟨h_28, h_29⟩
      · refine lv_lstore (lv' := [(8, .long r_25), (6, .long x_23), (0, .ref h0), (1, .int p1), (2, .int 2), (3, .int p3), (4, .long p4)]) hx hb dX12_fogOf_97 hl (Nat.le_of_ble_eq_true rfl) rfl (fun ls hl => ?_)
        refine lv_aload_n hx hb dX12_fogOf_99 rfl (lv_at hl 2 rfl) ?_
        refine va_get (D := (dC, dI)) (ci := 12) (v := .ref h0_38) (C := RX12) (T := TX12) (N := 54) hx hb hts iw_c_X12_fogOf_2_X12 hown hK hP 0 rfl rfl 38 (by decide +kernel) (hts (.fieldLink RX12 81 "BuoyVoteModel" "tally" "[I") (List.mem_of_getElem? (i := 9) rfl)) (fun _ h9 => h9) rfl dX12_fogOf_100 ?_
        refine lv_aload_n hx hb dX12_fogOf_103 rfl (lv_at hl 2 rfl) ?_
        refine va_get (D := (dC, dI)) (ci := 12) (v := .ref h0_39) (C := RX12) (T := TX12) (N := 54) hx hb hts iw_c_X12_fogOf_2_X12 hown hK hP 0 rfl rfl 39 (by decide +kernel) (hts (.fieldLink RX12 84 "BuoyVoteModel" "leans" "[I") (List.mem_of_getElem? (i := 2) rfl)) (fun _ h9 => h9) rfl dX12_fogOf_104 ?_
        refine lv_iload_n hx hb dX12_fogOf_107 rfl (lv_at hl 4 rfl) ?_
        refine va_iald hx hb hK hP 1 0 rfl rfl (RG_in (RG_k 2 2 rfl) (by decide +kernel)) dX12_fogOf_108 ?_
        refine lv_topi (fun x_30 ex_30 => ?_)
        obtain rfl : x_16 = x_30 := (ex_30.trans ex_16.symm).symm
        refine lv_dup2_11 hx hb dX12_fogOf_109 rfl rfl ?_
        refine va_iald hx hb hK hP 2 1 rfl rfl (RG_in g_19 (by decide +kernel)) dX12_fogOf_110 ?_
        refine lv_topi (fun x_31 ex_31 => ?_)
        refine lv_iconst (v := 1) hx hb dX12_fogOf_111 kc_iconst_1 ?_
        as_aux_lemma =>
        refine lv_iadd hx hb dX12_fogOf_112 ?_
        refine lv_topi (fun x_32 ex_32 => ?_)
        refine va_iast hx hb hK hP hD hS 2 1 rfl rfl (RG_in g_19 (by decide +kernel)) dX12_fogOf_113 (fun H locs hP hD hS => ?_)
        have hP : va_P (dC, dI) vwCl (wd_c_X12_fogOf_2 h0 h0_f0 h0_1 h0_2 h0_3 h0_4 h0_5 h0_f6 h0_f7 h0_f8 h0_f9 h0_f10 h0_f11 h0_f12 h0_f13 h0_f14 h0_15 h0_16 h0_f17 h0_18 h0_19 h0_20 h0_21 h0_22 h0_23 h0_24 h0_25 h0_f26 h0_f27 h0_f28 h0_f29 h0_f30 h0_f31 h0_32 h0_33 h0_f34 h0_35 h0_36 h0_37 h0_38 h0_39 h0_40 h0_f41 h0_f42 h0_f43 h0_f44 h0_45 h0_46 h0_47 h0_48 h0_49 h0_50 h0_f51 h0_52 h0_f53 h0_39 h0_39k h0_39c h0_38 h0_38k (upd w_26 (x_16 : Int32).toNatClampNeg x_32)) H := hP
        have hD : va_D A (wd_c_X12_fogOf_2 h0 h0_f0 h0_1 h0_2 h0_3 h0_4 h0_5 h0_f6 h0_f7 h0_f8 h0_f9 h0_f10 h0_f11 h0_f12 h0_f13 h0_f14 h0_15 h0_16 h0_f17 h0_18 h0_19 h0_20 h0_21 h0_22 h0_23 h0_24 h0_25 h0_f26 h0_f27 h0_f28 h0_f29 h0_f30 h0_f31 h0_32 h0_33 h0_f34 h0_35 h0_36 h0_37 h0_38 h0_39 h0_40 h0_f41 h0_f42 h0_f43 h0_f44 h0_45 h0_46 h0_47 h0_48 h0_49 h0_50 h0_f51 h0_52 h0_f53 h0_39 h0_39k h0_39c h0_38 h0_38k (upd w_26 (x_16 : Int32).toNatClampNeg x_32)) := hD
        have l_34 : (upd w_26 (x_16 : Int32).toNatClampNeg x_32) (x_16 : Int32).toNatClampNeg = x_32 := pk_us
        generalize (upd w_26 (x_16 : Int32).toNatClampNeg x_32) = w_33 at hP hD l_34
        have hP : va_P (dC, dI) vwCl (wd_c_X12_fogOf_2 h0 h0_f0 h0_1 h0_2 h0_3 h0_4 h0_5 h0_f6 h0_f7 h0_f8 h0_f9 h0_f10 h0_f11 h0_f12 h0_f13 h0_f14 h0_15 h0_16 h0_f17 h0_18 h0_19 h0_20 h0_21 h0_22 h0_23 h0_24 h0_25 h0_f26 h0_f27 h0_f28 h0_f29 h0_f30 h0_f31 h0_32 h0_33 h0_f34 h0_35 h0_36 h0_37 h0_38 h0_39 h0_40 h0_f41 h0_f42 h0_f43 h0_f44 h0_45 h0_46 h0_47 h0_48 h0_49 h0_50 h0_f51 h0_52 h0_f53 h0_39 h0_39k h0_39c h0_38 h0_38k w_33) H := hP
        have hD : va_D A (wd_c_X12_fogOf_2 h0 h0_f0 h0_1 h0_2 h0_3 h0_4 h0_5 h0_f6 h0_f7 h0_f8 h0_f9 h0_f10 h0_f11 h0_f12 h0_f13 h0_f14 h0_15 h0_16 h0_f17 h0_18 h0_19 h0_20 h0_21 h0_22 h0_23 h0_24 h0_25 h0_f26 h0_f27 h0_f28 h0_f29 h0_f30 h0_f31 h0_32 h0_33 h0_f34 h0_35 h0_36 h0_37 h0_38 h0_39 h0_40 h0_f41 h0_f42 h0_f43 h0_f44 h0_45 h0_46 h0_47 h0_48 h0_49 h0_50 h0_f51 h0_52 h0_f53 h0_39 h0_39k h0_39c h0_38 h0_38k w_33) := hD
        refine lv_lload hx hb dX12_fogOf_114 (lv_at hl 0 rfl) ?_
        refine lv_aload_n hx hb dX12_fogOf_116 rfl (lv_at hl 2 rfl) ?_
        refine lv_iload_n hx hb dX12_fogOf_117 rfl (lv_at hl 3 rfl) ?_
        refine lv_iload_n hx hb dX12_fogOf_118 rfl (lv_at hl 4 rfl) ?_
        refine lv_iconst (v := 1) hx hb dX12_fogOf_119 kc_iconst_1 ?_
        as_aux_lemma =>
        refine lv_iadd hx hb dX12_fogOf_120 ?_
        refine lv_topi (fun x_35 ex_35 => ?_)
        obtain rfl : x_35 = 3 := ex_35.trans (by decide +kernel)
        refine lv_iload_n hx hb dX12_fogOf_121 rfl (lv_at hl 5 rfl) ?_
        refine lv_lload hx hb dX12_fogOf_122 (lv_at hl 6 rfl) ?_
        refine lv_lload hx hb dX12_fogOf_124 (lv_at hl 1 rfl) ?_
        refine lv_lsub hx hb dX12_fogOf_126 ?_
        refine lv_topl (fun x_36 ex_36 => ?_)
        obtain ⟨hPc, hDc, hFc, hqc⟩ := cl_cut (wc := (wd_c_X12_fogOf_3 h0 h0_f0 h0_1 h0_2 h0_3 h0_4 h0_5 h0_f6 h0_f7 h0_f8 h0_f9 h0_f10 h0_f11 h0_f12 h0_f13 h0_f14 h0_15 h0_16 h0_f17 h0_18 h0_19 h0_20 h0_21 h0_22 h0_23 h0_24 h0_25 h0_f26 h0_f27 h0_f28 h0_f29 h0_f30 h0_f31 h0_32 h0_33 h0_f34 h0_35 h0_36 h0_37 h0_38 h0_39 h0_40 h0_f41 h0_f42 h0_f43 h0_f44 h0_45 h0_46 h0_47 h0_48 h0_49 h0_50 h0_f51 h0_52 h0_f53 h0_39 h0_39k h0_39c h0_38 h0_38k w_33)) hP hD hS hA [0, 1, 2] (by decide +kernel) rfl
        have hKc := hK.sub (tys' := [(h0_39k, .int), (h0_38k, .int)]) [0, 1] rfl
        have hrv := va_recv hKc hPc (ci := 12) (q0 := 0) rfl rfl
        refine va_calll (va_runV (As := [.int p1, .int 3, .int p3, .long x_36]) (rest := [.long r_25]) ⟨hx, hb, hml, hown, hts⟩ (c_X12_fogOf_3 l dC dI H.size h0 p1 p3 x_36 h0_f0 h0_1 h0_2 h0_3 h0_4 h0_5 h0_f6 h0_f7 h0_f8 h0_f9 h0_f10 h0_f11 h0_f12 h0_f13 h0_f14 h0_15 h0_16 h0_f17 h0_18 h0_19 h0_20 h0_21 h0_22 h0_23 h0_24 h0_25 h0_f26 h0_f27 h0_f28 h0_f29 h0_f30 h0_f31 h0_32 h0_33 h0_f34 h0_35 h0_36 h0_37 h0_38 h0_39 h0_40 h0_f41 h0_f42 h0_f43 h0_f44 h0_45 h0_46 h0_47 h0_48 h0_49 h0_50 h0_f51 h0_52 h0_f53 h0_39k h0_39c h0_38k w_33 g_p1 g_p3 g_h0_f6 g_h0_f7 g_h0_f8 g_h0_f9 g_h0_f10 g_h0_f11 g_h0_f17 g_15 g_h0_f27 g_h0_f28 g_h0_f29 g_h0_f30 g_h0_f31 g_h0_f34 g_h0_f41 g_h0_f51 g_h0_f53 a_h0_39c) (cwV 4 hts gf_c_X12_fogOf_2_c_X12_fogOf_3 rfl rfl rfl mdV_X12_fogOf ⟨Nat.le_of_ble_eq_true rfl, Nat.le_of_ble_eq_true rfl⟩) ⟨fun a U g mk q => by obtain ⟨q0, q1, qP, qK, qD⟩ := q; exact ⟨q0, q1, qP, va_K.moved (u := U) (U := U.calling g mk a) (Vm.Alike.refl U.vm) qK, qD⟩, hrv, fun U hU hW => ⟨rfl, by rw [hU], by rw [hU]; exact hPc, va_K.moved hW.alike hKc, hDc.weaken (fun _ _ _ _ => trivial)⟩⟩ rfl rfl hl.1 rfl (lv_room (Nat.le_of_ble_eq_true rfl)) dX12_fogOf_127 ⟨Nat.le_of_ble_eq_true rfl, Nat.le_of_ble_eq_true rfl⟩) hS (fun q _ h => hFc q h) hFc (fun r_37 w_38 t H1 locs ht hvm hw hB hz1 hk1 hS => ?_)
        obtain ⟨hP1, hK1, hD1⟩ := hB
        rw [ht] at hP1
        obtain ⟨hP, hD⟩ := cl_put (w1 := (wd_c_X12_fogOf_3 h0 h0_f0 h0_1 h0_2 h0_3 h0_4 h0_5 h0_f6 h0_f7 h0_f8 h0_f9 h0_f10 h0_f11 h0_f12 h0_f13 h0_f14 h0_15 h0_16 h0_f17 h0_18 h0_19 h0_20 h0_21 h0_22 h0_23 h0_24 h0_25 h0_f26 h0_f27 h0_f28 h0_f29 h0_f30 h0_f31 h0_32 h0_33 h0_f34 h0_35 h0_36 h0_37 h0_38 h0_39 h0_40 h0_f41 h0_f42 h0_f43 h0_f44 h0_45 h0_46 h0_47 h0_48 h0_49 h0_50 h0_f51 h0_52 h0_f53 h0_39 h0_39k h0_39c h0_38 h0_38k w_38)) (nw := (wd_c_X12_fogOf_2 h0 h0_f0 h0_1 h0_2 h0_3 h0_4 h0_5 h0_f6 h0_f7 h0_f8 h0_f9 h0_f10 h0_f11 h0_f12 h0_f13 h0_f14 h0_15 h0_16 h0_f17 h0_18 h0_19 h0_20 h0_21 h0_22 h0_23 h0_24 h0_25 h0_f26 h0_f27 h0_f28 h0_f29 h0_f30 h0_f31 h0_32 h0_33 h0_f34 h0_35 h0_36 h0_37 h0_38 h0_39 h0_40 h0_f41 h0_f42 h0_f43 h0_f44 h0_45 h0_46 h0_47 h0_48 h0_49 h0_50 h0_f51 h0_52 h0_f53 h0_39 h0_39k h0_39c h0_38 h0_38k w_38)) hP hD [0, 1, 2] [3, 4, 5] 3 rfl hqc (by decide +kernel) rfl hk1 hFc hP1 hD1
        generalize H1 = H at hP hS ⊢
        as_aux_lemma =>
        rcases hw with h_39 | ⟨h_40, h_41⟩
        · refine lv_ladd hx hb dX12_fogOf_130 ?_
          refine lv_topl (fun x_42 ex_42 => ?_)
          refine lv_lstore (lv' := [(8, .long x_42), (6, .long x_23), (0, .ref h0), (1, .int p1), (2, .int 2), (3, .int p3), (4, .long p4)]) hx hb dX12_fogOf_131 hl (Nat.le_of_ble_eq_true rfl) rfl (fun ls hl => ?_)
          refine lv_aload_n hx hb dX12_fogOf_133 rfl (lv_at hl 2 rfl) ?_
          refine va_get (D := (dC, dI)) (ci := 12) (v := .ref h0_38) (C := RX12) (T := TX12) (N := 54) hx hb hts iw_c_X12_fogOf_2_X12 hown hK hP 0 rfl rfl 38 (by decide +kernel) (hts (.fieldLink RX12 81 "BuoyVoteModel" "tally" "[I") (List.mem_of_getElem? (i := 9) rfl)) (fun _ h9 => h9) rfl dX12_fogOf_134 ?_
          refine lv_aload_n hx hb dX12_fogOf_137 rfl (lv_at hl 2 rfl) ?_
          refine va_get (D := (dC, dI)) (ci := 12) (v := .ref h0_39) (C := RX12) (T := TX12) (N := 54) hx hb hts iw_c_X12_fogOf_2_X12 hown hK hP 0 rfl rfl 39 (by decide +kernel) (hts (.fieldLink RX12 84 "BuoyVoteModel" "leans" "[I") (List.mem_of_getElem? (i := 2) rfl)) (fun _ h9 => h9) rfl dX12_fogOf_138 ?_
          refine lv_iload_n hx hb dX12_fogOf_141 rfl (lv_at hl 4 rfl) ?_
          refine va_iald hx hb hK hP 1 0 rfl rfl (RG_in (RG_k 2 2 rfl) (by decide +kernel)) dX12_fogOf_142 ?_
          refine lv_topi (fun x_43 ex_43 => ?_)
          obtain rfl : x_16 = x_43 := (ex_43.trans ex_16.symm).symm
          refine lv_dup2_11 hx hb dX12_fogOf_143 rfl rfl ?_
          refine va_iald hx hb hK hP 2 1 rfl rfl (RG_in g_19 (by decide +kernel)) dX12_fogOf_144 ?_
          as_aux_lemma =>
          refine lv_topi (fun x_44 ex_44 => ?_)
          refine lv_iconst (v := 1) hx hb dX12_fogOf_145 kc_iconst_1 ?_
          refine lv_isub hx hb dX12_fogOf_146 ?_
          refine lv_topi (fun x_45 ex_45 => ?_)
          refine va_iast hx hb hK hP hD hS 2 1 rfl rfl (RG_in g_19 (by decide +kernel)) dX12_fogOf_147 (fun H locs hP hD hS => ?_)
          have hP : va_P (dC, dI) vwCl (wd_c_X12_fogOf_2 h0 h0_f0 h0_1 h0_2 h0_3 h0_4 h0_5 h0_f6 h0_f7 h0_f8 h0_f9 h0_f10 h0_f11 h0_f12 h0_f13 h0_f14 h0_15 h0_16 h0_f17 h0_18 h0_19 h0_20 h0_21 h0_22 h0_23 h0_24 h0_25 h0_f26 h0_f27 h0_f28 h0_f29 h0_f30 h0_f31 h0_32 h0_33 h0_f34 h0_35 h0_36 h0_37 h0_38 h0_39 h0_40 h0_f41 h0_f42 h0_f43 h0_f44 h0_45 h0_46 h0_47 h0_48 h0_49 h0_50 h0_f51 h0_52 h0_f53 h0_39 h0_39k h0_39c h0_38 h0_38k (upd w_38 (x_16 : Int32).toNatClampNeg x_45)) H := hP
          have hD : va_D A (wd_c_X12_fogOf_2 h0 h0_f0 h0_1 h0_2 h0_3 h0_4 h0_5 h0_f6 h0_f7 h0_f8 h0_f9 h0_f10 h0_f11 h0_f12 h0_f13 h0_f14 h0_15 h0_16 h0_f17 h0_18 h0_19 h0_20 h0_21 h0_22 h0_23 h0_24 h0_25 h0_f26 h0_f27 h0_f28 h0_f29 h0_f30 h0_f31 h0_32 h0_33 h0_f34 h0_35 h0_36 h0_37 h0_38 h0_39 h0_40 h0_f41 h0_f42 h0_f43 h0_f44 h0_45 h0_46 h0_47 h0_48 h0_49 h0_50 h0_f51 h0_52 h0_f53 h0_39 h0_39k h0_39c h0_38 h0_38k (upd w_38 (x_16 : Int32).toNatClampNeg x_45)) := hD
          have l_47 : (upd w_38 (x_16 : Int32).toNatClampNeg x_45) (x_16 : Int32).toNatClampNeg = x_45 := pk_us
          generalize (upd w_38 (x_16 : Int32).toNatClampNeg x_45) = w_46 at hP hD l_47
          have hP : va_P (dC, dI) vwCl (wd_c_X12_fogOf_2 h0 h0_f0 h0_1 h0_2 h0_3 h0_4 h0_5 h0_f6 h0_f7 h0_f8 h0_f9 h0_f10 h0_f11 h0_f12 h0_f13 h0_f14 h0_15 h0_16 h0_f17 h0_18 h0_19 h0_20 h0_21 h0_22 h0_23 h0_24 h0_25 h0_f26 h0_f27 h0_f28 h0_f29 h0_f30 h0_f31 h0_32 h0_33 h0_f34 h0_35 h0_36 h0_37 h0_38 h0_39 h0_40 h0_f41 h0_f42 h0_f43 h0_f44 h0_45 h0_46 h0_47 h0_48 h0_49 h0_50 h0_f51 h0_52 h0_f53 h0_39 h0_39k h0_39c h0_38 h0_38k w_46) H := hP
          have hD : va_D A (wd_c_X12_fogOf_2 h0 h0_f0 h0_1 h0_2 h0_3 h0_4 h0_5 h0_f6 h0_f7 h0_f8 h0_f9 h0_f10 h0_f11 h0_f12 h0_f13 h0_f14 h0_15 h0_16 h0_f17 h0_18 h0_19 h0_20 h0_21 h0_22 h0_23 h0_24 h0_25 h0_f26 h0_f27 h0_f28 h0_f29 h0_f30 h0_f31 h0_32 h0_33 h0_f34 h0_35 h0_36 h0_37 h0_38 h0_39 h0_40 h0_f41 h0_f42 h0_f43 h0_f44 h0_45 h0_46 h0_47 h0_48 h0_49 h0_50 h0_f51 h0_52 h0_f53 h0_39 h0_39k h0_39c h0_38 h0_38k w_46) := hD
          refine lv_lload hx hb dX12_fogOf_148 (lv_at hl 0 rfl) ?_
          have hK9 := hK.sub (tys' := []) [] rfl
          exact W.lret (v := x_42) hx hb hr (fun t ht hW => ⟨⟨x_42, w_46, rfl, (Or.inl (LG_any x_42)), by rw [ht]; exact hP, va_K.moved hW.alike hK9, hD⟩, hS.F ht⟩) hS.2.2 dX12_fogOf_150
        · rw [h_40]
          refine lv_ladd hx hb dX12_fogOf_130 ?_
          as_aux_lemma =>
          refine lv_topl (fun x_48 ex_48 => ?_)
          refine lv_lstore (lv' := [(8, .long x_48), (6, .long x_23), (0, .ref h0), (1, .int p1), (2, .int 2), (3, .int p3), (4, .long p4)]) hx hb dX12_fogOf_131 hl (Nat.le_of_ble_eq_true rfl) rfl (fun ls hl => ?_)
          refine lv_aload_n hx hb dX12_fogOf_133 rfl (lv_at hl 2 rfl) ?_
          refine va_get (D := (dC, dI)) (ci := 12) (v := .ref h0_38) (C := RX12) (T := TX12) (N := 54) hx hb hts iw_c_X12_fogOf_2_X12 hown hK hP 0 rfl rfl 38 (by decide +kernel) (hts (.fieldLink RX12 81 "BuoyVoteModel" "tally" "[I") (List.mem_of_getElem? (i := 9) rfl)) (fun _ h9 => h9) rfl dX12_fogOf_134 ?_
          refine lv_aload_n hx hb dX12_fogOf_137 rfl (lv_at hl 2 rfl) ?_
          refine va_get (D := (dC, dI)) (ci := 12) (v := .ref h0_39) (C := RX12) (T := TX12) (N := 54) hx hb hts iw_c_X12_fogOf_2_X12 hown hK hP 0 rfl rfl 39 (by decide +kernel) (hts (.fieldLink RX12 84 "BuoyVoteModel" "leans" "[I") (List.mem_of_getElem? (i := 2) rfl)) (fun _ h9 => h9) rfl dX12_fogOf_138 ?_
          refine lv_iload_n hx hb dX12_fogOf_141 rfl (lv_at hl 4 rfl) ?_
          refine va_iald hx hb hK hP 1 0 rfl rfl (RG_in (RG_k 2 2 rfl) (by decide +kernel)) dX12_fogOf_142 ?_
          refine lv_topi (fun x_49 ex_49 => ?_)
          obtain rfl : x_16 = x_49 := (ex_49.trans ex_16.symm).symm
          refine lv_dup2_11 hx hb dX12_fogOf_143 rfl rfl ?_
          refine va_iald hx hb hK hP 2 1 rfl rfl (RG_in g_19 (by decide +kernel)) dX12_fogOf_144 ?_
          refine lv_topi (fun x_50 ex_50 => ?_)
          refine lv_iconst (v := 1) hx hb dX12_fogOf_145 kc_iconst_1 ?_
          as_aux_lemma =>
          refine lv_isub hx hb dX12_fogOf_146 ?_
          refine lv_topi (fun x_51 ex_51 => ?_)
          refine va_iast hx hb hK hP hD hS 2 1 rfl rfl (RG_in g_19 (by decide +kernel)) dX12_fogOf_147 (fun H locs hP hD hS => ?_)
          have hP : va_P (dC, dI) vwCl (wd_c_X12_fogOf_2 h0 h0_f0 h0_1 h0_2 h0_3 h0_4 h0_5 h0_f6 h0_f7 h0_f8 h0_f9 h0_f10 h0_f11 h0_f12 h0_f13 h0_f14 h0_15 h0_16 h0_f17 h0_18 h0_19 h0_20 h0_21 h0_22 h0_23 h0_24 h0_25 h0_f26 h0_f27 h0_f28 h0_f29 h0_f30 h0_f31 h0_32 h0_33 h0_f34 h0_35 h0_36 h0_37 h0_38 h0_39 h0_40 h0_f41 h0_f42 h0_f43 h0_f44 h0_45 h0_46 h0_47 h0_48 h0_49 h0_50 h0_f51 h0_52 h0_f53 h0_39 h0_39k h0_39c h0_38 h0_38k (upd w_38 (x_16 : Int32).toNatClampNeg x_51)) H := hP
          have hD : va_D A (wd_c_X12_fogOf_2 h0 h0_f0 h0_1 h0_2 h0_3 h0_4 h0_5 h0_f6 h0_f7 h0_f8 h0_f9 h0_f10 h0_f11 h0_f12 h0_f13 h0_f14 h0_15 h0_16 h0_f17 h0_18 h0_19 h0_20 h0_21 h0_22 h0_23 h0_24 h0_25 h0_f26 h0_f27 h0_f28 h0_f29 h0_f30 h0_f31 h0_32 h0_33 h0_f34 h0_35 h0_36 h0_37 h0_38 h0_39 h0_40 h0_f41 h0_f42 h0_f43 h0_f44 h0_45 h0_46 h0_47 h0_48 h0_49 h0_50 h0_f51 h0_52 h0_f53 h0_39 h0_39k h0_39c h0_38 h0_38k (upd w_38 (x_16 : Int32).toNatClampNeg x_51)) := hD
          have l_53 : (upd w_38 (x_16 : Int32).toNatClampNeg x_51) (x_16 : Int32).toNatClampNeg = x_51 := pk_us
          generalize (upd w_38 (x_16 : Int32).toNatClampNeg x_51) = w_52 at hP hD l_53
          have hP : va_P (dC, dI) vwCl (wd_c_X12_fogOf_2 h0 h0_f0 h0_1 h0_2 h0_3 h0_4 h0_5 h0_f6 h0_f7 h0_f8 h0_f9 h0_f10 h0_f11 h0_f12 h0_f13 h0_f14 h0_15 h0_16 h0_f17 h0_18 h0_19 h0_20 h0_21 h0_22 h0_23 h0_24 h0_25 h0_f26 h0_f27 h0_f28 h0_f29 h0_f30 h0_f31 h0_32 h0_33 h0_f34 h0_35 h0_36 h0_37 h0_38 h0_39 h0_40 h0_f41 h0_f42 h0_f43 h0_f44 h0_45 h0_46 h0_47 h0_48 h0_49 h0_50 h0_f51 h0_52 h0_f53 h0_39 h0_39k h0_39c h0_38 h0_38k w_52) H := hP
          have hD : va_D A (wd_c_X12_fogOf_2 h0 h0_f0 h0_1 h0_2 h0_3 h0_4 h0_5 h0_f6 h0_f7 h0_f8 h0_f9 h0_f10 h0_f11 h0_f12 h0_f13 h0_f14 h0_15 h0_16 h0_f17 h0_18 h0_19 h0_20 h0_21 h0_22 h0_23 h0_24 h0_25 h0_f26 h0_f27 h0_f28 h0_f29 h0_f30 h0_f31 h0_32 h0_33 h0_f34 h0_35 h0_36 h0_37 h0_38 h0_39 h0_40 h0_f41 h0_f42 h0_f43 h0_f44 h0_45 h0_46 h0_47 h0_48 h0_49 h0_50 h0_f51 h0_52 h0_f53 h0_39 h0_39k h0_39c h0_38 h0_38k w_52) := hD
          refine lv_lload hx hb dX12_fogOf_148 (lv_at hl 0 rfl) ?_
          have hK9 := hK.sub (tys' := []) [] rfl
          exact W.lret (v := x_48) hx hb hr (fun t ht hW => ⟨⟨x_48, w_52, rfl, (Or.inl (LG_any x_48)), by rw [ht]; exact hP, va_K.moved hW.alike hK9, hD⟩, hS.F ht⟩) hS.2.2 dX12_fogOf_150
      · rw [h_28]
        refine lv_lstore (lv' := [(8, .long 0), (6, .long x_23), (0, .ref h0), (1, .int p1), (2, .int 2), (3, .int p3), (4, .long p4)]) hx hb dX12_fogOf_97 hl (Nat.le_of_ble_eq_true rfl) rfl (fun ls hl => ?_)
        as_aux_lemma =>
        refine lv_aload_n hx hb dX12_fogOf_99 rfl (lv_at hl 2 rfl) ?_
        refine va_get (D := (dC, dI)) (ci := 12) (v := .ref h0_38) (C := RX12) (T := TX12) (N := 54) hx hb hts iw_c_X12_fogOf_2_X12 hown hK hP 0 rfl rfl 38 (by decide +kernel) (hts (.fieldLink RX12 81 "BuoyVoteModel" "tally" "[I") (List.mem_of_getElem? (i := 9) rfl)) (fun _ h9 => h9) rfl dX12_fogOf_100 ?_
        refine lv_aload_n hx hb dX12_fogOf_103 rfl (lv_at hl 2 rfl) ?_
        refine va_get (D := (dC, dI)) (ci := 12) (v := .ref h0_39) (C := RX12) (T := TX12) (N := 54) hx hb hts iw_c_X12_fogOf_2_X12 hown hK hP 0 rfl rfl 39 (by decide +kernel) (hts (.fieldLink RX12 84 "BuoyVoteModel" "leans" "[I") (List.mem_of_getElem? (i := 2) rfl)) (fun _ h9 => h9) rfl dX12_fogOf_104 ?_
        refine lv_iload_n hx hb dX12_fogOf_107 rfl (lv_at hl 4 rfl) ?_
        refine va_iald hx hb hK hP 1 0 rfl rfl (RG_in (RG_k 2 2 rfl) (by decide +kernel)) dX12_fogOf_108 ?_
        refine lv_topi (fun x_54 ex_54 => ?_)
        obtain rfl : x_16 = x_54 := (ex_54.trans ex_16.symm).symm
        refine lv_dup2_11 hx hb dX12_fogOf_109 rfl rfl ?_
        refine va_iald hx hb hK hP 2 1 rfl rfl (RG_in g_19 (by decide +kernel)) dX12_fogOf_110 ?_
        refine lv_topi (fun x_55 ex_55 => ?_)
        refine lv_iconst (v := 1) hx hb dX12_fogOf_111 kc_iconst_1 ?_
        refine lv_iadd hx hb dX12_fogOf_112 ?_
        refine lv_topi (fun x_56 ex_56 => ?_)
        as_aux_lemma =>
        refine va_iast hx hb hK hP hD hS 2 1 rfl rfl (RG_in g_19 (by decide +kernel)) dX12_fogOf_113 (fun H locs hP hD hS => ?_)
        have hP : va_P (dC, dI) vwCl (wd_c_X12_fogOf_2 h0 h0_f0 h0_1 h0_2 h0_3 h0_4 h0_5 h0_f6 h0_f7 h0_f8 h0_f9 h0_f10 h0_f11 h0_f12 h0_f13 h0_f14 h0_15 h0_16 h0_f17 h0_18 h0_19 h0_20 h0_21 h0_22 h0_23 h0_24 h0_25 h0_f26 h0_f27 h0_f28 h0_f29 h0_f30 h0_f31 h0_32 h0_33 h0_f34 h0_35 h0_36 h0_37 h0_38 h0_39 h0_40 h0_f41 h0_f42 h0_f43 h0_f44 h0_45 h0_46 h0_47 h0_48 h0_49 h0_50 h0_f51 h0_52 h0_f53 h0_39 h0_39k h0_39c h0_38 h0_38k (upd w_26 (x_16 : Int32).toNatClampNeg x_56)) H := hP
        have hD : va_D A (wd_c_X12_fogOf_2 h0 h0_f0 h0_1 h0_2 h0_3 h0_4 h0_5 h0_f6 h0_f7 h0_f8 h0_f9 h0_f10 h0_f11 h0_f12 h0_f13 h0_f14 h0_15 h0_16 h0_f17 h0_18 h0_19 h0_20 h0_21 h0_22 h0_23 h0_24 h0_25 h0_f26 h0_f27 h0_f28 h0_f29 h0_f30 h0_f31 h0_32 h0_33 h0_f34 h0_35 h0_36 h0_37 h0_38 h0_39 h0_40 h0_f41 h0_f42 h0_f43 h0_f44 h0_45 h0_46 h0_47 h0_48 h0_49 h0_50 h0_f51 h0_52 h0_f53 h0_39 h0_39k h0_39c h0_38 h0_38k (upd w_26 (x_16 : Int32).toNatClampNeg x_56)) := hD
        have l_58 : (upd w_26 (x_16 : Int32).toNatClampNeg x_56) (x_16 : Int32).toNatClampNeg = x_56 := pk_us
        generalize (upd w_26 (x_16 : Int32).toNatClampNeg x_56) = w_57 at hP hD l_58
        have hP : va_P (dC, dI) vwCl (wd_c_X12_fogOf_2 h0 h0_f0 h0_1 h0_2 h0_3 h0_4 h0_5 h0_f6 h0_f7 h0_f8 h0_f9 h0_f10 h0_f11 h0_f12 h0_f13 h0_f14 h0_15 h0_16 h0_f17 h0_18 h0_19 h0_20 h0_21 h0_22 h0_23 h0_24 h0_25 h0_f26 h0_f27 h0_f28 h0_f29 h0_f30 h0_f31 h0_32 h0_33 h0_f34 h0_35 h0_36 h0_37 h0_38 h0_39 h0_40 h0_f41 h0_f42 h0_f43 h0_f44 h0_45 h0_46 h0_47 h0_48 h0_49 h0_50 h0_f51 h0_52 h0_f53 h0_39 h0_39k h0_39c h0_38 h0_38k w_57) H := hP
        have hD : va_D A (wd_c_X12_fogOf_2 h0 h0_f0 h0_1 h0_2 h0_3 h0_4 h0_5 h0_f6 h0_f7 h0_f8 h0_f9 h0_f10 h0_f11 h0_f12 h0_f13 h0_f14 h0_15 h0_16 h0_f17 h0_18 h0_19 h0_20 h0_21 h0_22 h0_23 h0_24 h0_25 h0_f26 h0_f27 h0_f28 h0_f29 h0_f30 h0_f31 h0_32 h0_33 h0_f34 h0_35 h0_36 h0_37 h0_38 h0_39 h0_40 h0_f41 h0_f42 h0_f43 h0_f44 h0_45 h0_46 h0_47 h0_48 h0_49 h0_50 h0_f51 h0_52 h0_f53 h0_39 h0_39k h0_39c h0_38 h0_38k w_57) := hD
        refine lv_lload hx hb dX12_fogOf_114 (lv_at hl 0 rfl) ?_
        refine lv_aload_n hx hb dX12_fogOf_116 rfl (lv_at hl 2 rfl) ?_
        refine lv_iload_n hx hb dX12_fogOf_117 rfl (lv_at hl 3 rfl) ?_
        refine lv_iload_n hx hb dX12_fogOf_118 rfl (lv_at hl 4 rfl) ?_
        refine lv_iconst (v := 1) hx hb dX12_fogOf_119 kc_iconst_1 ?_
        refine lv_iadd hx hb dX12_fogOf_120 ?_
        refine lv_topi (fun x_59 ex_59 => ?_)
        as_aux_lemma =>
        obtain rfl : x_59 = 3 := ex_59.trans (by decide +kernel)
        refine lv_iload_n hx hb dX12_fogOf_121 rfl (lv_at hl 5 rfl) ?_
        refine lv_lload hx hb dX12_fogOf_122 (lv_at hl 6 rfl) ?_
        refine lv_lload hx hb dX12_fogOf_124 (lv_at hl 1 rfl) ?_
        refine lv_lsub hx hb dX12_fogOf_126 ?_
        refine lv_topl (fun x_60 ex_60 => ?_)
        obtain ⟨hPc, hDc, hFc, hqc⟩ := cl_cut (wc := (wd_c_X12_fogOf_3 h0 h0_f0 h0_1 h0_2 h0_3 h0_4 h0_5 h0_f6 h0_f7 h0_f8 h0_f9 h0_f10 h0_f11 h0_f12 h0_f13 h0_f14 h0_15 h0_16 h0_f17 h0_18 h0_19 h0_20 h0_21 h0_22 h0_23 h0_24 h0_25 h0_f26 h0_f27 h0_f28 h0_f29 h0_f30 h0_f31 h0_32 h0_33 h0_f34 h0_35 h0_36 h0_37 h0_38 h0_39 h0_40 h0_f41 h0_f42 h0_f43 h0_f44 h0_45 h0_46 h0_47 h0_48 h0_49 h0_50 h0_f51 h0_52 h0_f53 h0_39 h0_39k h0_39c h0_38 h0_38k w_57)) hP hD hS hA [0, 1, 2] (by decide +kernel) rfl
        have hKc := hK.sub (tys' := [(h0_39k, .int), (h0_38k, .int)]) [0, 1] rfl
        have hrv := va_recv hKc hPc (ci := 12) (q0 := 0) rfl rfl
        refine va_calll (va_runV (As := [.int p1, .int 3, .int p3, .long x_60]) (rest := [.long 0]) ⟨hx, hb, hml, hown, hts⟩ (c_X12_fogOf_3 l dC dI H.size h0 p1 p3 x_60 h0_f0 h0_1 h0_2 h0_3 h0_4 h0_5 h0_f6 h0_f7 h0_f8 h0_f9 h0_f10 h0_f11 h0_f12 h0_f13 h0_f14 h0_15 h0_16 h0_f17 h0_18 h0_19 h0_20 h0_21 h0_22 h0_23 h0_24 h0_25 h0_f26 h0_f27 h0_f28 h0_f29 h0_f30 h0_f31 h0_32 h0_33 h0_f34 h0_35 h0_36 h0_37 h0_38 h0_39 h0_40 h0_f41 h0_f42 h0_f43 h0_f44 h0_45 h0_46 h0_47 h0_48 h0_49 h0_50 h0_f51 h0_52 h0_f53 h0_39k h0_39c h0_38k w_57 g_p1 g_p3 g_h0_f6 g_h0_f7 g_h0_f8 g_h0_f9 g_h0_f10 g_h0_f11 g_h0_f17 g_15 (RG_w h_29 (by decide +kernel)) g_h0_f28 g_h0_f29 g_h0_f30 g_h0_f31 g_h0_f34 g_h0_f41 g_h0_f51 g_h0_f53 a_h0_39c) (cwV 4 hts gf_c_X12_fogOf_2_c_X12_fogOf_3 rfl rfl rfl mdV_X12_fogOf ⟨Nat.le_of_ble_eq_true rfl, Nat.le_of_ble_eq_true rfl⟩) ⟨fun a U g mk q => by obtain ⟨q0, q1, qP, qK, qD⟩ := q; exact ⟨q0, q1, qP, va_K.moved (u := U) (U := U.calling g mk a) (Vm.Alike.refl U.vm) qK, qD⟩, hrv, fun U hU hW => ⟨rfl, by rw [hU], by rw [hU]; exact hPc, va_K.moved hW.alike hKc, hDc.weaken (fun _ _ _ _ => trivial)⟩⟩ rfl rfl hl.1 rfl (lv_room (Nat.le_of_ble_eq_true rfl)) dX12_fogOf_127 ⟨Nat.le_of_ble_eq_true rfl, Nat.le_of_ble_eq_true rfl⟩) hS (fun q _ h => hFc q h) hFc (fun r_61 w_62 t H1 locs ht hvm hw hB hz1 hk1 hS => ?_)
        obtain ⟨hP1, hK1, hD1⟩ := hB
        rw [ht] at hP1
        obtain ⟨hP, hD⟩ := cl_put (w1 := (wd_c_X12_fogOf_3 h0 h0_f0 h0_1 h0_2 h0_3 h0_4 h0_5 h0_f6 h0_f7 h0_f8 h0_f9 h0_f10 h0_f11 h0_f12 h0_f13 h0_f14 h0_15 h0_16 h0_f17 h0_18 h0_19 h0_20 h0_21 h0_22 h0_23 h0_24 h0_25 h0_f26 h0_f27 h0_f28 h0_f29 h0_f30 h0_f31 h0_32 h0_33 h0_f34 h0_35 h0_36 h0_37 h0_38 h0_39 h0_40 h0_f41 h0_f42 h0_f43 h0_f44 h0_45 h0_46 h0_47 h0_48 h0_49 h0_50 h0_f51 h0_52 h0_f53 h0_39 h0_39k h0_39c h0_38 h0_38k w_62)) (nw := (wd_c_X12_fogOf_2 h0 h0_f0 h0_1 h0_2 h0_3 h0_4 h0_5 h0_f6 h0_f7 h0_f8 h0_f9 h0_f10 h0_f11 h0_f12 h0_f13 h0_f14 h0_15 h0_16 h0_f17 h0_18 h0_19 h0_20 h0_21 h0_22 h0_23 h0_24 h0_25 h0_f26 h0_f27 h0_f28 h0_f29 h0_f30 h0_f31 h0_32 h0_33 h0_f34 h0_35 h0_36 h0_37 h0_38 h0_39 h0_40 h0_f41 h0_f42 h0_f43 h0_f44 h0_45 h0_46 h0_47 h0_48 h0_49 h0_50 h0_f51 h0_52 h0_f53 h0_39 h0_39k h0_39c h0_38 h0_38k w_62)) hP hD [0, 1, 2] [3, 4, 5] 3 rfl hqc (by decide +kernel) rfl hk1 hFc hP1 hD1
        generalize H1 = H at hP hS ⊢
        as_aux_lemma =>
        rcases hw with h_63 | ⟨h_64, h_65⟩
        · refine lv_ladd hx hb dX12_fogOf_130 ?_
          refine lv_topl (fun x_66 ex_66 => ?_)
          refine lv_lstore (lv' := [(8, .long x_66), (6, .long x_23), (0, .ref h0), (1, .int p1), (2, .int 2), (3, .int p3), (4, .long p4)]) hx hb dX12_fogOf_131 hl (Nat.le_of_ble_eq_true rfl) rfl (fun ls hl => ?_)
          refine lv_aload_n hx hb dX12_fogOf_133 rfl (lv_at hl 2 rfl) ?_
          refine va_get (D := (dC, dI)) (ci := 12) (v := .ref h0_38) (C := RX12) (T := TX12) (N := 54) hx hb hts iw_c_X12_fogOf_2_X12 hown hK hP 0 rfl rfl 38 (by decide +kernel) (hts (.fieldLink RX12 81 "BuoyVoteModel" "tally" "[I") (List.mem_of_getElem? (i := 9) rfl)) (fun _ h9 => h9) rfl dX12_fogOf_134 ?_
          refine lv_aload_n hx hb dX12_fogOf_137 rfl (lv_at hl 2 rfl) ?_
          refine va_get (D := (dC, dI)) (ci := 12) (v := .ref h0_39) (C := RX12) (T := TX12) (N := 54) hx hb hts iw_c_X12_fogOf_2_X12 hown hK hP 0 rfl rfl 39 (by decide +kernel) (hts (.fieldLink RX12 84 "BuoyVoteModel" "leans" "[I") (List.mem_of_getElem? (i := 2) rfl)) (fun _ h9 => h9) rfl dX12_fogOf_138 ?_
          refine lv_iload_n hx hb dX12_fogOf_141 rfl (lv_at hl 4 rfl) ?_
          refine va_iald hx hb hK hP 1 0 rfl rfl (RG_in (RG_k 2 2 rfl) (by decide +kernel)) dX12_fogOf_142 ?_
          refine lv_topi (fun x_67 ex_67 => ?_)
          obtain rfl : x_16 = x_67 := (ex_67.trans ex_16.symm).symm
          refine lv_dup2_11 hx hb dX12_fogOf_143 rfl rfl ?_
          refine va_iald hx hb hK hP 2 1 rfl rfl (RG_in g_19 (by decide +kernel)) dX12_fogOf_144 ?_
          as_aux_lemma =>
          refine lv_topi (fun x_68 ex_68 => ?_)
          refine lv_iconst (v := 1) hx hb dX12_fogOf_145 kc_iconst_1 ?_
          refine lv_isub hx hb dX12_fogOf_146 ?_
          refine lv_topi (fun x_69 ex_69 => ?_)
          refine va_iast hx hb hK hP hD hS 2 1 rfl rfl (RG_in g_19 (by decide +kernel)) dX12_fogOf_147 (fun H locs hP hD hS => ?_)
          have hP : va_P (dC, dI) vwCl (wd_c_X12_fogOf_2 h0 h0_f0 h0_1 h0_2 h0_3 h0_4 h0_5 h0_f6 h0_f7 h0_f8 h0_f9 h0_f10 h0_f11 h0_f12 h0_f13 h0_f14 h0_15 h0_16 h0_f17 h0_18 h0_19 h0_20 h0_21 h0_22 h0_23 h0_24 h0_25 h0_f26 h0_f27 h0_f28 h0_f29 h0_f30 h0_f31 h0_32 h0_33 h0_f34 h0_35 h0_36 h0_37 h0_38 h0_39 h0_40 h0_f41 h0_f42 h0_f43 h0_f44 h0_45 h0_46 h0_47 h0_48 h0_49 h0_50 h0_f51 h0_52 h0_f53 h0_39 h0_39k h0_39c h0_38 h0_38k (upd w_62 (x_16 : Int32).toNatClampNeg x_69)) H := hP
          have hD : va_D A (wd_c_X12_fogOf_2 h0 h0_f0 h0_1 h0_2 h0_3 h0_4 h0_5 h0_f6 h0_f7 h0_f8 h0_f9 h0_f10 h0_f11 h0_f12 h0_f13 h0_f14 h0_15 h0_16 h0_f17 h0_18 h0_19 h0_20 h0_21 h0_22 h0_23 h0_24 h0_25 h0_f26 h0_f27 h0_f28 h0_f29 h0_f30 h0_f31 h0_32 h0_33 h0_f34 h0_35 h0_36 h0_37 h0_38 h0_39 h0_40 h0_f41 h0_f42 h0_f43 h0_f44 h0_45 h0_46 h0_47 h0_48 h0_49 h0_50 h0_f51 h0_52 h0_f53 h0_39 h0_39k h0_39c h0_38 h0_38k (upd w_62 (x_16 : Int32).toNatClampNeg x_69)) := hD
          have l_71 : (upd w_62 (x_16 : Int32).toNatClampNeg x_69) (x_16 : Int32).toNatClampNeg = x_69 := pk_us
          generalize (upd w_62 (x_16 : Int32).toNatClampNeg x_69) = w_70 at hP hD l_71
          have hP : va_P (dC, dI) vwCl (wd_c_X12_fogOf_2 h0 h0_f0 h0_1 h0_2 h0_3 h0_4 h0_5 h0_f6 h0_f7 h0_f8 h0_f9 h0_f10 h0_f11 h0_f12 h0_f13 h0_f14 h0_15 h0_16 h0_f17 h0_18 h0_19 h0_20 h0_21 h0_22 h0_23 h0_24 h0_25 h0_f26 h0_f27 h0_f28 h0_f29 h0_f30 h0_f31 h0_32 h0_33 h0_f34 h0_35 h0_36 h0_37 h0_38 h0_39 h0_40 h0_f41 h0_f42 h0_f43 h0_f44 h0_45 h0_46 h0_47 h0_48 h0_49 h0_50 h0_f51 h0_52 h0_f53 h0_39 h0_39k h0_39c h0_38 h0_38k w_70) H := hP
          have hD : va_D A (wd_c_X12_fogOf_2 h0 h0_f0 h0_1 h0_2 h0_3 h0_4 h0_5 h0_f6 h0_f7 h0_f8 h0_f9 h0_f10 h0_f11 h0_f12 h0_f13 h0_f14 h0_15 h0_16 h0_f17 h0_18 h0_19 h0_20 h0_21 h0_22 h0_23 h0_24 h0_25 h0_f26 h0_f27 h0_f28 h0_f29 h0_f30 h0_f31 h0_32 h0_33 h0_f34 h0_35 h0_36 h0_37 h0_38 h0_39 h0_40 h0_f41 h0_f42 h0_f43 h0_f44 h0_45 h0_46 h0_47 h0_48 h0_49 h0_50 h0_f51 h0_52 h0_f53 h0_39 h0_39k h0_39c h0_38 h0_38k w_70) := hD
          refine lv_lload hx hb dX12_fogOf_148 (lv_at hl 0 rfl) ?_
          have hK9 := hK.sub (tys' := []) [] rfl
          exact W.lret (v := x_66) hx hb hr (fun t ht hW => ⟨⟨x_66, w_70, rfl, (Or.inl (LG_any x_66)), by rw [ht]; exact hP, va_K.moved hW.alike hK9, hD⟩, hS.F ht⟩) hS.2.2 dX12_fogOf_150
        · rw [h_64]
          refine lv_ladd hx hb dX12_fogOf_130 ?_
          as_aux_lemma =>
          refine lv_topl (fun x_72 ex_72 => ?_)
          obtain rfl : x_72 = 0 := ex_72.trans (by decide +kernel)
          refine lv_lstore (lv' := [(8, .long 0), (6, .long x_23), (0, .ref h0), (1, .int p1), (2, .int 2), (3, .int p3), (4, .long p4)]) hx hb dX12_fogOf_131 hl (Nat.le_of_ble_eq_true rfl) rfl (fun ls hl => ?_)
          refine lv_aload_n hx hb dX12_fogOf_133 rfl (lv_at hl 2 rfl) ?_
          refine va_get (D := (dC, dI)) (ci := 12) (v := .ref h0_38) (C := RX12) (T := TX12) (N := 54) hx hb hts iw_c_X12_fogOf_2_X12 hown hK hP 0 rfl rfl 38 (by decide +kernel) (hts (.fieldLink RX12 81 "BuoyVoteModel" "tally" "[I") (List.mem_of_getElem? (i := 9) rfl)) (fun _ h9 => h9) rfl dX12_fogOf_134 ?_
          refine lv_aload_n hx hb dX12_fogOf_137 rfl (lv_at hl 2 rfl) ?_
          refine va_get (D := (dC, dI)) (ci := 12) (v := .ref h0_39) (C := RX12) (T := TX12) (N := 54) hx hb hts iw_c_X12_fogOf_2_X12 hown hK hP 0 rfl rfl 39 (by decide +kernel) (hts (.fieldLink RX12 84 "BuoyVoteModel" "leans" "[I") (List.mem_of_getElem? (i := 2) rfl)) (fun _ h9 => h9) rfl dX12_fogOf_138 ?_
          refine lv_iload_n hx hb dX12_fogOf_141 rfl (lv_at hl 4 rfl) ?_
          refine va_iald hx hb hK hP 1 0 rfl rfl (RG_in (RG_k 2 2 rfl) (by decide +kernel)) dX12_fogOf_142 ?_
          refine lv_topi (fun x_73 ex_73 => ?_)
          obtain rfl : x_16 = x_73 := (ex_73.trans ex_16.symm).symm
          refine lv_dup2_11 hx hb dX12_fogOf_143 rfl rfl ?_
          refine va_iald hx hb hK hP 2 1 rfl rfl (RG_in g_19 (by decide +kernel)) dX12_fogOf_144 ?_
          refine lv_topi (fun x_74 ex_74 => ?_)
          as_aux_lemma =>
          refine lv_iconst (v := 1) hx hb dX12_fogOf_145 kc_iconst_1 ?_
          refine lv_isub hx hb dX12_fogOf_146 ?_
          refine lv_topi (fun x_75 ex_75 => ?_)
          refine va_iast hx hb hK hP hD hS 2 1 rfl rfl (RG_in g_19 (by decide +kernel)) dX12_fogOf_147 (fun H locs hP hD hS => ?_)
          have hP : va_P (dC, dI) vwCl (wd_c_X12_fogOf_2 h0 h0_f0 h0_1 h0_2 h0_3 h0_4 h0_5 h0_f6 h0_f7 h0_f8 h0_f9 h0_f10 h0_f11 h0_f12 h0_f13 h0_f14 h0_15 h0_16 h0_f17 h0_18 h0_19 h0_20 h0_21 h0_22 h0_23 h0_24 h0_25 h0_f26 h0_f27 h0_f28 h0_f29 h0_f30 h0_f31 h0_32 h0_33 h0_f34 h0_35 h0_36 h0_37 h0_38 h0_39 h0_40 h0_f41 h0_f42 h0_f43 h0_f44 h0_45 h0_46 h0_47 h0_48 h0_49 h0_50 h0_f51 h0_52 h0_f53 h0_39 h0_39k h0_39c h0_38 h0_38k (upd w_62 (x_16 : Int32).toNatClampNeg x_75)) H := hP
          have hD : va_D A (wd_c_X12_fogOf_2 h0 h0_f0 h0_1 h0_2 h0_3 h0_4 h0_5 h0_f6 h0_f7 h0_f8 h0_f9 h0_f10 h0_f11 h0_f12 h0_f13 h0_f14 h0_15 h0_16 h0_f17 h0_18 h0_19 h0_20 h0_21 h0_22 h0_23 h0_24 h0_25 h0_f26 h0_f27 h0_f28 h0_f29 h0_f30 h0_f31 h0_32 h0_33 h0_f34 h0_35 h0_36 h0_37 h0_38 h0_39 h0_40 h0_f41 h0_f42 h0_f43 h0_f44 h0_45 h0_46 h0_47 h0_48 h0_49 h0_50 h0_f51 h0_52 h0_f53 h0_39 h0_39k h0_39c h0_38 h0_38k (upd w_62 (x_16 : Int32).toNatClampNeg x_75)) := hD
          have l_77 : (upd w_62 (x_16 : Int32).toNatClampNeg x_75) (x_16 : Int32).toNatClampNeg = x_75 := pk_us
          generalize (upd w_62 (x_16 : Int32).toNatClampNeg x_75) = w_76 at hP hD l_77
          have hP : va_P (dC, dI) vwCl (wd_c_X12_fogOf_2 h0 h0_f0 h0_1 h0_2 h0_3 h0_4 h0_5 h0_f6 h0_f7 h0_f8 h0_f9 h0_f10 h0_f11 h0_f12 h0_f13 h0_f14 h0_15 h0_16 h0_f17 h0_18 h0_19 h0_20 h0_21 h0_22 h0_23 h0_24 h0_25 h0_f26 h0_f27 h0_f28 h0_f29 h0_f30 h0_f31 h0_32 h0_33 h0_f34 h0_35 h0_36 h0_37 h0_38 h0_39 h0_40 h0_f41 h0_f42 h0_f43 h0_f44 h0_45 h0_46 h0_47 h0_48 h0_49 h0_50 h0_f51 h0_52 h0_f53 h0_39 h0_39k h0_39c h0_38 h0_38k w_76) H := hP
          have hD : va_D A (wd_c_X12_fogOf_2 h0 h0_f0 h0_1 h0_2 h0_3 h0_4 h0_5 h0_f6 h0_f7 h0_f8 h0_f9 h0_f10 h0_f11 h0_f12 h0_f13 h0_f14 h0_15 h0_16 h0_f17 h0_18 h0_19 h0_20 h0_21 h0_22 h0_23 h0_24 h0_25 h0_f26 h0_f27 h0_f28 h0_f29 h0_f30 h0_f31 h0_32 h0_33 h0_f34 h0_35 h0_36 h0_37 h0_38 h0_39 h0_40 h0_f41 h0_f42 h0_f43 h0_f44 h0_45 h0_46 h0_47 h0_48 h0_49 h0_50 h0_f51 h0_52 h0_f53 h0_39 h0_39k h0_39c h0_38 h0_38k w_76) := hD
          refine lv_lload hx hb dX12_fogOf_148 (lv_at hl 0 rfl) ?_
          have hK9 := hK.sub (tys' := []) [] rfl
          exact W.lret (v := 0) hx hb hr (fun t ht hW => ⟨⟨0, w_76, rfl, (Or.inr ⟨rfl, h_29⟩), by rw [ht]; exact hP, va_K.moved hW.alike hK9, hD⟩, hS.F ht⟩) hS.2.2 dX12_fogOf_150
    · have g_78 : RG x_16 (-1) (-1) := RG_eq1 g_17 (RG_k (-1) (-1) rfl) c_18 (by decide +kernel)
      refine lv_aload_n hx hb dX12_fogOf_63 rfl (lv_at hl 0 rfl) ?_
      as_aux_lemma =>
      refine lv_iload_n hx hb dX12_fogOf_64 rfl (lv_at hl 1 rfl) ?_
      refine lv_iload_n hx hb dX12_fogOf_65 rfl (lv_at hl 2 rfl) ?_
      refine lv_iconst (v := 1) hx hb dX12_fogOf_66 kc_iconst_1 ?_
      refine lv_iadd hx hb dX12_fogOf_67 ?_
      refine lv_topi (fun x_79 ex_79 => ?_)
      obtain rfl : x_79 = 3 := ex_79.trans (by decide +kernel)
      refine lv_iload_n hx hb dX12_fogOf_68 rfl (lv_at hl 3 rfl) ?_
      refine lv_lload hx hb dX12_fogOf_69 (lv_at hl 4 rfl) ?_
      obtain ⟨hPc, hDc, hFc, hqc⟩ := cl_cut (wc := (wd_c_X12_fogOf_3 h0 h0_f0 h0_1 h0_2 h0_3 h0_4 h0_5 h0_f6 h0_f7 h0_f8 h0_f9 h0_f10 h0_f11 h0_f12 h0_f13 h0_f14 h0_15 h0_16 h0_f17 h0_18 h0_19 h0_20 h0_21 h0_22 h0_23 h0_24 h0_25 h0_f26 h0_f27 h0_f28 h0_f29 h0_f30 h0_f31 h0_32 h0_33 h0_f34 h0_35 h0_36 h0_37 h0_38 h0_39 h0_40 h0_f41 h0_f42 h0_f43 h0_f44 h0_45 h0_46 h0_47 h0_48 h0_49 h0_50 h0_f51 h0_52 h0_f53 h0_39 h0_39k h0_39c h0_38 h0_38k h0_38c)) hP hD hS hA [0, 1, 2] (by decide +kernel) rfl
      have hKc := hK.sub (tys' := [(h0_39k, .int), (h0_38k, .int)]) [0, 1] rfl
      have hrv := va_recv hKc hPc (ci := 12) (q0 := 0) rfl rfl
      refine va_calll (va_runV (As := [.int p1, .int 3, .int p3, .long p4]) (rest := []) ⟨hx, hb, hml, hown, hts⟩ (c_X12_fogOf_3 l dC dI H.size h0 p1 p3 p4 h0_f0 h0_1 h0_2 h0_3 h0_4 h0_5 h0_f6 h0_f7 h0_f8 h0_f9 h0_f10 h0_f11 h0_f12 h0_f13 h0_f14 h0_15 h0_16 h0_f17 h0_18 h0_19 h0_20 h0_21 h0_22 h0_23 h0_24 h0_25 h0_f26 h0_f27 h0_f28 h0_f29 h0_f30 h0_f31 h0_32 h0_33 h0_f34 h0_35 h0_36 h0_37 h0_38 h0_39 h0_40 h0_f41 h0_f42 h0_f43 h0_f44 h0_45 h0_46 h0_47 h0_48 h0_49 h0_50 h0_f51 h0_52 h0_f53 h0_39k h0_39c h0_38k h0_38c g_p1 g_p3 g_h0_f6 g_h0_f7 g_h0_f8 g_h0_f9 g_h0_f10 g_h0_f11 g_h0_f17 g_15 g_h0_f27 g_h0_f28 g_h0_f29 g_h0_f30 g_h0_f31 g_h0_f34 g_h0_f41 g_h0_f51 g_h0_f53 a_h0_39c) (cwV 4 hts gf_c_X12_fogOf_2_c_X12_fogOf_3 rfl rfl rfl mdV_X12_fogOf ⟨Nat.le_of_ble_eq_true rfl, Nat.le_of_ble_eq_true rfl⟩) ⟨fun a U g mk q => by obtain ⟨q0, q1, qP, qK, qD⟩ := q; exact ⟨q0, q1, qP, va_K.moved (u := U) (U := U.calling g mk a) (Vm.Alike.refl U.vm) qK, qD⟩, hrv, fun U hU hW => ⟨rfl, by rw [hU], by rw [hU]; exact hPc, va_K.moved hW.alike hKc, hDc.weaken (fun _ _ _ _ => trivial)⟩⟩ rfl rfl hl.1 rfl (lv_room (Nat.le_of_ble_eq_true rfl)) dX12_fogOf_71 ⟨Nat.le_of_ble_eq_true rfl, Nat.le_of_ble_eq_true rfl⟩) hS (fun q _ h => hFc q h) hFc (fun r_80 w_81 t H1 locs ht hvm hw hB hz1 hk1 hS => ?_)
      obtain ⟨hP1, hK1, hD1⟩ := hB
      rw [ht] at hP1
      obtain ⟨hP, hD⟩ := cl_put (w1 := (wd_c_X12_fogOf_3 h0 h0_f0 h0_1 h0_2 h0_3 h0_4 h0_5 h0_f6 h0_f7 h0_f8 h0_f9 h0_f10 h0_f11 h0_f12 h0_f13 h0_f14 h0_15 h0_16 h0_f17 h0_18 h0_19 h0_20 h0_21 h0_22 h0_23 h0_24 h0_25 h0_f26 h0_f27 h0_f28 h0_f29 h0_f30 h0_f31 h0_32 h0_33 h0_f34 h0_35 h0_36 h0_37 h0_38 h0_39 h0_40 h0_f41 h0_f42 h0_f43 h0_f44 h0_45 h0_46 h0_47 h0_48 h0_49 h0_50 h0_f51 h0_52 h0_f53 h0_39 h0_39k h0_39c h0_38 h0_38k w_81)) (nw := (wd_c_X12_fogOf_2 h0 h0_f0 h0_1 h0_2 h0_3 h0_4 h0_5 h0_f6 h0_f7 h0_f8 h0_f9 h0_f10 h0_f11 h0_f12 h0_f13 h0_f14 h0_15 h0_16 h0_f17 h0_18 h0_19 h0_20 h0_21 h0_22 h0_23 h0_24 h0_25 h0_f26 h0_f27 h0_f28 h0_f29 h0_f30 h0_f31 h0_32 h0_33 h0_f34 h0_35 h0_36 h0_37 h0_38 h0_39 h0_40 h0_f41 h0_f42 h0_f43 h0_f44 h0_45 h0_46 h0_47 h0_48 h0_49 h0_50 h0_f51 h0_52 h0_f53 h0_39 h0_39k h0_39c h0_38 h0_38k w_81)) hP hD [0, 1, 2] [3, 4, 5] 3 rfl hqc (by decide +kernel) rfl hk1 hFc hP1 hD1
      generalize H1 = H at hP hS ⊢
      as_aux_lemma =>
      rcases hw with h_82 | ⟨h_83, h_84⟩
      · have hK9 := hK.sub (tys' := []) [] rfl
        exact W.lret (v := r_80) hx hb hr (fun t ht hW => ⟨⟨r_80, w_81, rfl, (Or.inl h_82), by rw [ht]; exact hP, va_K.moved hW.alike hK9, hD⟩, hS.F ht⟩) hS.2.2 dX12_fogOf_74
      · rw [h_83]
        have hK9 := hK.sub (tys' := []) [] rfl
        exact W.lret (v := 0) hx hb hr (fun t ht hW => ⟨⟨0, w_81, rfl, (Or.inr ⟨rfl, h_84⟩), by rw [ht]; exact hP, va_K.moved hW.alike hK9, hD⟩, hS.F ht⟩) hS.2.2 dX12_fogOf_74
  · have g_85 : RG h0_f26 2 2 := RG_eq1 g_h0_f26 (RG_k 2 2 rfl) c_14.symm (by decide +kernel)
    refine lv_iconst (v := 0) hx hb dX12_fogOf_8 kc_iconst_0 ?_
    refine lv_istore (lv' := [(6, .int 0), (0, .ref h0), (1, .int p1), (2, .int 2), (3, .int p3), (4, .long p4)]) hx hb dX12_fogOf_9 hl (Nat.le_of_ble_eq_true rfl) rfl (fun ls hl => ?_)
    exact hU _ _ _ (J11 _ 0 (Nat.lt_succ_self _) g_h0_f10 g_h0_f11 g_h0_f17 g_85 g_h0_f27 g_h0_f28 g_h0_f29 g_h0_f30 g_h0_f31 g_h0_f34 g_h0_f41 g_h0_f51 g_h0_f53 g_h0_f6 g_h0_f7 g_h0_f8 g_h0_f9 (RG_w (RG_k 0 0 rfl) (by decide +kernel)) g_p1 g_p3 _ _ _ hP hD hS (lv_sub hl [0, 1, 2, 5] rfl))
noncomputable def wd_c_X12_fogOf_1 (a0 : Nat) (a1 : Int32) (a2 : Nat) (a3 : Nat) (a4 : Nat) (a5 : Nat) (a6 : Nat) (a7 : Int32) (a8 : Int32) (a9 : Int32) (a10 : Int32) (a11 : Int32) (a12 : Int32) (a13 : Int32) (a14 : Int32) (a15 : Int32) (a16 : Nat) (a17 : Nat) (a18 : Int32) (a19 : Nat) (a20 : Nat) (a21 : Nat) (a22 : Nat) (a23 : Nat) (a24 : Nat) (a25 : Nat) (a26 : Nat) (a27 : Int32) (a28 : Int32) (a29 : Int32) (a30 : Int32) (a31 : Int32) (a32 : Int32) (a33 : Nat) (a34 : Nat) (a35 : Int32) (a36 : Nat) (a37 : Nat) (a38 : Nat) (a39 : Nat) (a40 : Nat) (a41 : Nat) (a42 : Int32) (a43 : Int64) (a44 : Int32) (a45 : Int32) (a46 : Nat) (a47 : Nat) (a48 : Nat) (a49 : Nat) (a50 : Nat) (a51 : Nat) (a52 : Int32) (a53 : Nat) (a54 : Int32) (a55 : Nat) (a56 : ClassId) (a57 : Nat → Int32) (a58 : Nat) (a59 : ClassId) (a60 : Nat → Int32) : va_W := [(a0, .inr (12, [.int a1, .ref a2, .ref a3, .ref a4, .ref a5, .ref a6, .int a7, .int a8, .int a9, .int a10, .int a11, .int a12, .int a13, .int a14, .int a15, .ref a16, .ref a17, .int a18, .ref a19, .ref a20, .ref a21, .ref a22, .ref a23, .ref a24, .ref a25, .ref a26, .int a27, .int a28, .int a29, .int a30, .int a31, .int a32, .ref a33, .ref a34, .int a35, .ref a36, .ref a37, .ref a38, .ref a39, .ref a40, .ref a41, .int a42, .long a43, .int a44, .int a45, .ref a46, .ref a47, .ref a48, .ref a49, .ref a50, .ref a51, .int a52, .ref a53, .int a54])), (a55, .inl (a56, 8, .inl a57)), (a58, .inl (a59, 3, .inl a60))]
noncomputable def wf_c_X12_fogOf_1 : List Cond := List.cons (.code yX12_fogOf cX12_fogOf 10 (some .long)) (@HAppend.hAppend (List Cond) (List Cond) (List Cond) _ [.fieldLink RX12 309 "BuoyVoteModel" "buoys" "I", .fieldLink RX12 84 "BuoyVoteModel" "leans" "[I", .constantLong RX12 545 (100), .methodLink RX12 541 yX12_fogOf, .instanceMethod yX12_fogOf, .selects RX12 yX12_fogOf yX12_fogOf, .initialized RX12, .fieldLink RX12 312 "BuoyVoteModel" "boats" "I", .fieldLink RX12 81 "BuoyVoteModel" "tally" "[I"] wsX120)
theorem iw_c_X12_fogOf_1_X12 : ∀ w ∈ wsX120, w ∈ wf_c_X12_fogOf_1 := fun w h => List.mem_cons_of_mem _ (List.mem_append_right _ h)
set_option maxRecDepth 20000 in
theorem gf_c_X12_fogOf_1_c_X12_fogOf_2 : GoodIn wf_c_X12_fogOf_1 (wsV RX12 541 RX12 yX12_fogOf wf_c_X12_fogOf_2) := goodIn_app (gi_l [4, 5, 6, 7] rfl rfl) (gi_cons (j := 0) rfl rfl (goodIn_app (gi_l [1, 2, 3, 4, 5, 6, 7, 8, 9] rfl rfl) (goodIn_sub iw_c_X12_fogOf_1_X12 gw_X12)))
set_option maxHeartbeats 4000000 in
set_option maxRecDepth 100000 in
theorem c_X12_fogOf_1 (l : Launch) (dC : Nat → ClassId) (dI : Nat → Nat → Nat) (sz : Nat) (h0 : Nat) (p1 : Int32) (p3 : Int32) (p4 : Int64) (h0_f0 : Int32) (h0_1 : Nat) (h0_2 : Nat) (h0_3 : Nat) (h0_4 : Nat) (h0_5 : Nat) (h0_f6 : Int32) (h0_f7 : Int32) (h0_f8 : Int32) (h0_f9 : Int32) (h0_f10 : Int32) (h0_f11 : Int32) (h0_f12 : Int32) (h0_f13 : Int32) (h0_f14 : Int32) (h0_15 : Nat) (h0_16 : Nat) (h0_f17 : Int32) (h0_18 : Nat) (h0_19 : Nat) (h0_20 : Nat) (h0_21 : Nat) (h0_22 : Nat) (h0_23 : Nat) (h0_24 : Nat) (h0_25 : Nat) (h0_f26 : Int32) (h0_f27 : Int32) (h0_f28 : Int32) (h0_f29 : Int32) (h0_f30 : Int32) (h0_f31 : Int32) (h0_32 : Nat) (h0_33 : Nat) (h0_f34 : Int32) (h0_35 : Nat) (h0_36 : Nat) (h0_37 : Nat) (h0_38 : Nat) (h0_39 : Nat) (h0_40 : Nat) (h0_f41 : Int32) (h0_f42 : Int64) (h0_f43 : Int32) (h0_f44 : Int32) (h0_45 : Nat) (h0_46 : Nat) (h0_47 : Nat) (h0_48 : Nat) (h0_49 : Nat) (h0_50 : Nat) (h0_f51 : Int32) (h0_52 : Nat) (h0_f53 : Int32) (h0_39k : ClassId) (h0_39c : Nat → Int32) (h0_38k : ClassId) (h0_38c : Nat → Int32) (g_p1 : RG p1 0 2) (g_p3 : RG p3 0 100) (g_h0_f6 : RG h0_f6 0 240) (g_h0_f7 : RG h0_f7 0 4) (g_h0_f8 : RG h0_f8 0 720) (g_h0_f9 : RG h0_f9 0 240) (g_h0_f10 : RG h0_f10 0 240) (g_h0_f11 : RG h0_f11 (-1) 240) (g_h0_f17 : RG h0_f17 0 1) (g_h0_f26 : RG h0_f26 1 8) (g_h0_f27 : RG h0_f27 0 3) (g_h0_f28 : RG h0_f28 0 8) (g_h0_f29 : RG h0_f29 0 3) (g_h0_f30 : RG h0_f30 0 4) (g_h0_f31 : RG h0_f31 0 1) (g_h0_f34 : RG h0_f34 (-1) 3) (g_h0_f41 : RG h0_f41 0 40) (g_h0_f51 : RG h0_f51 0 10) (g_h0_f53 : RG h0_f53 0 1) (a_h0_39c : AI h0_39c (-1) 2) : Met l yX12_fogOf wf_c_X12_fogOf_1 ({ frames := 7, cells := 0, slots := 0, locals := 203 }) (va_Pc [.ref h0, .int p1, .int 1, .int p3, .long p4] (fun U => U.heap.size = sz ∧ va_P (dC, dI) vwCl (wd_c_X12_fogOf_1 h0 h0_f0 h0_1 h0_2 h0_3 h0_4 h0_5 h0_f6 h0_f7 h0_f8 h0_f9 h0_f10 h0_f11 h0_f12 h0_f13 h0_f14 h0_15 h0_16 h0_f17 h0_18 h0_19 h0_20 h0_21 h0_22 h0_23 h0_24 h0_25 h0_f26 h0_f27 h0_f28 h0_f29 h0_f30 h0_f31 h0_32 h0_33 h0_f34 h0_35 h0_36 h0_37 h0_38 h0_39 h0_40 h0_f41 h0_f42 h0_f43 h0_f44 h0_45 h0_46 h0_47 h0_48 h0_49 h0_50 h0_f51 h0_52 h0_f53 h0_39 h0_39k h0_39c h0_38 h0_38k h0_38c) U.heap ∧ va_K (dC, dI) vwCl [(h0_39k, .int), (h0_38k, .int)] U ∧ va_D (fun _ => True) (wd_c_X12_fogOf_1 h0 h0_f0 h0_1 h0_2 h0_3 h0_4 h0_5 h0_f6 h0_f7 h0_f8 h0_f9 h0_f10 h0_f11 h0_f12 h0_f13 h0_f14 h0_15 h0_16 h0_f17 h0_18 h0_19 h0_20 h0_21 h0_22 h0_23 h0_24 h0_25 h0_f26 h0_f27 h0_f28 h0_f29 h0_f30 h0_f31 h0_32 h0_33 h0_f34 h0_35 h0_36 h0_37 h0_38 h0_39 h0_40 h0_f41 h0_f42 h0_f43 h0_f44 h0_45 h0_46 h0_47 h0_48 h0_49 h0_50 h0_f51 h0_52 h0_f53 h0_39 h0_39k h0_39c h0_38 h0_38k h0_38c))) (va_Ql (fun (r : Int64) (u : (Nat → Int32)) => (LG r (-9223372036854775808) 9223372036854775807) ∨ (r = 0 ∧ RG h0_f27 1 3)) (fun (u : (Nat → Int32)) t => va_P (dC, dI) vwCl (wd_c_X12_fogOf_1 h0 h0_f0 h0_1 h0_2 h0_3 h0_4 h0_5 h0_f6 h0_f7 h0_f8 h0_f9 h0_f10 h0_f11 h0_f12 h0_f13 h0_f14 h0_15 h0_16 h0_f17 h0_18 h0_19 h0_20 h0_21 h0_22 h0_23 h0_24 h0_25 h0_f26 h0_f27 h0_f28 h0_f29 h0_f30 h0_f31 h0_32 h0_33 h0_f34 h0_35 h0_36 h0_37 h0_38 h0_39 h0_40 h0_f41 h0_f42 h0_f43 h0_f44 h0_45 h0_46 h0_47 h0_48 h0_49 h0_50 h0_f51 h0_52 h0_f53 h0_39 h0_39k h0_39c h0_38 h0_38k (u)) t.heap ∧ va_K (dC, dI) vwCl [] t ∧ va_D (va_A (wd_c_X12_fogOf_1 h0 h0_f0 h0_1 h0_2 h0_3 h0_4 h0_5 h0_f6 h0_f7 h0_f8 h0_f9 h0_f10 h0_f11 h0_f12 h0_f13 h0_f14 h0_15 h0_16 h0_f17 h0_18 h0_19 h0_20 h0_21 h0_22 h0_23 h0_24 h0_25 h0_f26 h0_f27 h0_f28 h0_f29 h0_f30 h0_f31 h0_32 h0_33 h0_f34 h0_35 h0_36 h0_37 h0_38 h0_39 h0_40 h0_f41 h0_f42 h0_f43 h0_f44 h0_45 h0_46 h0_47 h0_48 h0_49 h0_50 h0_f51 h0_52 h0_f53 h0_39 h0_39k h0_39c h0_38 h0_38k h0_38c) sz) (wd_c_X12_fogOf_1 h0 h0_f0 h0_1 h0_2 h0_3 h0_4 h0_5 h0_f6 h0_f7 h0_f8 h0_f9 h0_f10 h0_f11 h0_f12 h0_f13 h0_f14 h0_15 h0_16 h0_f17 h0_18 h0_19 h0_20 h0_21 h0_22 h0_23 h0_24 h0_25 h0_f26 h0_f27 h0_f28 h0_f29 h0_f30 h0_f31 h0_32 h0_33 h0_f34 h0_35 h0_36 h0_37 h0_38 h0_39 h0_40 h0_f41 h0_f42 h0_f43 h0_f44 h0_45 h0_46 h0_47 h0_48 h0_49 h0_50 h0_f51 h0_52 h0_f53 h0_39 h0_39k h0_39c h0_38 h0_38k (u))) (va_A (wd_c_X12_fogOf_1 h0 h0_f0 h0_1 h0_2 h0_3 h0_4 h0_5 h0_f6 h0_f7 h0_f8 h0_f9 h0_f10 h0_f11 h0_f12 h0_f13 h0_f14 h0_15 h0_16 h0_f17 h0_18 h0_19 h0_20 h0_21 h0_22 h0_23 h0_24 h0_25 h0_f26 h0_f27 h0_f28 h0_f29 h0_f30 h0_f31 h0_32 h0_33 h0_f34 h0_35 h0_36 h0_37 h0_38 h0_39 h0_40 h0_f41 h0_f42 h0_f43 h0_f44 h0_45 h0_46 h0_47 h0_48 h0_49 h0_50 h0_f51 h0_52 h0_f53 h0_39 h0_39k h0_39c h0_38 h0_38k h0_38c) sz)) 0 0 (va_A (wd_c_X12_fogOf_1 h0 h0_f0 h0_1 h0_2 h0_3 h0_4 h0_5 h0_f6 h0_f7 h0_f8 h0_f9 h0_f10 h0_f11 h0_f12 h0_f13 h0_f14 h0_15 h0_16 h0_f17 h0_18 h0_19 h0_20 h0_21 h0_22 h0_23 h0_24 h0_25 h0_f26 h0_f27 h0_f28 h0_f29 h0_f30 h0_f31 h0_32 h0_33 h0_f34 h0_35 h0_36 h0_37 h0_38 h0_39 h0_40 h0_f41 h0_f42 h0_f43 h0_f44 h0_45 h0_46 h0_47 h0_48 h0_49 h0_50 h0_f51 h0_52 h0_f53 h0_39 h0_39k h0_39c h0_38 h0_38k h0_38c) sz) := by
  refine Met.ofW (cc := cX12_fogOf) (maxL := 10) (ret := (some .long)) (by decide +kernel) rfl ?_
  intro p e s m args below meth c s₁ B hml hv
  obtain ⟨rfl, hsz, hP, hK, hD0⟩ := hv
  have hx := B.exec
  have hb := B.bytes
  have hr := B.returns
  have hts := atoms_spec (ws := wf_c_X12_fogOf_1) B.pre
  have hown : s.vm.findClass RX12 = some m.cls := findClass_of_methodNamed B.named
  have hlocks := B.notSynchronized
  subst hsz
  have hD := hD0.self (sz := s.heap.size)
  generalize hAe : va_A (wd_c_X12_fogOf_1 h0 h0_f0 h0_1 h0_2 h0_3 h0_4 h0_5 h0_f6 h0_f7 h0_f8 h0_f9 h0_f10 h0_f11 h0_f12 h0_f13 h0_f14 h0_15 h0_16 h0_f17 h0_18 h0_19 h0_20 h0_21 h0_22 h0_23 h0_24 h0_25 h0_f26 h0_f27 h0_f28 h0_f29 h0_f30 h0_f31 h0_32 h0_33 h0_f34 h0_35 h0_36 h0_37 h0_38 h0_39 h0_40 h0_f41 h0_f42 h0_f43 h0_f44 h0_45 h0_46 h0_47 h0_48 h0_49 h0_50 h0_f51 h0_52 h0_f53 h0_39 h0_39k h0_39c h0_38 h0_38k h0_38c) s.heap.size = A at hD ⊢
  have hA : ∀ q : Nat, s.heap.size ≤ q → A q := fun q h => by rw [← hAe]; exact Or.inr h
  have hP : va_P (dC, dI) vwCl (wd_c_X12_fogOf_1 h0 h0_f0 h0_1 h0_2 h0_3 h0_4 h0_5 h0_f6 h0_f7 h0_f8 h0_f9 h0_f10 h0_f11 h0_f12 h0_f13 h0_f14 h0_15 h0_16 h0_f17 h0_18 h0_19 h0_20 h0_21 h0_22 h0_23 h0_24 h0_25 h0_f26 h0_f27 h0_f28 h0_f29 h0_f30 h0_f31 h0_32 h0_33 h0_f34 h0_35 h0_36 h0_37 h0_38 h0_39 h0_40 h0_f41 h0_f42 h0_f43 h0_f44 h0_45 h0_46 h0_47 h0_48 h0_49 h0_50 h0_f51 h0_52 h0_f53 h0_39 h0_39k h0_39c h0_38 h0_38k h0_38c) s.heap := hP
  have hl := lv_entry ([.ref h0, .int p1, .int 1, .int p3, .long p4]) (n := 10) (Nat.le_of_ble_eq_true rfl)
  rw [lg_entry_eq]
  generalize (lg_sl ([.ref h0, .int p1, .int 1, .int p3, .long p4]) ++ List.replicate (10 - (lg_sl ([.ref h0, .int p1, .int 1, .int p3, .long p4])).length) Slot.unset).toArray = ls at hl ⊢
  have hl : lv_has ls 10 [(0, .ref h0), (1, .int p1), (2, .int 1), (3, .int p3), (4, .long p4)] := hl
  obtain ⟨H, hHe⟩ : ∃ H : Heap, s.heap = H := ⟨_, rfl⟩
  have hS : va_S A s.heap H [] := by rw [hHe]; exact va_S.rf
  have hP : va_P (dC, dI) vwCl (wd_c_X12_fogOf_1 h0 h0_f0 h0_1 h0_2 h0_3 h0_4 h0_5 h0_f6 h0_f7 h0_f8 h0_f9 h0_f10 h0_f11 h0_f12 h0_f13 h0_f14 h0_15 h0_16 h0_f17 h0_18 h0_19 h0_20 h0_21 h0_22 h0_23 h0_24 h0_25 h0_f26 h0_f27 h0_f28 h0_f29 h0_f30 h0_f31 h0_32 h0_33 h0_f34 h0_35 h0_36 h0_37 h0_38 h0_39 h0_40 h0_f41 h0_f42 h0_f43 h0_f44 h0_45 h0_46 h0_47 h0_48 h0_49 h0_50 h0_f51 h0_52 h0_f53 h0_39 h0_39k h0_39c h0_38 h0_38k h0_38c) H := by rw [← hHe]; exact hP
  rw [hHe]
  refine wj (fun G hG hU => ?_)
  as_aux_lemma =>
  have J11 : ∀ (n11 : Nat) (j11_l6 : Int32) (hM11 : MU j11_l6 < n11) (g_h0_f10 : RG h0_f10 0 240) (g_h0_f11 : RG h0_f11 (-1) 240) (g_h0_f17 : RG h0_f17 0 1) (g_h0_f26 : RG h0_f26 1 1) (g_h0_f27 : RG h0_f27 0 3) (g_h0_f28 : RG h0_f28 0 8) (g_h0_f29 : RG h0_f29 0 3) (g_h0_f30 : RG h0_f30 0 4) (g_h0_f31 : RG h0_f31 0 1) (g_h0_f34 : RG h0_f34 (-1) 3) (g_h0_f41 : RG h0_f41 0 40) (g_h0_f51 : RG h0_f51 0 10) (g_h0_f53 : RG h0_f53 0 1) (g_h0_f6 : RG h0_f6 0 240) (g_h0_f7 : RG h0_f7 0 4) (g_h0_f8 : RG h0_f8 0 720) (g_h0_f9 : RG h0_f9 0 240) (g_j11_l6 : RG j11_l6 0 3) (g_p1 : RG p1 0 2) (g_p3 : RG p3 0 100) (H : Heap) (locs : List Loc) (ls : Array Slot) (hP : va_P (dC, dI) vwCl (wd_c_X12_fogOf_1 h0 h0_f0 h0_1 h0_2 h0_3 h0_4 h0_5 h0_f6 h0_f7 h0_f8 h0_f9 h0_f10 h0_f11 h0_f12 h0_f13 h0_f14 h0_15 h0_16 h0_f17 h0_18 h0_19 h0_20 h0_21 h0_22 h0_23 h0_24 h0_25 h0_f26 h0_f27 h0_f28 h0_f29 h0_f30 h0_f31 h0_32 h0_33 h0_f34 h0_35 h0_36 h0_37 h0_38 h0_39 h0_40 h0_f41 h0_f42 h0_f43 h0_f44 h0_45 h0_46 h0_47 h0_48 h0_49 h0_50 h0_f51 h0_52 h0_f53 h0_39 h0_39k h0_39c h0_38 h0_38k h0_38c) H) (hD : va_D A (wd_c_X12_fogOf_1 h0 h0_f0 h0_1 h0_2 h0_3 h0_4 h0_5 h0_f6 h0_f7 h0_f8 h0_f9 h0_f10 h0_f11 h0_f12 h0_f13 h0_f14 h0_15 h0_16 h0_f17 h0_18 h0_19 h0_20 h0_21 h0_22 h0_23 h0_24 h0_25 h0_f26 h0_f27 h0_f28 h0_f29 h0_f30 h0_f31 h0_32 h0_33 h0_f34 h0_35 h0_36 h0_37 h0_38 h0_39 h0_40 h0_f41 h0_f42 h0_f43 h0_f44 h0_45 h0_46 h0_47 h0_48 h0_49 h0_50 h0_f51 h0_52 h0_f53 h0_39 h0_39k h0_39c h0_38 h0_38k h0_38c)) (hS : va_S A s.heap H locs) (hl : lv_has ls 10 [(6, .int j11_l6), (0, .ref h0), (1, .int p1), (4, .long p4)]), G H locs (F0 m 11 ls []) := by
    as_aux_lemma =>
    intro n11
    induction n11 with
    | zero => intros; exact absurd (by assumption) (Nat.not_lt_zero _)
    | succ n11 ih11 =>
      intro j11_l6 hM11 g_h0_f10 g_h0_f11 g_h0_f17 g_h0_f26 g_h0_f27 g_h0_f28 g_h0_f29 g_h0_f30 g_h0_f31 g_h0_f34 g_h0_f41 g_h0_f51 g_h0_f53 g_h0_f6 g_h0_f7 g_h0_f8 g_h0_f9 g_j11_l6 g_p1 g_p3 H locs ls hP hD hS hl
      have J44 : ∀ (g_h0_f10 : RG h0_f10 0 240) (g_h0_f11 : RG h0_f11 (-1) 240) (g_h0_f17 : RG h0_f17 0 1) (g_h0_f26 : RG h0_f26 1 1) (g_h0_f27 : RG h0_f27 1 3) (g_h0_f28 : RG h0_f28 0 8) (g_h0_f29 : RG h0_f29 0 3) (g_h0_f30 : RG h0_f30 0 4) (g_h0_f31 : RG h0_f31 0 1) (g_h0_f34 : RG h0_f34 (-1) 3) (g_h0_f41 : RG h0_f41 0 40) (g_h0_f51 : RG h0_f51 0 10) (g_h0_f53 : RG h0_f53 0 1) (g_h0_f6 : RG h0_f6 0 240) (g_h0_f7 : RG h0_f7 0 4) (g_h0_f8 : RG h0_f8 0 720) (g_h0_f9 : RG h0_f9 0 240) (g_j11_l6 : RG j11_l6 0 2) (g_p1 : RG p1 0 2) (g_p3 : RG p3 0 100) (H : Heap) (locs : List Loc) (ls : Array Slot) (hP : va_P (dC, dI) vwCl (wd_c_X12_fogOf_1 h0 h0_f0 h0_1 h0_2 h0_3 h0_4 h0_5 h0_f6 h0_f7 h0_f8 h0_f9 h0_f10 h0_f11 h0_f12 h0_f13 h0_f14 h0_15 h0_16 h0_f17 h0_18 h0_19 h0_20 h0_21 h0_22 h0_23 h0_24 h0_25 h0_f26 h0_f27 h0_f28 h0_f29 h0_f30 h0_f31 h0_32 h0_33 h0_f34 h0_35 h0_36 h0_37 h0_38 h0_39 h0_40 h0_f41 h0_f42 h0_f43 h0_f44 h0_45 h0_46 h0_47 h0_48 h0_49 h0_50 h0_f51 h0_52 h0_f53 h0_39 h0_39k h0_39c h0_38 h0_38k h0_38c) H) (hD : va_D A (wd_c_X12_fogOf_1 h0 h0_f0 h0_1 h0_2 h0_3 h0_4 h0_5 h0_f6 h0_f7 h0_f8 h0_f9 h0_f10 h0_f11 h0_f12 h0_f13 h0_f14 h0_15 h0_16 h0_f17 h0_18 h0_19 h0_20 h0_21 h0_22 h0_23 h0_24 h0_25 h0_f26 h0_f27 h0_f28 h0_f29 h0_f30 h0_f31 h0_32 h0_33 h0_f34 h0_35 h0_36 h0_37 h0_38 h0_39 h0_40 h0_f41 h0_f42 h0_f43 h0_f44 h0_45 h0_46 h0_47 h0_48 h0_49 h0_50 h0_f51 h0_52 h0_f53 h0_39 h0_39k h0_39c h0_38 h0_38k h0_38c)) (hS : va_S A s.heap H locs) (hl : lv_has ls 10 [(6, .int j11_l6), (0, .ref h0), (1, .int p1), (4, .long p4)]), G H locs (F0 m 44 ls []) := by
        as_aux_lemma =>
        intro g_h0_f10 g_h0_f11 g_h0_f17 g_h0_f26 g_h0_f27 g_h0_f28 g_h0_f29 g_h0_f30 g_h0_f31 g_h0_f34 g_h0_f41 g_h0_f51 g_h0_f53 g_h0_f6 g_h0_f7 g_h0_f8 g_h0_f9 g_j11_l6 g_p1 g_p3 H locs ls hP hD hS hl
        refine hG _ _ _ ?_
        obtain ⟨x_1, ex_1⟩ : ∃ y : Int32, y = j11_l6 + 1 := ⟨_, rfl⟩
        have g_2 : RG x_1 1 3 := RG_add ex_1 g_j11_l6 (RG_k 1 1 rfl) (by decide +kernel)
        refine lv_iinc (v := x_1) (lv' := [(6, .int x_1), (0, .ref h0), (1, .int p1), (4, .long p4)]) hx hb dX12_fogOf_44 hl (k := 0) rfl (by rw [ex_1]; rfl) (Nat.le_of_ble_eq_true rfl) rfl (fun ls hl => ?_)
        refine lv_goto (tgt := 11) hx hb dX12_fogOf_47 rfl ?_
        exact hU _ _ _ (ih11 x_1 (mu_s (MU_add ex_1 g_j11_l6 (q := 1) rfl (by decide +kernel)) hM11) g_h0_f10 g_h0_f11 g_h0_f17 g_h0_f26 (RG_w g_h0_f27 (by decide +kernel)) g_h0_f28 g_h0_f29 g_h0_f30 g_h0_f31 g_h0_f34 g_h0_f41 g_h0_f51 g_h0_f53 g_h0_f6 g_h0_f7 g_h0_f8 g_h0_f9 (RG_w g_2 (by decide +kernel)) g_p1 g_p3 _ _ _ hP hD hS (lv_sub hl [0, 1, 2, 3] rfl))
      refine hG _ _ _ ?_
      refine lv_iload hx hb dX12_fogOf_11 (lv_at hl 0 rfl) ?_
      refine lv_aload_n hx hb dX12_fogOf_13 rfl (lv_at hl 1 rfl) ?_
      refine va_get (D := (dC, dI)) (ci := 12) (v := .int h0_f27) (C := RX12) (T := TX12) (N := 54) hx hb hts iw_c_X12_fogOf_1_X12 hown hK hP 0 rfl rfl 27 (by decide +kernel) (hts (.fieldLink RX12 312 "BuoyVoteModel" "boats" "I") (List.mem_of_getElem? (i := 8) rfl)) (fun _ h9 => h9) rfl dX12_fogOf_14 ?_
      refine lv_icmp_ge (tgt := 50) hx hb dX12_fogOf_17 rfl (fun c_3 => ?_) (fun c_3 => ?_)
      · refine lv_lload hx hb dX12_fogOf_50 (lv_at hl 3 rfl) ?_
        have hK9 := hK.sub (tys' := []) [] rfl
        exact W.lret (v := p4) hx hb hr (fun t ht hW => ⟨⟨p4, h0_38c, rfl, (Or.inl (LG_any p4)), by rw [ht]; exact hP, va_K.moved hW.alike hK9, hD⟩, hS.F ht⟩) hS.2.2 dX12_fogOf_52
      · have d_4 := Int32.not_le.mp c_3
        have g_5 : RG j11_l6 0 2 := RG_lt1 g_j11_l6 g_h0_f27 d_4 (by decide +kernel)
        have g_6 : RG h0_f27 1 3 := RG_lt2 g_j11_l6 g_h0_f27 d_4 (by decide +kernel)
        refine lv_iload hx hb dX12_fogOf_20 (lv_at hl 0 rfl) ?_
        as_aux_lemma =>
        refine lv_iload_n hx hb dX12_fogOf_22 rfl (lv_at hl 2 rfl) ?_
        refine lv_icmp_eq (tgt := 44) hx hb dX12_fogOf_23 rfl (fun c_7 => ?_) (fun c_7 => ?_)
        · exact hU _ _ _ (J44 g_h0_f10 g_h0_f11 g_h0_f17 g_h0_f26 g_6 g_h0_f28 g_h0_f29 g_h0_f30 g_h0_f31 g_h0_f34 g_h0_f41 g_h0_f51 g_h0_f53 g_h0_f6 g_h0_f7 g_h0_f8 g_h0_f9 g_5 g_p1 g_p3 _ _ _ hP hD hS (lv_sub hl [0, 1, 2, 3] rfl))
        · refine lv_aload_n hx hb dX12_fogOf_26 rfl (lv_at hl 1 rfl) ?_
          refine va_get (D := (dC, dI)) (ci := 12) (v := .ref h0_38) (C := RX12) (T := TX12) (N := 54) hx hb hts iw_c_X12_fogOf_1_X12 hown hK hP 0 rfl rfl 38 (by decide +kernel) (hts (.fieldLink RX12 81 "BuoyVoteModel" "tally" "[I") (List.mem_of_getElem? (i := 9) rfl)) (fun _ h9 => h9) rfl dX12_fogOf_27 ?_
          refine lv_iload hx hb dX12_fogOf_30 (lv_at hl 0 rfl) ?_
          refine va_iald hx hb hK hP 2 1 rfl rfl (RG_in g_5 (by decide +kernel)) dX12_fogOf_32 ?_
          refine lv_topi (fun x_8 ex_8 => ?_)
          refine lv_aload_n hx hb dX12_fogOf_33 rfl (lv_at hl 1 rfl) ?_
          refine va_get (D := (dC, dI)) (ci := 12) (v := .ref h0_38) (C := RX12) (T := TX12) (N := 54) hx hb hts iw_c_X12_fogOf_1_X12 hown hK hP 0 rfl rfl 38 (by decide +kernel) (hts (.fieldLink RX12 81 "BuoyVoteModel" "tally" "[I") (List.mem_of_getElem? (i := 9) rfl)) (fun _ h9 => h9) rfl dX12_fogOf_34 ?_
          refine lv_iload_n hx hb dX12_fogOf_37 rfl (lv_at hl 2 rfl) ?_
          refine va_iald hx hb hK hP 2 1 rfl rfl (RG_in g_p1 (by decide +kernel)) dX12_fogOf_38 ?_
          refine lv_topi (fun x_9 ex_9 => ?_)
          refine lv_icmp_lt (tgt := 44) hx hb dX12_fogOf_39 rfl (fun c_10 => ?_) (fun c_10 => ?_)
          · have g_11 : RG x_8 (-2147483648) 2147483646 := RG_lt1 (RG_any x_8) (RG_any x_9) c_10 (by decide +kernel)
            have g_12 : RG x_9 (-2147483647) 2147483647 := RG_lt2 (RG_any x_8) (RG_any x_9) c_10 (by decide +kernel)
            exact hU _ _ _ (J44 g_h0_f10 g_h0_f11 g_h0_f17 g_h0_f26 g_6 g_h0_f28 g_h0_f29 g_h0_f30 g_h0_f31 g_h0_f34 g_h0_f41 g_h0_f51 g_h0_f53 g_h0_f6 g_h0_f7 g_h0_f8 g_h0_f9 g_5 g_p1 g_p3 _ _ _ hP hD hS (lv_sub hl [0, 1, 2, 3] rfl))
          · have d_13 := Int32.not_lt.mp c_10
            refine lv_lconst (v := 0) hx hb dX12_fogOf_42 (by decide +kernel) ?_
            as_aux_lemma =>
            have hK9 := hK.sub (tys' := []) [] rfl
            exact W.lret (v := 0) hx hb hr (fun t ht hW => ⟨⟨0, h0_38c, rfl, (Or.inr ⟨rfl, g_6⟩), by rw [ht]; exact hP, va_K.moved hW.alike hK9, hD⟩, hS.F ht⟩) hS.2.2 dX12_fogOf_43
  refine hG _ _ _ ?_
  refine lv_iload_n hx hb dX12_fogOf_0 rfl (lv_at hl 2 rfl) ?_
  refine lv_aload_n hx hb dX12_fogOf_1 rfl (lv_at hl 0 rfl) ?_
  refine va_get (D := (dC, dI)) (ci := 12) (v := .int h0_f26) (C := RX12) (T := TX12) (N := 54) hx hb hts iw_c_X12_fogOf_1_X12 hown hK hP 0 rfl rfl 26 (by decide +kernel) (hts (.fieldLink RX12 309 "BuoyVoteModel" "buoys" "I") (List.mem_of_getElem? (i := 1) rfl)) (fun _ h9 => h9) rfl dX12_fogOf_2 ?_
  refine lv_icmp_ne (tgt := 53) hx hb dX12_fogOf_5 rfl (fun c_14 => ?_) (fun c_14 => ?_)
  · have g_15 : RG h0_f26 2 8 := RG_ne1 g_h0_f26 (q := 1) rfl (fun q => c_14 q.symm) (by decide +kernel)
    refine lv_aload_n hx hb dX12_fogOf_53 rfl (lv_at hl 0 rfl) ?_
    refine va_get (D := (dC, dI)) (ci := 12) (v := .ref h0_39) (C := RX12) (T := TX12) (N := 54) hx hb hts iw_c_X12_fogOf_1_X12 hown hK hP 0 rfl rfl 39 (by decide +kernel) (hts (.fieldLink RX12 84 "BuoyVoteModel" "leans" "[I") (List.mem_of_getElem? (i := 2) rfl)) (fun _ h9 => h9) rfl dX12_fogOf_54 ?_
    refine lv_iload_n hx hb dX12_fogOf_57 rfl (lv_at hl 2 rfl) ?_
    refine va_iald hx hb hK hP 1 0 rfl rfl (RG_in (RG_k 1 1 rfl) (by decide +kernel)) dX12_fogOf_58 ?_
    refine lv_topi (fun x_16 ex_16 => ?_)
    have g_17 : RG x_16 (-1) 2 := AI_rd a_h0_39c ex_16
    refine lv_iconst (v := (-1)) hx hb dX12_fogOf_59 kc_iconst_m1 ?_
    as_aux_lemma =>
    refine lv_icmp_ne (tgt := 75) hx hb dX12_fogOf_60 rfl (fun c_18 => ?_) (fun c_18 => ?_)
    · have g_19 : RG x_16 0 2 := RG_ne1 g_17 (q := (-1)) rfl c_18 (by decide +kernel)
      refine lv_lload hx hb dX12_fogOf_75 (lv_at hl 4 rfl) ?_
      refine lv_iload_n hx hb dX12_fogOf_77 rfl (lv_at hl 3 rfl) ?_
      refine lv_i2l (v := p3.toInt64) hx hb dX12_fogOf_78 rfl ?_
      refine lv_topl (fun x_20 ex_20 => ?_)
      have g_21 : LG x_20 0 100 := LG_i2l ex_20 g_p3
      refine lv_lmul hx hb dX12_fogOf_79 ?_
      refine lv_topl (fun x_22 ex_22 => ?_)
      refine lv_ldc2 hx hb hown (hts (.constantLong RX12 545 (100)) (List.mem_of_getElem? (i := 3) rfl)) dX12_fogOf_80 ?_
      refine lv_ldiv hx hb dX12_fogOf_83 (by decide +kernel) ?_
      refine lv_topl (fun x_23 ex_23 => ?_)
      refine lv_lstore (lv' := [(6, .long x_23), (0, .ref h0), (1, .int p1), (2, .int 1), (3, .int p3), (4, .long p4)]) hx hb dX12_fogOf_84 hl (Nat.le_of_ble_eq_true rfl) rfl (fun ls hl => ?_)
      refine lv_aload_n hx hb dX12_fogOf_86 rfl (lv_at hl 1 rfl) ?_
      as_aux_lemma =>
      refine lv_iload_n hx hb dX12_fogOf_87 rfl (lv_at hl 2 rfl) ?_
      refine lv_iload_n hx hb dX12_fogOf_88 rfl (lv_at hl 3 rfl) ?_
      refine lv_iconst (v := 1) hx hb dX12_fogOf_89 kc_iconst_1 ?_
      refine lv_iadd hx hb dX12_fogOf_90 ?_
      refine lv_topi (fun x_24 ex_24 => ?_)
      obtain rfl : x_24 = 2 := ex_24.trans (by decide +kernel)
      refine lv_iload_n hx hb dX12_fogOf_91 rfl (lv_at hl 4 rfl) ?_
      refine lv_lload hx hb dX12_fogOf_92 (lv_at hl 0 rfl) ?_
      obtain ⟨hPc, hDc, hFc, hqc⟩ := cl_cut (wc := (wd_c_X12_fogOf_2 h0 h0_f0 h0_1 h0_2 h0_3 h0_4 h0_5 h0_f6 h0_f7 h0_f8 h0_f9 h0_f10 h0_f11 h0_f12 h0_f13 h0_f14 h0_15 h0_16 h0_f17 h0_18 h0_19 h0_20 h0_21 h0_22 h0_23 h0_24 h0_25 h0_f26 h0_f27 h0_f28 h0_f29 h0_f30 h0_f31 h0_32 h0_33 h0_f34 h0_35 h0_36 h0_37 h0_38 h0_39 h0_40 h0_f41 h0_f42 h0_f43 h0_f44 h0_45 h0_46 h0_47 h0_48 h0_49 h0_50 h0_f51 h0_52 h0_f53 h0_39 h0_39k h0_39c h0_38 h0_38k h0_38c)) hP hD hS hA [0, 1, 2] (by decide +kernel) rfl
      have hKc := hK.sub (tys' := [(h0_39k, .int), (h0_38k, .int)]) [0, 1] rfl
      have hrv := va_recv hKc hPc (ci := 12) (q0 := 0) rfl rfl
      refine va_calll (va_runV (As := [.int p1, .int 2, .int p3, .long x_23]) (rest := []) ⟨hx, hb, hml, hown, hts⟩ (c_X12_fogOf_2 l dC dI H.size h0 p1 p3 x_23 h0_f0 h0_1 h0_2 h0_3 h0_4 h0_5 h0_f6 h0_f7 h0_f8 h0_f9 h0_f10 h0_f11 h0_f12 h0_f13 h0_f14 h0_15 h0_16 h0_f17 h0_18 h0_19 h0_20 h0_21 h0_22 h0_23 h0_24 h0_25 h0_f26 h0_f27 h0_f28 h0_f29 h0_f30 h0_f31 h0_32 h0_33 h0_f34 h0_35 h0_36 h0_37 h0_38 h0_39 h0_40 h0_f41 h0_f42 h0_f43 h0_f44 h0_45 h0_46 h0_47 h0_48 h0_49 h0_50 h0_f51 h0_52 h0_f53 h0_39k h0_39c h0_38k h0_38c g_p1 g_p3 g_h0_f6 g_h0_f7 g_h0_f8 g_h0_f9 g_h0_f10 g_h0_f11 g_h0_f17 g_15 g_h0_f27 g_h0_f28 g_h0_f29 g_h0_f30 g_h0_f31 g_h0_f34 g_h0_f41 g_h0_f51 g_h0_f53 a_h0_39c) (cwV 4 hts gf_c_X12_fogOf_1_c_X12_fogOf_2 rfl rfl rfl mdV_X12_fogOf ⟨Nat.le_of_ble_eq_true rfl, Nat.le_of_ble_eq_true rfl⟩) ⟨fun a U g mk q => by obtain ⟨q0, q1, qP, qK, qD⟩ := q; exact ⟨q0, q1, qP, va_K.moved (u := U) (U := U.calling g mk a) (Vm.Alike.refl U.vm) qK, qD⟩, hrv, fun U hU hW => ⟨rfl, by rw [hU], by rw [hU]; exact hPc, va_K.moved hW.alike hKc, hDc.weaken (fun _ _ _ _ => trivial)⟩⟩ rfl rfl hl.1 rfl (lv_room (Nat.le_of_ble_eq_true rfl)) dX12_fogOf_94 ⟨Nat.le_of_ble_eq_true rfl, Nat.le_of_ble_eq_true rfl⟩) hS (fun q _ h => hFc q h) hFc (fun r_25 w_26 t H1 locs ht hvm hw hB hz1 hk1 hS => ?_)
      obtain ⟨hP1, hK1, hD1⟩ := hB
      rw [ht] at hP1
      obtain ⟨hP, hD⟩ := cl_put (w1 := (wd_c_X12_fogOf_2 h0 h0_f0 h0_1 h0_2 h0_3 h0_4 h0_5 h0_f6 h0_f7 h0_f8 h0_f9 h0_f10 h0_f11 h0_f12 h0_f13 h0_f14 h0_15 h0_16 h0_f17 h0_18 h0_19 h0_20 h0_21 h0_22 h0_23 h0_24 h0_25 h0_f26 h0_f27 h0_f28 h0_f29 h0_f30 h0_f31 h0_32 h0_33 h0_f34 h0_35 h0_36 h0_37 h0_38 h0_39 h0_40 h0_f41 h0_f42 h0_f43 h0_f44 h0_45 h0_46 h0_47 h0_48 h0_49 h0_50 h0_f51 h0_52 h0_f53 h0_39 h0_39k h0_39c h0_38 h0_38k w_26)) (nw := (wd_c_X12_fogOf_1 h0 h0_f0 h0_1 h0_2 h0_3 h0_4 h0_5 h0_f6 h0_f7 h0_f8 h0_f9 h0_f10 h0_f11 h0_f12 h0_f13 h0_f14 h0_15 h0_16 h0_f17 h0_18 h0_19 h0_20 h0_21 h0_22 h0_23 h0_24 h0_25 h0_f26 h0_f27 h0_f28 h0_f29 h0_f30 h0_f31 h0_32 h0_33 h0_f34 h0_35 h0_36 h0_37 h0_38 h0_39 h0_40 h0_f41 h0_f42 h0_f43 h0_f44 h0_45 h0_46 h0_47 h0_48 h0_49 h0_50 h0_f51 h0_52 h0_f53 h0_39 h0_39k h0_39c h0_38 h0_38k w_26)) hP hD [0, 1, 2] [3, 4, 5] 3 rfl hqc (by decide +kernel) rfl hk1 hFc hP1 hD1
      generalize H1 = H at hP hS ⊢
      as_aux_lemma =>
      rcases hw with h_27 | ⟨h_28, h_29⟩
      · refine lv_lstore (lv' := [(8, .long r_25), (6, .long x_23), (0, .ref h0), (1, .int p1), (2, .int 1), (3, .int p3), (4, .long p4)]) hx hb dX12_fogOf_97 hl (Nat.le_of_ble_eq_true rfl) rfl (fun ls hl => ?_)
        refine lv_aload_n hx hb dX12_fogOf_99 rfl (lv_at hl 2 rfl) ?_
        refine va_get (D := (dC, dI)) (ci := 12) (v := .ref h0_38) (C := RX12) (T := TX12) (N := 54) hx hb hts iw_c_X12_fogOf_1_X12 hown hK hP 0 rfl rfl 38 (by decide +kernel) (hts (.fieldLink RX12 81 "BuoyVoteModel" "tally" "[I") (List.mem_of_getElem? (i := 9) rfl)) (fun _ h9 => h9) rfl dX12_fogOf_100 ?_
        refine lv_aload_n hx hb dX12_fogOf_103 rfl (lv_at hl 2 rfl) ?_
        refine va_get (D := (dC, dI)) (ci := 12) (v := .ref h0_39) (C := RX12) (T := TX12) (N := 54) hx hb hts iw_c_X12_fogOf_1_X12 hown hK hP 0 rfl rfl 39 (by decide +kernel) (hts (.fieldLink RX12 84 "BuoyVoteModel" "leans" "[I") (List.mem_of_getElem? (i := 2) rfl)) (fun _ h9 => h9) rfl dX12_fogOf_104 ?_
        refine lv_iload_n hx hb dX12_fogOf_107 rfl (lv_at hl 4 rfl) ?_
        refine va_iald hx hb hK hP 1 0 rfl rfl (RG_in (RG_k 1 1 rfl) (by decide +kernel)) dX12_fogOf_108 ?_
        refine lv_topi (fun x_30 ex_30 => ?_)
        obtain rfl : x_16 = x_30 := (ex_30.trans ex_16.symm).symm
        refine lv_dup2_11 hx hb dX12_fogOf_109 rfl rfl ?_
        refine va_iald hx hb hK hP 2 1 rfl rfl (RG_in g_19 (by decide +kernel)) dX12_fogOf_110 ?_
        refine lv_topi (fun x_31 ex_31 => ?_)
        refine lv_iconst (v := 1) hx hb dX12_fogOf_111 kc_iconst_1 ?_
        as_aux_lemma =>
        refine lv_iadd hx hb dX12_fogOf_112 ?_
        refine lv_topi (fun x_32 ex_32 => ?_)
        refine va_iast hx hb hK hP hD hS 2 1 rfl rfl (RG_in g_19 (by decide +kernel)) dX12_fogOf_113 (fun H locs hP hD hS => ?_)
        have hP : va_P (dC, dI) vwCl (wd_c_X12_fogOf_1 h0 h0_f0 h0_1 h0_2 h0_3 h0_4 h0_5 h0_f6 h0_f7 h0_f8 h0_f9 h0_f10 h0_f11 h0_f12 h0_f13 h0_f14 h0_15 h0_16 h0_f17 h0_18 h0_19 h0_20 h0_21 h0_22 h0_23 h0_24 h0_25 h0_f26 h0_f27 h0_f28 h0_f29 h0_f30 h0_f31 h0_32 h0_33 h0_f34 h0_35 h0_36 h0_37 h0_38 h0_39 h0_40 h0_f41 h0_f42 h0_f43 h0_f44 h0_45 h0_46 h0_47 h0_48 h0_49 h0_50 h0_f51 h0_52 h0_f53 h0_39 h0_39k h0_39c h0_38 h0_38k (upd w_26 (x_16 : Int32).toNatClampNeg x_32)) H := hP
        have hD : va_D A (wd_c_X12_fogOf_1 h0 h0_f0 h0_1 h0_2 h0_3 h0_4 h0_5 h0_f6 h0_f7 h0_f8 h0_f9 h0_f10 h0_f11 h0_f12 h0_f13 h0_f14 h0_15 h0_16 h0_f17 h0_18 h0_19 h0_20 h0_21 h0_22 h0_23 h0_24 h0_25 h0_f26 h0_f27 h0_f28 h0_f29 h0_f30 h0_f31 h0_32 h0_33 h0_f34 h0_35 h0_36 h0_37 h0_38 h0_39 h0_40 h0_f41 h0_f42 h0_f43 h0_f44 h0_45 h0_46 h0_47 h0_48 h0_49 h0_50 h0_f51 h0_52 h0_f53 h0_39 h0_39k h0_39c h0_38 h0_38k (upd w_26 (x_16 : Int32).toNatClampNeg x_32)) := hD
        have l_34 : (upd w_26 (x_16 : Int32).toNatClampNeg x_32) (x_16 : Int32).toNatClampNeg = x_32 := pk_us
        generalize (upd w_26 (x_16 : Int32).toNatClampNeg x_32) = w_33 at hP hD l_34
        have hP : va_P (dC, dI) vwCl (wd_c_X12_fogOf_1 h0 h0_f0 h0_1 h0_2 h0_3 h0_4 h0_5 h0_f6 h0_f7 h0_f8 h0_f9 h0_f10 h0_f11 h0_f12 h0_f13 h0_f14 h0_15 h0_16 h0_f17 h0_18 h0_19 h0_20 h0_21 h0_22 h0_23 h0_24 h0_25 h0_f26 h0_f27 h0_f28 h0_f29 h0_f30 h0_f31 h0_32 h0_33 h0_f34 h0_35 h0_36 h0_37 h0_38 h0_39 h0_40 h0_f41 h0_f42 h0_f43 h0_f44 h0_45 h0_46 h0_47 h0_48 h0_49 h0_50 h0_f51 h0_52 h0_f53 h0_39 h0_39k h0_39c h0_38 h0_38k w_33) H := hP
        have hD : va_D A (wd_c_X12_fogOf_1 h0 h0_f0 h0_1 h0_2 h0_3 h0_4 h0_5 h0_f6 h0_f7 h0_f8 h0_f9 h0_f10 h0_f11 h0_f12 h0_f13 h0_f14 h0_15 h0_16 h0_f17 h0_18 h0_19 h0_20 h0_21 h0_22 h0_23 h0_24 h0_25 h0_f26 h0_f27 h0_f28 h0_f29 h0_f30 h0_f31 h0_32 h0_33 h0_f34 h0_35 h0_36 h0_37 h0_38 h0_39 h0_40 h0_f41 h0_f42 h0_f43 h0_f44 h0_45 h0_46 h0_47 h0_48 h0_49 h0_50 h0_f51 h0_52 h0_f53 h0_39 h0_39k h0_39c h0_38 h0_38k w_33) := hD
        refine lv_lload hx hb dX12_fogOf_114 (lv_at hl 0 rfl) ?_
        refine lv_aload_n hx hb dX12_fogOf_116 rfl (lv_at hl 2 rfl) ?_
        refine lv_iload_n hx hb dX12_fogOf_117 rfl (lv_at hl 3 rfl) ?_
        refine lv_iload_n hx hb dX12_fogOf_118 rfl (lv_at hl 4 rfl) ?_
        refine lv_iconst (v := 1) hx hb dX12_fogOf_119 kc_iconst_1 ?_
        as_aux_lemma =>
        refine lv_iadd hx hb dX12_fogOf_120 ?_
        refine lv_topi (fun x_35 ex_35 => ?_)
        obtain rfl : x_35 = 2 := ex_35.trans (by decide +kernel)
        refine lv_iload_n hx hb dX12_fogOf_121 rfl (lv_at hl 5 rfl) ?_
        refine lv_lload hx hb dX12_fogOf_122 (lv_at hl 6 rfl) ?_
        refine lv_lload hx hb dX12_fogOf_124 (lv_at hl 1 rfl) ?_
        refine lv_lsub hx hb dX12_fogOf_126 ?_
        refine lv_topl (fun x_36 ex_36 => ?_)
        obtain ⟨hPc, hDc, hFc, hqc⟩ := cl_cut (wc := (wd_c_X12_fogOf_2 h0 h0_f0 h0_1 h0_2 h0_3 h0_4 h0_5 h0_f6 h0_f7 h0_f8 h0_f9 h0_f10 h0_f11 h0_f12 h0_f13 h0_f14 h0_15 h0_16 h0_f17 h0_18 h0_19 h0_20 h0_21 h0_22 h0_23 h0_24 h0_25 h0_f26 h0_f27 h0_f28 h0_f29 h0_f30 h0_f31 h0_32 h0_33 h0_f34 h0_35 h0_36 h0_37 h0_38 h0_39 h0_40 h0_f41 h0_f42 h0_f43 h0_f44 h0_45 h0_46 h0_47 h0_48 h0_49 h0_50 h0_f51 h0_52 h0_f53 h0_39 h0_39k h0_39c h0_38 h0_38k w_33)) hP hD hS hA [0, 1, 2] (by decide +kernel) rfl
        have hKc := hK.sub (tys' := [(h0_39k, .int), (h0_38k, .int)]) [0, 1] rfl
        have hrv := va_recv hKc hPc (ci := 12) (q0 := 0) rfl rfl
        refine va_calll (va_runV (As := [.int p1, .int 2, .int p3, .long x_36]) (rest := [.long r_25]) ⟨hx, hb, hml, hown, hts⟩ (c_X12_fogOf_2 l dC dI H.size h0 p1 p3 x_36 h0_f0 h0_1 h0_2 h0_3 h0_4 h0_5 h0_f6 h0_f7 h0_f8 h0_f9 h0_f10 h0_f11 h0_f12 h0_f13 h0_f14 h0_15 h0_16 h0_f17 h0_18 h0_19 h0_20 h0_21 h0_22 h0_23 h0_24 h0_25 h0_f26 h0_f27 h0_f28 h0_f29 h0_f30 h0_f31 h0_32 h0_33 h0_f34 h0_35 h0_36 h0_37 h0_38 h0_39 h0_40 h0_f41 h0_f42 h0_f43 h0_f44 h0_45 h0_46 h0_47 h0_48 h0_49 h0_50 h0_f51 h0_52 h0_f53 h0_39k h0_39c h0_38k w_33 g_p1 g_p3 g_h0_f6 g_h0_f7 g_h0_f8 g_h0_f9 g_h0_f10 g_h0_f11 g_h0_f17 g_15 g_h0_f27 g_h0_f28 g_h0_f29 g_h0_f30 g_h0_f31 g_h0_f34 g_h0_f41 g_h0_f51 g_h0_f53 a_h0_39c) (cwV 4 hts gf_c_X12_fogOf_1_c_X12_fogOf_2 rfl rfl rfl mdV_X12_fogOf ⟨Nat.le_of_ble_eq_true rfl, Nat.le_of_ble_eq_true rfl⟩) ⟨fun a U g mk q => by obtain ⟨q0, q1, qP, qK, qD⟩ := q; exact ⟨q0, q1, qP, va_K.moved (u := U) (U := U.calling g mk a) (Vm.Alike.refl U.vm) qK, qD⟩, hrv, fun U hU hW => ⟨rfl, by rw [hU], by rw [hU]; exact hPc, va_K.moved hW.alike hKc, hDc.weaken (fun _ _ _ _ => trivial)⟩⟩ rfl rfl hl.1 rfl (lv_room (Nat.le_of_ble_eq_true rfl)) dX12_fogOf_127 ⟨Nat.le_of_ble_eq_true rfl, Nat.le_of_ble_eq_true rfl⟩) hS (fun q _ h => hFc q h) hFc (fun r_37 w_38 t H1 locs ht hvm hw hB hz1 hk1 hS => ?_)
        obtain ⟨hP1, hK1, hD1⟩ := hB
        rw [ht] at hP1
        obtain ⟨hP, hD⟩ := cl_put (w1 := (wd_c_X12_fogOf_2 h0 h0_f0 h0_1 h0_2 h0_3 h0_4 h0_5 h0_f6 h0_f7 h0_f8 h0_f9 h0_f10 h0_f11 h0_f12 h0_f13 h0_f14 h0_15 h0_16 h0_f17 h0_18 h0_19 h0_20 h0_21 h0_22 h0_23 h0_24 h0_25 h0_f26 h0_f27 h0_f28 h0_f29 h0_f30 h0_f31 h0_32 h0_33 h0_f34 h0_35 h0_36 h0_37 h0_38 h0_39 h0_40 h0_f41 h0_f42 h0_f43 h0_f44 h0_45 h0_46 h0_47 h0_48 h0_49 h0_50 h0_f51 h0_52 h0_f53 h0_39 h0_39k h0_39c h0_38 h0_38k w_38)) (nw := (wd_c_X12_fogOf_1 h0 h0_f0 h0_1 h0_2 h0_3 h0_4 h0_5 h0_f6 h0_f7 h0_f8 h0_f9 h0_f10 h0_f11 h0_f12 h0_f13 h0_f14 h0_15 h0_16 h0_f17 h0_18 h0_19 h0_20 h0_21 h0_22 h0_23 h0_24 h0_25 h0_f26 h0_f27 h0_f28 h0_f29 h0_f30 h0_f31 h0_32 h0_33 h0_f34 h0_35 h0_36 h0_37 h0_38 h0_39 h0_40 h0_f41 h0_f42 h0_f43 h0_f44 h0_45 h0_46 h0_47 h0_48 h0_49 h0_50 h0_f51 h0_52 h0_f53 h0_39 h0_39k h0_39c h0_38 h0_38k w_38)) hP hD [0, 1, 2] [3, 4, 5] 3 rfl hqc (by decide +kernel) rfl hk1 hFc hP1 hD1
        generalize H1 = H at hP hS ⊢
        as_aux_lemma =>
        rcases hw with h_39 | ⟨h_40, h_41⟩
        · refine lv_ladd hx hb dX12_fogOf_130 ?_
          refine lv_topl (fun x_42 ex_42 => ?_)
          refine lv_lstore (lv' := [(8, .long x_42), (6, .long x_23), (0, .ref h0), (1, .int p1), (2, .int 1), (3, .int p3), (4, .long p4)]) hx hb dX12_fogOf_131 hl (Nat.le_of_ble_eq_true rfl) rfl (fun ls hl => ?_)
          refine lv_aload_n hx hb dX12_fogOf_133 rfl (lv_at hl 2 rfl) ?_
          refine va_get (D := (dC, dI)) (ci := 12) (v := .ref h0_38) (C := RX12) (T := TX12) (N := 54) hx hb hts iw_c_X12_fogOf_1_X12 hown hK hP 0 rfl rfl 38 (by decide +kernel) (hts (.fieldLink RX12 81 "BuoyVoteModel" "tally" "[I") (List.mem_of_getElem? (i := 9) rfl)) (fun _ h9 => h9) rfl dX12_fogOf_134 ?_
          refine lv_aload_n hx hb dX12_fogOf_137 rfl (lv_at hl 2 rfl) ?_
          refine va_get (D := (dC, dI)) (ci := 12) (v := .ref h0_39) (C := RX12) (T := TX12) (N := 54) hx hb hts iw_c_X12_fogOf_1_X12 hown hK hP 0 rfl rfl 39 (by decide +kernel) (hts (.fieldLink RX12 84 "BuoyVoteModel" "leans" "[I") (List.mem_of_getElem? (i := 2) rfl)) (fun _ h9 => h9) rfl dX12_fogOf_138 ?_
          refine lv_iload_n hx hb dX12_fogOf_141 rfl (lv_at hl 4 rfl) ?_
          refine va_iald hx hb hK hP 1 0 rfl rfl (RG_in (RG_k 1 1 rfl) (by decide +kernel)) dX12_fogOf_142 ?_
          refine lv_topi (fun x_43 ex_43 => ?_)
          obtain rfl : x_16 = x_43 := (ex_43.trans ex_16.symm).symm
          refine lv_dup2_11 hx hb dX12_fogOf_143 rfl rfl ?_
          refine va_iald hx hb hK hP 2 1 rfl rfl (RG_in g_19 (by decide +kernel)) dX12_fogOf_144 ?_
          as_aux_lemma =>
          refine lv_topi (fun x_44 ex_44 => ?_)
          refine lv_iconst (v := 1) hx hb dX12_fogOf_145 kc_iconst_1 ?_
          refine lv_isub hx hb dX12_fogOf_146 ?_
          refine lv_topi (fun x_45 ex_45 => ?_)
          refine va_iast hx hb hK hP hD hS 2 1 rfl rfl (RG_in g_19 (by decide +kernel)) dX12_fogOf_147 (fun H locs hP hD hS => ?_)
          have hP : va_P (dC, dI) vwCl (wd_c_X12_fogOf_1 h0 h0_f0 h0_1 h0_2 h0_3 h0_4 h0_5 h0_f6 h0_f7 h0_f8 h0_f9 h0_f10 h0_f11 h0_f12 h0_f13 h0_f14 h0_15 h0_16 h0_f17 h0_18 h0_19 h0_20 h0_21 h0_22 h0_23 h0_24 h0_25 h0_f26 h0_f27 h0_f28 h0_f29 h0_f30 h0_f31 h0_32 h0_33 h0_f34 h0_35 h0_36 h0_37 h0_38 h0_39 h0_40 h0_f41 h0_f42 h0_f43 h0_f44 h0_45 h0_46 h0_47 h0_48 h0_49 h0_50 h0_f51 h0_52 h0_f53 h0_39 h0_39k h0_39c h0_38 h0_38k (upd w_38 (x_16 : Int32).toNatClampNeg x_45)) H := hP
          have hD : va_D A (wd_c_X12_fogOf_1 h0 h0_f0 h0_1 h0_2 h0_3 h0_4 h0_5 h0_f6 h0_f7 h0_f8 h0_f9 h0_f10 h0_f11 h0_f12 h0_f13 h0_f14 h0_15 h0_16 h0_f17 h0_18 h0_19 h0_20 h0_21 h0_22 h0_23 h0_24 h0_25 h0_f26 h0_f27 h0_f28 h0_f29 h0_f30 h0_f31 h0_32 h0_33 h0_f34 h0_35 h0_36 h0_37 h0_38 h0_39 h0_40 h0_f41 h0_f42 h0_f43 h0_f44 h0_45 h0_46 h0_47 h0_48 h0_49 h0_50 h0_f51 h0_52 h0_f53 h0_39 h0_39k h0_39c h0_38 h0_38k (upd w_38 (x_16 : Int32).toNatClampNeg x_45)) := hD
          have l_47 : (upd w_38 (x_16 : Int32).toNatClampNeg x_45) (x_16 : Int32).toNatClampNeg = x_45 := pk_us
          generalize (upd w_38 (x_16 : Int32).toNatClampNeg x_45) = w_46 at hP hD l_47
          have hP : va_P (dC, dI) vwCl (wd_c_X12_fogOf_1 h0 h0_f0 h0_1 h0_2 h0_3 h0_4 h0_5 h0_f6 h0_f7 h0_f8 h0_f9 h0_f10 h0_f11 h0_f12 h0_f13 h0_f14 h0_15 h0_16 h0_f17 h0_18 h0_19 h0_20 h0_21 h0_22 h0_23 h0_24 h0_25 h0_f26 h0_f27 h0_f28 h0_f29 h0_f30 h0_f31 h0_32 h0_33 h0_f34 h0_35 h0_36 h0_37 h0_38 h0_39 h0_40 h0_f41 h0_f42 h0_f43 h0_f44 h0_45 h0_46 h0_47 h0_48 h0_49 h0_50 h0_f51 h0_52 h0_f53 h0_39 h0_39k h0_39c h0_38 h0_38k w_46) H := hP
          have hD : va_D A (wd_c_X12_fogOf_1 h0 h0_f0 h0_1 h0_2 h0_3 h0_4 h0_5 h0_f6 h0_f7 h0_f8 h0_f9 h0_f10 h0_f11 h0_f12 h0_f13 h0_f14 h0_15 h0_16 h0_f17 h0_18 h0_19 h0_20 h0_21 h0_22 h0_23 h0_24 h0_25 h0_f26 h0_f27 h0_f28 h0_f29 h0_f30 h0_f31 h0_32 h0_33 h0_f34 h0_35 h0_36 h0_37 h0_38 h0_39 h0_40 h0_f41 h0_f42 h0_f43 h0_f44 h0_45 h0_46 h0_47 h0_48 h0_49 h0_50 h0_f51 h0_52 h0_f53 h0_39 h0_39k h0_39c h0_38 h0_38k w_46) := hD
          refine lv_lload hx hb dX12_fogOf_148 (lv_at hl 0 rfl) ?_
          have hK9 := hK.sub (tys' := []) [] rfl
          exact W.lret (v := x_42) hx hb hr (fun t ht hW => ⟨⟨x_42, w_46, rfl, (Or.inl (LG_any x_42)), by rw [ht]; exact hP, va_K.moved hW.alike hK9, hD⟩, hS.F ht⟩) hS.2.2 dX12_fogOf_150
        · rw [h_40]
          refine lv_ladd hx hb dX12_fogOf_130 ?_
          as_aux_lemma =>
          refine lv_topl (fun x_48 ex_48 => ?_)
          refine lv_lstore (lv' := [(8, .long x_48), (6, .long x_23), (0, .ref h0), (1, .int p1), (2, .int 1), (3, .int p3), (4, .long p4)]) hx hb dX12_fogOf_131 hl (Nat.le_of_ble_eq_true rfl) rfl (fun ls hl => ?_)
          refine lv_aload_n hx hb dX12_fogOf_133 rfl (lv_at hl 2 rfl) ?_
          refine va_get (D := (dC, dI)) (ci := 12) (v := .ref h0_38) (C := RX12) (T := TX12) (N := 54) hx hb hts iw_c_X12_fogOf_1_X12 hown hK hP 0 rfl rfl 38 (by decide +kernel) (hts (.fieldLink RX12 81 "BuoyVoteModel" "tally" "[I") (List.mem_of_getElem? (i := 9) rfl)) (fun _ h9 => h9) rfl dX12_fogOf_134 ?_
          refine lv_aload_n hx hb dX12_fogOf_137 rfl (lv_at hl 2 rfl) ?_
          refine va_get (D := (dC, dI)) (ci := 12) (v := .ref h0_39) (C := RX12) (T := TX12) (N := 54) hx hb hts iw_c_X12_fogOf_1_X12 hown hK hP 0 rfl rfl 39 (by decide +kernel) (hts (.fieldLink RX12 84 "BuoyVoteModel" "leans" "[I") (List.mem_of_getElem? (i := 2) rfl)) (fun _ h9 => h9) rfl dX12_fogOf_138 ?_
          refine lv_iload_n hx hb dX12_fogOf_141 rfl (lv_at hl 4 rfl) ?_
          refine va_iald hx hb hK hP 1 0 rfl rfl (RG_in (RG_k 1 1 rfl) (by decide +kernel)) dX12_fogOf_142 ?_
          refine lv_topi (fun x_49 ex_49 => ?_)
          obtain rfl : x_16 = x_49 := (ex_49.trans ex_16.symm).symm
          refine lv_dup2_11 hx hb dX12_fogOf_143 rfl rfl ?_
          refine va_iald hx hb hK hP 2 1 rfl rfl (RG_in g_19 (by decide +kernel)) dX12_fogOf_144 ?_
          refine lv_topi (fun x_50 ex_50 => ?_)
          refine lv_iconst (v := 1) hx hb dX12_fogOf_145 kc_iconst_1 ?_
          as_aux_lemma =>
          refine lv_isub hx hb dX12_fogOf_146 ?_
          refine lv_topi (fun x_51 ex_51 => ?_)
          refine va_iast hx hb hK hP hD hS 2 1 rfl rfl (RG_in g_19 (by decide +kernel)) dX12_fogOf_147 (fun H locs hP hD hS => ?_)
          have hP : va_P (dC, dI) vwCl (wd_c_X12_fogOf_1 h0 h0_f0 h0_1 h0_2 h0_3 h0_4 h0_5 h0_f6 h0_f7 h0_f8 h0_f9 h0_f10 h0_f11 h0_f12 h0_f13 h0_f14 h0_15 h0_16 h0_f17 h0_18 h0_19 h0_20 h0_21 h0_22 h0_23 h0_24 h0_25 h0_f26 h0_f27 h0_f28 h0_f29 h0_f30 h0_f31 h0_32 h0_33 h0_f34 h0_35 h0_36 h0_37 h0_38 h0_39 h0_40 h0_f41 h0_f42 h0_f43 h0_f44 h0_45 h0_46 h0_47 h0_48 h0_49 h0_50 h0_f51 h0_52 h0_f53 h0_39 h0_39k h0_39c h0_38 h0_38k (upd w_38 (x_16 : Int32).toNatClampNeg x_51)) H := hP
          have hD : va_D A (wd_c_X12_fogOf_1 h0 h0_f0 h0_1 h0_2 h0_3 h0_4 h0_5 h0_f6 h0_f7 h0_f8 h0_f9 h0_f10 h0_f11 h0_f12 h0_f13 h0_f14 h0_15 h0_16 h0_f17 h0_18 h0_19 h0_20 h0_21 h0_22 h0_23 h0_24 h0_25 h0_f26 h0_f27 h0_f28 h0_f29 h0_f30 h0_f31 h0_32 h0_33 h0_f34 h0_35 h0_36 h0_37 h0_38 h0_39 h0_40 h0_f41 h0_f42 h0_f43 h0_f44 h0_45 h0_46 h0_47 h0_48 h0_49 h0_50 h0_f51 h0_52 h0_f53 h0_39 h0_39k h0_39c h0_38 h0_38k (upd w_38 (x_16 : Int32).toNatClampNeg x_51)) := hD
          have l_53 : (upd w_38 (x_16 : Int32).toNatClampNeg x_51) (x_16 : Int32).toNatClampNeg = x_51 := pk_us
          generalize (upd w_38 (x_16 : Int32).toNatClampNeg x_51) = w_52 at hP hD l_53
          have hP : va_P (dC, dI) vwCl (wd_c_X12_fogOf_1 h0 h0_f0 h0_1 h0_2 h0_3 h0_4 h0_5 h0_f6 h0_f7 h0_f8 h0_f9 h0_f10 h0_f11 h0_f12 h0_f13 h0_f14 h0_15 h0_16 h0_f17 h0_18 h0_19 h0_20 h0_21 h0_22 h0_23 h0_24 h0_25 h0_f26 h0_f27 h0_f28 h0_f29 h0_f30 h0_f31 h0_32 h0_33 h0_f34 h0_35 h0_36 h0_37 h0_38 h0_39 h0_40 h0_f41 h0_f42 h0_f43 h0_f44 h0_45 h0_46 h0_47 h0_48 h0_49 h0_50 h0_f51 h0_52 h0_f53 h0_39 h0_39k h0_39c h0_38 h0_38k w_52) H := hP
          have hD : va_D A (wd_c_X12_fogOf_1 h0 h0_f0 h0_1 h0_2 h0_3 h0_4 h0_5 h0_f6 h0_f7 h0_f8 h0_f9 h0_f10 h0_f11 h0_f12 h0_f13 h0_f14 h0_15 h0_16 h0_f17 h0_18 h0_19 h0_20 h0_21 h0_22 h0_23 h0_24 h0_25 h0_f26 h0_f27 h0_f28 h0_f29 h0_f30 h0_f31 h0_32 h0_33 h0_f34 h0_35 h0_36 h0_37 h0_38 h0_39 h0_40 h0_f41 h0_f42 h0_f43 h0_f44 h0_45 h0_46 h0_47 h0_48 h0_49 h0_50 h0_f51 h0_52 h0_f53 h0_39 h0_39k h0_39c h0_38 h0_38k w_52) := hD
          refine lv_lload hx hb dX12_fogOf_148 (lv_at hl 0 rfl) ?_
          have hK9 := hK.sub (tys' := []) [] rfl
          exact W.lret (v := x_48) hx hb hr (fun t ht hW => ⟨⟨x_48, w_52, rfl, (Or.inl (LG_any x_48)), by rw [ht]; exact hP, va_K.moved hW.alike hK9, hD⟩, hS.F ht⟩) hS.2.2 dX12_fogOf_150
      · rw [h_28]
        refine lv_lstore (lv' := [(8, .long 0), (6, .long x_23), (0, .ref h0), (1, .int p1), (2, .int 1), (3, .int p3), (4, .long p4)]) hx hb dX12_fogOf_97 hl (Nat.le_of_ble_eq_true rfl) rfl (fun ls hl => ?_)
        as_aux_lemma =>
        refine lv_aload_n hx hb dX12_fogOf_99 rfl (lv_at hl 2 rfl) ?_
        refine va_get (D := (dC, dI)) (ci := 12) (v := .ref h0_38) (C := RX12) (T := TX12) (N := 54) hx hb hts iw_c_X12_fogOf_1_X12 hown hK hP 0 rfl rfl 38 (by decide +kernel) (hts (.fieldLink RX12 81 "BuoyVoteModel" "tally" "[I") (List.mem_of_getElem? (i := 9) rfl)) (fun _ h9 => h9) rfl dX12_fogOf_100 ?_
        refine lv_aload_n hx hb dX12_fogOf_103 rfl (lv_at hl 2 rfl) ?_
        refine va_get (D := (dC, dI)) (ci := 12) (v := .ref h0_39) (C := RX12) (T := TX12) (N := 54) hx hb hts iw_c_X12_fogOf_1_X12 hown hK hP 0 rfl rfl 39 (by decide +kernel) (hts (.fieldLink RX12 84 "BuoyVoteModel" "leans" "[I") (List.mem_of_getElem? (i := 2) rfl)) (fun _ h9 => h9) rfl dX12_fogOf_104 ?_
        refine lv_iload_n hx hb dX12_fogOf_107 rfl (lv_at hl 4 rfl) ?_
        refine va_iald hx hb hK hP 1 0 rfl rfl (RG_in (RG_k 1 1 rfl) (by decide +kernel)) dX12_fogOf_108 ?_
        refine lv_topi (fun x_54 ex_54 => ?_)
        obtain rfl : x_16 = x_54 := (ex_54.trans ex_16.symm).symm
        refine lv_dup2_11 hx hb dX12_fogOf_109 rfl rfl ?_
        refine va_iald hx hb hK hP 2 1 rfl rfl (RG_in g_19 (by decide +kernel)) dX12_fogOf_110 ?_
        refine lv_topi (fun x_55 ex_55 => ?_)
        refine lv_iconst (v := 1) hx hb dX12_fogOf_111 kc_iconst_1 ?_
        refine lv_iadd hx hb dX12_fogOf_112 ?_
        refine lv_topi (fun x_56 ex_56 => ?_)
        as_aux_lemma =>
        refine va_iast hx hb hK hP hD hS 2 1 rfl rfl (RG_in g_19 (by decide +kernel)) dX12_fogOf_113 (fun H locs hP hD hS => ?_)
        have hP : va_P (dC, dI) vwCl (wd_c_X12_fogOf_1 h0 h0_f0 h0_1 h0_2 h0_3 h0_4 h0_5 h0_f6 h0_f7 h0_f8 h0_f9 h0_f10 h0_f11 h0_f12 h0_f13 h0_f14 h0_15 h0_16 h0_f17 h0_18 h0_19 h0_20 h0_21 h0_22 h0_23 h0_24 h0_25 h0_f26 h0_f27 h0_f28 h0_f29 h0_f30 h0_f31 h0_32 h0_33 h0_f34 h0_35 h0_36 h0_37 h0_38 h0_39 h0_40 h0_f41 h0_f42 h0_f43 h0_f44 h0_45 h0_46 h0_47 h0_48 h0_49 h0_50 h0_f51 h0_52 h0_f53 h0_39 h0_39k h0_39c h0_38 h0_38k (upd w_26 (x_16 : Int32).toNatClampNeg x_56)) H := hP
        have hD : va_D A (wd_c_X12_fogOf_1 h0 h0_f0 h0_1 h0_2 h0_3 h0_4 h0_5 h0_f6 h0_f7 h0_f8 h0_f9 h0_f10 h0_f11 h0_f12 h0_f13 h0_f14 h0_15 h0_16 h0_f17 h0_18 h0_19 h0_20 h0_21 h0_22 h0_23 h0_24 h0_25 h0_f26 h0_f27 h0_f28 h0_f29 h0_f30 h0_f31 h0_32 h0_33 h0_f34 h0_35 h0_36 h0_37 h0_38 h0_39 h0_40 h0_f41 h0_f42 h0_f43 h0_f44 h0_45 h0_46 h0_47 h0_48 h0_49 h0_50 h0_f51 h0_52 h0_f53 h0_39 h0_39k h0_39c h0_38 h0_38k (upd w_26 (x_16 : Int32).toNatClampNeg x_56)) := hD
        have l_58 : (upd w_26 (x_16 : Int32).toNatClampNeg x_56) (x_16 : Int32).toNatClampNeg = x_56 := pk_us
        generalize (upd w_26 (x_16 : Int32).toNatClampNeg x_56) = w_57 at hP hD l_58
        have hP : va_P (dC, dI) vwCl (wd_c_X12_fogOf_1 h0 h0_f0 h0_1 h0_2 h0_3 h0_4 h0_5 h0_f6 h0_f7 h0_f8 h0_f9 h0_f10 h0_f11 h0_f12 h0_f13 h0_f14 h0_15 h0_16 h0_f17 h0_18 h0_19 h0_20 h0_21 h0_22 h0_23 h0_24 h0_25 h0_f26 h0_f27 h0_f28 h0_f29 h0_f30 h0_f31 h0_32 h0_33 h0_f34 h0_35 h0_36 h0_37 h0_38 h0_39 h0_40 h0_f41 h0_f42 h0_f43 h0_f44 h0_45 h0_46 h0_47 h0_48 h0_49 h0_50 h0_f51 h0_52 h0_f53 h0_39 h0_39k h0_39c h0_38 h0_38k w_57) H := hP
        have hD : va_D A (wd_c_X12_fogOf_1 h0 h0_f0 h0_1 h0_2 h0_3 h0_4 h0_5 h0_f6 h0_f7 h0_f8 h0_f9 h0_f10 h0_f11 h0_f12 h0_f13 h0_f14 h0_15 h0_16 h0_f17 h0_18 h0_19 h0_20 h0_21 h0_22 h0_23 h0_24 h0_25 h0_f26 h0_f27 h0_f28 h0_f29 h0_f30 h0_f31 h0_32 h0_33 h0_f34 h0_35 h0_36 h0_37 h0_38 h0_39 h0_40 h0_f41 h0_f42 h0_f43 h0_f44 h0_45 h0_46 h0_47 h0_48 h0_49 h0_50 h0_f51 h0_52 h0_f53 h0_39 h0_39k h0_39c h0_38 h0_38k w_57) := hD
        refine lv_lload hx hb dX12_fogOf_114 (lv_at hl 0 rfl) ?_
        refine lv_aload_n hx hb dX12_fogOf_116 rfl (lv_at hl 2 rfl) ?_
        refine lv_iload_n hx hb dX12_fogOf_117 rfl (lv_at hl 3 rfl) ?_
        refine lv_iload_n hx hb dX12_fogOf_118 rfl (lv_at hl 4 rfl) ?_
        refine lv_iconst (v := 1) hx hb dX12_fogOf_119 kc_iconst_1 ?_
        refine lv_iadd hx hb dX12_fogOf_120 ?_
        refine lv_topi (fun x_59 ex_59 => ?_)
        as_aux_lemma =>
        obtain rfl : x_59 = 2 := ex_59.trans (by decide +kernel)
        refine lv_iload_n hx hb dX12_fogOf_121 rfl (lv_at hl 5 rfl) ?_
        refine lv_lload hx hb dX12_fogOf_122 (lv_at hl 6 rfl) ?_
        refine lv_lload hx hb dX12_fogOf_124 (lv_at hl 1 rfl) ?_
        refine lv_lsub hx hb dX12_fogOf_126 ?_
        refine lv_topl (fun x_60 ex_60 => ?_)
        obtain ⟨hPc, hDc, hFc, hqc⟩ := cl_cut (wc := (wd_c_X12_fogOf_2 h0 h0_f0 h0_1 h0_2 h0_3 h0_4 h0_5 h0_f6 h0_f7 h0_f8 h0_f9 h0_f10 h0_f11 h0_f12 h0_f13 h0_f14 h0_15 h0_16 h0_f17 h0_18 h0_19 h0_20 h0_21 h0_22 h0_23 h0_24 h0_25 h0_f26 h0_f27 h0_f28 h0_f29 h0_f30 h0_f31 h0_32 h0_33 h0_f34 h0_35 h0_36 h0_37 h0_38 h0_39 h0_40 h0_f41 h0_f42 h0_f43 h0_f44 h0_45 h0_46 h0_47 h0_48 h0_49 h0_50 h0_f51 h0_52 h0_f53 h0_39 h0_39k h0_39c h0_38 h0_38k w_57)) hP hD hS hA [0, 1, 2] (by decide +kernel) rfl
        have hKc := hK.sub (tys' := [(h0_39k, .int), (h0_38k, .int)]) [0, 1] rfl
        have hrv := va_recv hKc hPc (ci := 12) (q0 := 0) rfl rfl
        refine va_calll (va_runV (As := [.int p1, .int 2, .int p3, .long x_60]) (rest := [.long 0]) ⟨hx, hb, hml, hown, hts⟩ (c_X12_fogOf_2 l dC dI H.size h0 p1 p3 x_60 h0_f0 h0_1 h0_2 h0_3 h0_4 h0_5 h0_f6 h0_f7 h0_f8 h0_f9 h0_f10 h0_f11 h0_f12 h0_f13 h0_f14 h0_15 h0_16 h0_f17 h0_18 h0_19 h0_20 h0_21 h0_22 h0_23 h0_24 h0_25 h0_f26 h0_f27 h0_f28 h0_f29 h0_f30 h0_f31 h0_32 h0_33 h0_f34 h0_35 h0_36 h0_37 h0_38 h0_39 h0_40 h0_f41 h0_f42 h0_f43 h0_f44 h0_45 h0_46 h0_47 h0_48 h0_49 h0_50 h0_f51 h0_52 h0_f53 h0_39k h0_39c h0_38k w_57 g_p1 g_p3 g_h0_f6 g_h0_f7 g_h0_f8 g_h0_f9 g_h0_f10 g_h0_f11 g_h0_f17 g_15 (RG_w h_29 (by decide +kernel)) g_h0_f28 g_h0_f29 g_h0_f30 g_h0_f31 g_h0_f34 g_h0_f41 g_h0_f51 g_h0_f53 a_h0_39c) (cwV 4 hts gf_c_X12_fogOf_1_c_X12_fogOf_2 rfl rfl rfl mdV_X12_fogOf ⟨Nat.le_of_ble_eq_true rfl, Nat.le_of_ble_eq_true rfl⟩) ⟨fun a U g mk q => by obtain ⟨q0, q1, qP, qK, qD⟩ := q; exact ⟨q0, q1, qP, va_K.moved (u := U) (U := U.calling g mk a) (Vm.Alike.refl U.vm) qK, qD⟩, hrv, fun U hU hW => ⟨rfl, by rw [hU], by rw [hU]; exact hPc, va_K.moved hW.alike hKc, hDc.weaken (fun _ _ _ _ => trivial)⟩⟩ rfl rfl hl.1 rfl (lv_room (Nat.le_of_ble_eq_true rfl)) dX12_fogOf_127 ⟨Nat.le_of_ble_eq_true rfl, Nat.le_of_ble_eq_true rfl⟩) hS (fun q _ h => hFc q h) hFc (fun r_61 w_62 t H1 locs ht hvm hw hB hz1 hk1 hS => ?_)
        obtain ⟨hP1, hK1, hD1⟩ := hB
        rw [ht] at hP1
        obtain ⟨hP, hD⟩ := cl_put (w1 := (wd_c_X12_fogOf_2 h0 h0_f0 h0_1 h0_2 h0_3 h0_4 h0_5 h0_f6 h0_f7 h0_f8 h0_f9 h0_f10 h0_f11 h0_f12 h0_f13 h0_f14 h0_15 h0_16 h0_f17 h0_18 h0_19 h0_20 h0_21 h0_22 h0_23 h0_24 h0_25 h0_f26 h0_f27 h0_f28 h0_f29 h0_f30 h0_f31 h0_32 h0_33 h0_f34 h0_35 h0_36 h0_37 h0_38 h0_39 h0_40 h0_f41 h0_f42 h0_f43 h0_f44 h0_45 h0_46 h0_47 h0_48 h0_49 h0_50 h0_f51 h0_52 h0_f53 h0_39 h0_39k h0_39c h0_38 h0_38k w_62)) (nw := (wd_c_X12_fogOf_1 h0 h0_f0 h0_1 h0_2 h0_3 h0_4 h0_5 h0_f6 h0_f7 h0_f8 h0_f9 h0_f10 h0_f11 h0_f12 h0_f13 h0_f14 h0_15 h0_16 h0_f17 h0_18 h0_19 h0_20 h0_21 h0_22 h0_23 h0_24 h0_25 h0_f26 h0_f27 h0_f28 h0_f29 h0_f30 h0_f31 h0_32 h0_33 h0_f34 h0_35 h0_36 h0_37 h0_38 h0_39 h0_40 h0_f41 h0_f42 h0_f43 h0_f44 h0_45 h0_46 h0_47 h0_48 h0_49 h0_50 h0_f51 h0_52 h0_f53 h0_39 h0_39k h0_39c h0_38 h0_38k w_62)) hP hD [0, 1, 2] [3, 4, 5] 3 rfl hqc (by decide +kernel) rfl hk1 hFc hP1 hD1
        generalize H1 = H at hP hS ⊢
        as_aux_lemma =>
        rcases hw with h_63 | ⟨h_64, h_65⟩
        · refine lv_ladd hx hb dX12_fogOf_130 ?_
          refine lv_topl (fun x_66 ex_66 => ?_)
          refine lv_lstore (lv' := [(8, .long x_66), (6, .long x_23), (0, .ref h0), (1, .int p1), (2, .int 1), (3, .int p3), (4, .long p4)]) hx hb dX12_fogOf_131 hl (Nat.le_of_ble_eq_true rfl) rfl (fun ls hl => ?_)
          refine lv_aload_n hx hb dX12_fogOf_133 rfl (lv_at hl 2 rfl) ?_
          refine va_get (D := (dC, dI)) (ci := 12) (v := .ref h0_38) (C := RX12) (T := TX12) (N := 54) hx hb hts iw_c_X12_fogOf_1_X12 hown hK hP 0 rfl rfl 38 (by decide +kernel) (hts (.fieldLink RX12 81 "BuoyVoteModel" "tally" "[I") (List.mem_of_getElem? (i := 9) rfl)) (fun _ h9 => h9) rfl dX12_fogOf_134 ?_
          refine lv_aload_n hx hb dX12_fogOf_137 rfl (lv_at hl 2 rfl) ?_
          refine va_get (D := (dC, dI)) (ci := 12) (v := .ref h0_39) (C := RX12) (T := TX12) (N := 54) hx hb hts iw_c_X12_fogOf_1_X12 hown hK hP 0 rfl rfl 39 (by decide +kernel) (hts (.fieldLink RX12 84 "BuoyVoteModel" "leans" "[I") (List.mem_of_getElem? (i := 2) rfl)) (fun _ h9 => h9) rfl dX12_fogOf_138 ?_
          refine lv_iload_n hx hb dX12_fogOf_141 rfl (lv_at hl 4 rfl) ?_
          refine va_iald hx hb hK hP 1 0 rfl rfl (RG_in (RG_k 1 1 rfl) (by decide +kernel)) dX12_fogOf_142 ?_
          refine lv_topi (fun x_67 ex_67 => ?_)
          obtain rfl : x_16 = x_67 := (ex_67.trans ex_16.symm).symm
          refine lv_dup2_11 hx hb dX12_fogOf_143 rfl rfl ?_
          refine va_iald hx hb hK hP 2 1 rfl rfl (RG_in g_19 (by decide +kernel)) dX12_fogOf_144 ?_
          as_aux_lemma =>
          refine lv_topi (fun x_68 ex_68 => ?_)
          refine lv_iconst (v := 1) hx hb dX12_fogOf_145 kc_iconst_1 ?_
          refine lv_isub hx hb dX12_fogOf_146 ?_
          refine lv_topi (fun x_69 ex_69 => ?_)
          refine va_iast hx hb hK hP hD hS 2 1 rfl rfl (RG_in g_19 (by decide +kernel)) dX12_fogOf_147 (fun H locs hP hD hS => ?_)
          have hP : va_P (dC, dI) vwCl (wd_c_X12_fogOf_1 h0 h0_f0 h0_1 h0_2 h0_3 h0_4 h0_5 h0_f6 h0_f7 h0_f8 h0_f9 h0_f10 h0_f11 h0_f12 h0_f13 h0_f14 h0_15 h0_16 h0_f17 h0_18 h0_19 h0_20 h0_21 h0_22 h0_23 h0_24 h0_25 h0_f26 h0_f27 h0_f28 h0_f29 h0_f30 h0_f31 h0_32 h0_33 h0_f34 h0_35 h0_36 h0_37 h0_38 h0_39 h0_40 h0_f41 h0_f42 h0_f43 h0_f44 h0_45 h0_46 h0_47 h0_48 h0_49 h0_50 h0_f51 h0_52 h0_f53 h0_39 h0_39k h0_39c h0_38 h0_38k (upd w_62 (x_16 : Int32).toNatClampNeg x_69)) H := hP
          have hD : va_D A (wd_c_X12_fogOf_1 h0 h0_f0 h0_1 h0_2 h0_3 h0_4 h0_5 h0_f6 h0_f7 h0_f8 h0_f9 h0_f10 h0_f11 h0_f12 h0_f13 h0_f14 h0_15 h0_16 h0_f17 h0_18 h0_19 h0_20 h0_21 h0_22 h0_23 h0_24 h0_25 h0_f26 h0_f27 h0_f28 h0_f29 h0_f30 h0_f31 h0_32 h0_33 h0_f34 h0_35 h0_36 h0_37 h0_38 h0_39 h0_40 h0_f41 h0_f42 h0_f43 h0_f44 h0_45 h0_46 h0_47 h0_48 h0_49 h0_50 h0_f51 h0_52 h0_f53 h0_39 h0_39k h0_39c h0_38 h0_38k (upd w_62 (x_16 : Int32).toNatClampNeg x_69)) := hD
          have l_71 : (upd w_62 (x_16 : Int32).toNatClampNeg x_69) (x_16 : Int32).toNatClampNeg = x_69 := pk_us
          generalize (upd w_62 (x_16 : Int32).toNatClampNeg x_69) = w_70 at hP hD l_71
          have hP : va_P (dC, dI) vwCl (wd_c_X12_fogOf_1 h0 h0_f0 h0_1 h0_2 h0_3 h0_4 h0_5 h0_f6 h0_f7 h0_f8 h0_f9 h0_f10 h0_f11 h0_f12 h0_f13 h0_f14 h0_15 h0_16 h0_f17 h0_18 h0_19 h0_20 h0_21 h0_22 h0_23 h0_24 h0_25 h0_f26 h0_f27 h0_f28 h0_f29 h0_f30 h0_f31 h0_32 h0_33 h0_f34 h0_35 h0_36 h0_37 h0_38 h0_39 h0_40 h0_f41 h0_f42 h0_f43 h0_f44 h0_45 h0_46 h0_47 h0_48 h0_49 h0_50 h0_f51 h0_52 h0_f53 h0_39 h0_39k h0_39c h0_38 h0_38k w_70) H := hP
          have hD : va_D A (wd_c_X12_fogOf_1 h0 h0_f0 h0_1 h0_2 h0_3 h0_4 h0_5 h0_f6 h0_f7 h0_f8 h0_f9 h0_f10 h0_f11 h0_f12 h0_f13 h0_f14 h0_15 h0_16 h0_f17 h0_18 h0_19 h0_20 h0_21 h0_22 h0_23 h0_24 h0_25 h0_f26 h0_f27 h0_f28 h0_f29 h0_f30 h0_f31 h0_32 h0_33 h0_f34 h0_35 h0_36 h0_37 h0_38 h0_39 h0_40 h0_f41 h0_f42 h0_f43 h0_f44 h0_45 h0_46 h0_47 h0_48 h0_49 h0_50 h0_f51 h0_52 h0_f53 h0_39 h0_39k h0_39c h0_38 h0_38k w_70) := hD
          refine lv_lload hx hb dX12_fogOf_148 (lv_at hl 0 rfl) ?_
          have hK9 := hK.sub (tys' := []) [] rfl
          exact W.lret (v := x_66) hx hb hr (fun t ht hW => ⟨⟨x_66, w_70, rfl, (Or.inl (LG_any x_66)), by rw [ht]; exact hP, va_K.moved hW.alike hK9, hD⟩, hS.F ht⟩) hS.2.2 dX12_fogOf_150
        · rw [h_64]
          refine lv_ladd hx hb dX12_fogOf_130 ?_
          as_aux_lemma =>
          refine lv_topl (fun x_72 ex_72 => ?_)
          obtain rfl : x_72 = 0 := ex_72.trans (by decide +kernel)
          refine lv_lstore (lv' := [(8, .long 0), (6, .long x_23), (0, .ref h0), (1, .int p1), (2, .int 1), (3, .int p3), (4, .long p4)]) hx hb dX12_fogOf_131 hl (Nat.le_of_ble_eq_true rfl) rfl (fun ls hl => ?_)
          refine lv_aload_n hx hb dX12_fogOf_133 rfl (lv_at hl 2 rfl) ?_
          refine va_get (D := (dC, dI)) (ci := 12) (v := .ref h0_38) (C := RX12) (T := TX12) (N := 54) hx hb hts iw_c_X12_fogOf_1_X12 hown hK hP 0 rfl rfl 38 (by decide +kernel) (hts (.fieldLink RX12 81 "BuoyVoteModel" "tally" "[I") (List.mem_of_getElem? (i := 9) rfl)) (fun _ h9 => h9) rfl dX12_fogOf_134 ?_
          refine lv_aload_n hx hb dX12_fogOf_137 rfl (lv_at hl 2 rfl) ?_
          refine va_get (D := (dC, dI)) (ci := 12) (v := .ref h0_39) (C := RX12) (T := TX12) (N := 54) hx hb hts iw_c_X12_fogOf_1_X12 hown hK hP 0 rfl rfl 39 (by decide +kernel) (hts (.fieldLink RX12 84 "BuoyVoteModel" "leans" "[I") (List.mem_of_getElem? (i := 2) rfl)) (fun _ h9 => h9) rfl dX12_fogOf_138 ?_
          refine lv_iload_n hx hb dX12_fogOf_141 rfl (lv_at hl 4 rfl) ?_
          refine va_iald hx hb hK hP 1 0 rfl rfl (RG_in (RG_k 1 1 rfl) (by decide +kernel)) dX12_fogOf_142 ?_
          refine lv_topi (fun x_73 ex_73 => ?_)
          obtain rfl : x_16 = x_73 := (ex_73.trans ex_16.symm).symm
          refine lv_dup2_11 hx hb dX12_fogOf_143 rfl rfl ?_
          refine va_iald hx hb hK hP 2 1 rfl rfl (RG_in g_19 (by decide +kernel)) dX12_fogOf_144 ?_
          refine lv_topi (fun x_74 ex_74 => ?_)
          as_aux_lemma =>
          refine lv_iconst (v := 1) hx hb dX12_fogOf_145 kc_iconst_1 ?_
          refine lv_isub hx hb dX12_fogOf_146 ?_
          refine lv_topi (fun x_75 ex_75 => ?_)
          refine va_iast hx hb hK hP hD hS 2 1 rfl rfl (RG_in g_19 (by decide +kernel)) dX12_fogOf_147 (fun H locs hP hD hS => ?_)
          have hP : va_P (dC, dI) vwCl (wd_c_X12_fogOf_1 h0 h0_f0 h0_1 h0_2 h0_3 h0_4 h0_5 h0_f6 h0_f7 h0_f8 h0_f9 h0_f10 h0_f11 h0_f12 h0_f13 h0_f14 h0_15 h0_16 h0_f17 h0_18 h0_19 h0_20 h0_21 h0_22 h0_23 h0_24 h0_25 h0_f26 h0_f27 h0_f28 h0_f29 h0_f30 h0_f31 h0_32 h0_33 h0_f34 h0_35 h0_36 h0_37 h0_38 h0_39 h0_40 h0_f41 h0_f42 h0_f43 h0_f44 h0_45 h0_46 h0_47 h0_48 h0_49 h0_50 h0_f51 h0_52 h0_f53 h0_39 h0_39k h0_39c h0_38 h0_38k (upd w_62 (x_16 : Int32).toNatClampNeg x_75)) H := hP
          have hD : va_D A (wd_c_X12_fogOf_1 h0 h0_f0 h0_1 h0_2 h0_3 h0_4 h0_5 h0_f6 h0_f7 h0_f8 h0_f9 h0_f10 h0_f11 h0_f12 h0_f13 h0_f14 h0_15 h0_16 h0_f17 h0_18 h0_19 h0_20 h0_21 h0_22 h0_23 h0_24 h0_25 h0_f26 h0_f27 h0_f28 h0_f29 h0_f30 h0_f31 h0_32 h0_33 h0_f34 h0_35 h0_36 h0_37 h0_38 h0_39 h0_40 h0_f41 h0_f42 h0_f43 h0_f44 h0_45 h0_46 h0_47 h0_48 h0_49 h0_50 h0_f51 h0_52 h0_f53 h0_39 h0_39k h0_39c h0_38 h0_38k (upd w_62 (x_16 : Int32).toNatClampNeg x_75)) := hD
          have l_77 : (upd w_62 (x_16 : Int32).toNatClampNeg x_75) (x_16 : Int32).toNatClampNeg = x_75 := pk_us
          generalize (upd w_62 (x_16 : Int32).toNatClampNeg x_75) = w_76 at hP hD l_77
          have hP : va_P (dC, dI) vwCl (wd_c_X12_fogOf_1 h0 h0_f0 h0_1 h0_2 h0_3 h0_4 h0_5 h0_f6 h0_f7 h0_f8 h0_f9 h0_f10 h0_f11 h0_f12 h0_f13 h0_f14 h0_15 h0_16 h0_f17 h0_18 h0_19 h0_20 h0_21 h0_22 h0_23 h0_24 h0_25 h0_f26 h0_f27 h0_f28 h0_f29 h0_f30 h0_f31 h0_32 h0_33 h0_f34 h0_35 h0_36 h0_37 h0_38 h0_39 h0_40 h0_f41 h0_f42 h0_f43 h0_f44 h0_45 h0_46 h0_47 h0_48 h0_49 h0_50 h0_f51 h0_52 h0_f53 h0_39 h0_39k h0_39c h0_38 h0_38k w_76) H := hP
          have hD : va_D A (wd_c_X12_fogOf_1 h0 h0_f0 h0_1 h0_2 h0_3 h0_4 h0_5 h0_f6 h0_f7 h0_f8 h0_f9 h0_f10 h0_f11 h0_f12 h0_f13 h0_f14 h0_15 h0_16 h0_f17 h0_18 h0_19 h0_20 h0_21 h0_22 h0_23 h0_24 h0_25 h0_f26 h0_f27 h0_f28 h0_f29 h0_f30 h0_f31 h0_32 h0_33 h0_f34 h0_35 h0_36 h0_37 h0_38 h0_39 h0_40 h0_f41 h0_f42 h0_f43 h0_f44 h0_45 h0_46 h0_47 h0_48 h0_49 h0_50 h0_f51 h0_52 h0_f53 h0_39 h0_39k h0_39c h0_38 h0_38k w_76) := hD
          refine lv_lload hx hb dX12_fogOf_148 (lv_at hl 0 rfl) ?_
          have hK9 := hK.sub (tys' := []) [] rfl
          exact W.lret (v := 0) hx hb hr (fun t ht hW => ⟨⟨0, w_76, rfl, (Or.inr ⟨rfl, h_29⟩), by rw [ht]; exact hP, va_K.moved hW.alike hK9, hD⟩, hS.F ht⟩) hS.2.2 dX12_fogOf_150
    · have g_78 : RG x_16 (-1) (-1) := RG_eq1 g_17 (RG_k (-1) (-1) rfl) c_18 (by decide +kernel)
      refine lv_aload_n hx hb dX12_fogOf_63 rfl (lv_at hl 0 rfl) ?_
      as_aux_lemma =>
      refine lv_iload_n hx hb dX12_fogOf_64 rfl (lv_at hl 1 rfl) ?_
      refine lv_iload_n hx hb dX12_fogOf_65 rfl (lv_at hl 2 rfl) ?_
      refine lv_iconst (v := 1) hx hb dX12_fogOf_66 kc_iconst_1 ?_
      refine lv_iadd hx hb dX12_fogOf_67 ?_
      refine lv_topi (fun x_79 ex_79 => ?_)
      obtain rfl : x_79 = 2 := ex_79.trans (by decide +kernel)
      refine lv_iload_n hx hb dX12_fogOf_68 rfl (lv_at hl 3 rfl) ?_
      refine lv_lload hx hb dX12_fogOf_69 (lv_at hl 4 rfl) ?_
      obtain ⟨hPc, hDc, hFc, hqc⟩ := cl_cut (wc := (wd_c_X12_fogOf_2 h0 h0_f0 h0_1 h0_2 h0_3 h0_4 h0_5 h0_f6 h0_f7 h0_f8 h0_f9 h0_f10 h0_f11 h0_f12 h0_f13 h0_f14 h0_15 h0_16 h0_f17 h0_18 h0_19 h0_20 h0_21 h0_22 h0_23 h0_24 h0_25 h0_f26 h0_f27 h0_f28 h0_f29 h0_f30 h0_f31 h0_32 h0_33 h0_f34 h0_35 h0_36 h0_37 h0_38 h0_39 h0_40 h0_f41 h0_f42 h0_f43 h0_f44 h0_45 h0_46 h0_47 h0_48 h0_49 h0_50 h0_f51 h0_52 h0_f53 h0_39 h0_39k h0_39c h0_38 h0_38k h0_38c)) hP hD hS hA [0, 1, 2] (by decide +kernel) rfl
      have hKc := hK.sub (tys' := [(h0_39k, .int), (h0_38k, .int)]) [0, 1] rfl
      have hrv := va_recv hKc hPc (ci := 12) (q0 := 0) rfl rfl
      refine va_calll (va_runV (As := [.int p1, .int 2, .int p3, .long p4]) (rest := []) ⟨hx, hb, hml, hown, hts⟩ (c_X12_fogOf_2 l dC dI H.size h0 p1 p3 p4 h0_f0 h0_1 h0_2 h0_3 h0_4 h0_5 h0_f6 h0_f7 h0_f8 h0_f9 h0_f10 h0_f11 h0_f12 h0_f13 h0_f14 h0_15 h0_16 h0_f17 h0_18 h0_19 h0_20 h0_21 h0_22 h0_23 h0_24 h0_25 h0_f26 h0_f27 h0_f28 h0_f29 h0_f30 h0_f31 h0_32 h0_33 h0_f34 h0_35 h0_36 h0_37 h0_38 h0_39 h0_40 h0_f41 h0_f42 h0_f43 h0_f44 h0_45 h0_46 h0_47 h0_48 h0_49 h0_50 h0_f51 h0_52 h0_f53 h0_39k h0_39c h0_38k h0_38c g_p1 g_p3 g_h0_f6 g_h0_f7 g_h0_f8 g_h0_f9 g_h0_f10 g_h0_f11 g_h0_f17 g_15 g_h0_f27 g_h0_f28 g_h0_f29 g_h0_f30 g_h0_f31 g_h0_f34 g_h0_f41 g_h0_f51 g_h0_f53 a_h0_39c) (cwV 4 hts gf_c_X12_fogOf_1_c_X12_fogOf_2 rfl rfl rfl mdV_X12_fogOf ⟨Nat.le_of_ble_eq_true rfl, Nat.le_of_ble_eq_true rfl⟩) ⟨fun a U g mk q => by obtain ⟨q0, q1, qP, qK, qD⟩ := q; exact ⟨q0, q1, qP, va_K.moved (u := U) (U := U.calling g mk a) (Vm.Alike.refl U.vm) qK, qD⟩, hrv, fun U hU hW => ⟨rfl, by rw [hU], by rw [hU]; exact hPc, va_K.moved hW.alike hKc, hDc.weaken (fun _ _ _ _ => trivial)⟩⟩ rfl rfl hl.1 rfl (lv_room (Nat.le_of_ble_eq_true rfl)) dX12_fogOf_71 ⟨Nat.le_of_ble_eq_true rfl, Nat.le_of_ble_eq_true rfl⟩) hS (fun q _ h => hFc q h) hFc (fun r_80 w_81 t H1 locs ht hvm hw hB hz1 hk1 hS => ?_)
      obtain ⟨hP1, hK1, hD1⟩ := hB
      rw [ht] at hP1
      obtain ⟨hP, hD⟩ := cl_put (w1 := (wd_c_X12_fogOf_2 h0 h0_f0 h0_1 h0_2 h0_3 h0_4 h0_5 h0_f6 h0_f7 h0_f8 h0_f9 h0_f10 h0_f11 h0_f12 h0_f13 h0_f14 h0_15 h0_16 h0_f17 h0_18 h0_19 h0_20 h0_21 h0_22 h0_23 h0_24 h0_25 h0_f26 h0_f27 h0_f28 h0_f29 h0_f30 h0_f31 h0_32 h0_33 h0_f34 h0_35 h0_36 h0_37 h0_38 h0_39 h0_40 h0_f41 h0_f42 h0_f43 h0_f44 h0_45 h0_46 h0_47 h0_48 h0_49 h0_50 h0_f51 h0_52 h0_f53 h0_39 h0_39k h0_39c h0_38 h0_38k w_81)) (nw := (wd_c_X12_fogOf_1 h0 h0_f0 h0_1 h0_2 h0_3 h0_4 h0_5 h0_f6 h0_f7 h0_f8 h0_f9 h0_f10 h0_f11 h0_f12 h0_f13 h0_f14 h0_15 h0_16 h0_f17 h0_18 h0_19 h0_20 h0_21 h0_22 h0_23 h0_24 h0_25 h0_f26 h0_f27 h0_f28 h0_f29 h0_f30 h0_f31 h0_32 h0_33 h0_f34 h0_35 h0_36 h0_37 h0_38 h0_39 h0_40 h0_f41 h0_f42 h0_f43 h0_f44 h0_45 h0_46 h0_47 h0_48 h0_49 h0_50 h0_f51 h0_52 h0_f53 h0_39 h0_39k h0_39c h0_38 h0_38k w_81)) hP hD [0, 1, 2] [3, 4, 5] 3 rfl hqc (by decide +kernel) rfl hk1 hFc hP1 hD1
      generalize H1 = H at hP hS ⊢
      as_aux_lemma =>
      rcases hw with h_82 | ⟨h_83, h_84⟩
      · have hK9 := hK.sub (tys' := []) [] rfl
        exact W.lret (v := r_80) hx hb hr (fun t ht hW => ⟨⟨r_80, w_81, rfl, (Or.inl h_82), by rw [ht]; exact hP, va_K.moved hW.alike hK9, hD⟩, hS.F ht⟩) hS.2.2 dX12_fogOf_74
      · rw [h_83]
        have hK9 := hK.sub (tys' := []) [] rfl
        exact W.lret (v := 0) hx hb hr (fun t ht hW => ⟨⟨0, w_81, rfl, (Or.inr ⟨rfl, h_84⟩), by rw [ht]; exact hP, va_K.moved hW.alike hK9, hD⟩, hS.F ht⟩) hS.2.2 dX12_fogOf_74
  · have g_85 : RG h0_f26 1 1 := RG_eq1 g_h0_f26 (RG_k 1 1 rfl) c_14.symm (by decide +kernel)
    refine lv_iconst (v := 0) hx hb dX12_fogOf_8 kc_iconst_0 ?_
    refine lv_istore (lv' := [(6, .int 0), (0, .ref h0), (1, .int p1), (2, .int 1), (3, .int p3), (4, .long p4)]) hx hb dX12_fogOf_9 hl (Nat.le_of_ble_eq_true rfl) rfl (fun ls hl => ?_)
    exact hU _ _ _ (J11 _ 0 (Nat.lt_succ_self _) g_h0_f10 g_h0_f11 g_h0_f17 g_85 g_h0_f27 g_h0_f28 g_h0_f29 g_h0_f30 g_h0_f31 g_h0_f34 g_h0_f41 g_h0_f51 g_h0_f53 g_h0_f6 g_h0_f7 g_h0_f8 g_h0_f9 (RG_w (RG_k 0 0 rfl) (by decide +kernel)) g_p1 g_p3 _ _ _ hP hD hS (lv_sub hl [0, 1, 2, 5] rfl))
noncomputable def wd_c_X12_fogOf (a0 : Nat) (a1 : Int32) (a2 : Nat) (a3 : Nat) (a4 : Nat) (a5 : Nat) (a6 : Nat) (a7 : Int32) (a8 : Int32) (a9 : Int32) (a10 : Int32) (a11 : Int32) (a12 : Int32) (a13 : Int32) (a14 : Int32) (a15 : Int32) (a16 : Nat) (a17 : Nat) (a18 : Int32) (a19 : Nat) (a20 : Nat) (a21 : Nat) (a22 : Nat) (a23 : Nat) (a24 : Nat) (a25 : Nat) (a26 : Nat) (a27 : Int32) (a28 : Int32) (a29 : Int32) (a30 : Int32) (a31 : Int32) (a32 : Int32) (a33 : Nat) (a34 : Nat) (a35 : Int32) (a36 : Nat) (a37 : Nat) (a38 : Nat) (a39 : Nat) (a40 : Nat) (a41 : Nat) (a42 : Int32) (a43 : Int64) (a44 : Int32) (a45 : Int32) (a46 : Nat) (a47 : Nat) (a48 : Nat) (a49 : Nat) (a50 : Nat) (a51 : Nat) (a52 : Int32) (a53 : Nat) (a54 : Int32) (a55 : Nat) (a56 : ClassId) (a57 : Nat → Int32) (a58 : Nat) (a59 : ClassId) (a60 : Nat → Int32) : va_W := [(a0, .inr (12, [.int a1, .ref a2, .ref a3, .ref a4, .ref a5, .ref a6, .int a7, .int a8, .int a9, .int a10, .int a11, .int a12, .int a13, .int a14, .int a15, .ref a16, .ref a17, .int a18, .ref a19, .ref a20, .ref a21, .ref a22, .ref a23, .ref a24, .ref a25, .ref a26, .int a27, .int a28, .int a29, .int a30, .int a31, .int a32, .ref a33, .ref a34, .int a35, .ref a36, .ref a37, .ref a38, .ref a39, .ref a40, .ref a41, .int a42, .long a43, .int a44, .int a45, .ref a46, .ref a47, .ref a48, .ref a49, .ref a50, .ref a51, .int a52, .ref a53, .int a54])), (a55, .inl (a56, 8, .inl a57)), (a58, .inl (a59, 3, .inl a60))]
noncomputable def wf_c_X12_fogOf : List Cond := List.cons (.code yX12_fogOf cX12_fogOf 10 (some .long)) (@HAppend.hAppend (List Cond) (List Cond) (List Cond) _ [.fieldLink RX12 309 "BuoyVoteModel" "buoys" "I", .fieldLink RX12 84 "BuoyVoteModel" "leans" "[I", .constantLong RX12 545 (100), .methodLink RX12 541 yX12_fogOf, .instanceMethod yX12_fogOf, .selects RX12 yX12_fogOf yX12_fogOf, .initialized RX12, .fieldLink RX12 312 "BuoyVoteModel" "boats" "I", .fieldLink RX12 81 "BuoyVoteModel" "tally" "[I"] wsX120)
theorem iw_c_X12_fogOf_X12 : ∀ w ∈ wsX120, w ∈ wf_c_X12_fogOf := fun w h => List.mem_cons_of_mem _ (List.mem_append_right _ h)
set_option maxRecDepth 20000 in
theorem gf_c_X12_fogOf_c_X12_fogOf_1 : GoodIn wf_c_X12_fogOf (wsV RX12 541 RX12 yX12_fogOf wf_c_X12_fogOf_1) := goodIn_app (gi_l [4, 5, 6, 7] rfl rfl) (gi_cons (j := 0) rfl rfl (goodIn_app (gi_l [1, 2, 3, 4, 5, 6, 7, 8, 9] rfl rfl) (goodIn_sub iw_c_X12_fogOf_X12 gw_X12)))
set_option maxHeartbeats 4000000 in
set_option maxRecDepth 100000 in
theorem c_X12_fogOf (l : Launch) (dC : Nat → ClassId) (dI : Nat → Nat → Nat) (sz : Nat) (h0 : Nat) (p1 : Int32) (p3 : Int32) (p4 : Int64) (h0_f0 : Int32) (h0_1 : Nat) (h0_2 : Nat) (h0_3 : Nat) (h0_4 : Nat) (h0_5 : Nat) (h0_f6 : Int32) (h0_f7 : Int32) (h0_f8 : Int32) (h0_f9 : Int32) (h0_f10 : Int32) (h0_f11 : Int32) (h0_f12 : Int32) (h0_f13 : Int32) (h0_f14 : Int32) (h0_15 : Nat) (h0_16 : Nat) (h0_f17 : Int32) (h0_18 : Nat) (h0_19 : Nat) (h0_20 : Nat) (h0_21 : Nat) (h0_22 : Nat) (h0_23 : Nat) (h0_24 : Nat) (h0_25 : Nat) (h0_f26 : Int32) (h0_f27 : Int32) (h0_f28 : Int32) (h0_f29 : Int32) (h0_f30 : Int32) (h0_f31 : Int32) (h0_32 : Nat) (h0_33 : Nat) (h0_f34 : Int32) (h0_35 : Nat) (h0_36 : Nat) (h0_37 : Nat) (h0_38 : Nat) (h0_39 : Nat) (h0_40 : Nat) (h0_f41 : Int32) (h0_f42 : Int64) (h0_f43 : Int32) (h0_f44 : Int32) (h0_45 : Nat) (h0_46 : Nat) (h0_47 : Nat) (h0_48 : Nat) (h0_49 : Nat) (h0_50 : Nat) (h0_f51 : Int32) (h0_52 : Nat) (h0_f53 : Int32) (h0_39k : ClassId) (h0_39c : Nat → Int32) (h0_38k : ClassId) (h0_38c : Nat → Int32) (g_p1 : RG p1 0 2) (g_p3 : RG p3 0 100) (g_h0_f6 : RG h0_f6 0 240) (g_h0_f7 : RG h0_f7 0 4) (g_h0_f8 : RG h0_f8 0 720) (g_h0_f9 : RG h0_f9 0 240) (g_h0_f10 : RG h0_f10 0 240) (g_h0_f11 : RG h0_f11 (-1) 240) (g_h0_f17 : RG h0_f17 0 1) (g_h0_f26 : RG h0_f26 0 8) (g_h0_f27 : RG h0_f27 0 3) (g_h0_f28 : RG h0_f28 0 8) (g_h0_f29 : RG h0_f29 0 3) (g_h0_f30 : RG h0_f30 0 4) (g_h0_f31 : RG h0_f31 0 1) (g_h0_f34 : RG h0_f34 (-1) 3) (g_h0_f41 : RG h0_f41 0 40) (g_h0_f51 : RG h0_f51 0 10) (g_h0_f53 : RG h0_f53 0 1) (a_h0_39c : AI h0_39c (-1) 2) : Met l yX12_fogOf wf_c_X12_fogOf ({ frames := 8, cells := 0, slots := 0, locals := 232 }) (va_Pc [.ref h0, .int p1, .int 0, .int p3, .long p4] (fun U => U.heap.size = sz ∧ va_P (dC, dI) vwCl (wd_c_X12_fogOf h0 h0_f0 h0_1 h0_2 h0_3 h0_4 h0_5 h0_f6 h0_f7 h0_f8 h0_f9 h0_f10 h0_f11 h0_f12 h0_f13 h0_f14 h0_15 h0_16 h0_f17 h0_18 h0_19 h0_20 h0_21 h0_22 h0_23 h0_24 h0_25 h0_f26 h0_f27 h0_f28 h0_f29 h0_f30 h0_f31 h0_32 h0_33 h0_f34 h0_35 h0_36 h0_37 h0_38 h0_39 h0_40 h0_f41 h0_f42 h0_f43 h0_f44 h0_45 h0_46 h0_47 h0_48 h0_49 h0_50 h0_f51 h0_52 h0_f53 h0_39 h0_39k h0_39c h0_38 h0_38k h0_38c) U.heap ∧ va_K (dC, dI) vwCl [(h0_39k, .int), (h0_38k, .int)] U ∧ va_D (fun _ => True) (wd_c_X12_fogOf h0 h0_f0 h0_1 h0_2 h0_3 h0_4 h0_5 h0_f6 h0_f7 h0_f8 h0_f9 h0_f10 h0_f11 h0_f12 h0_f13 h0_f14 h0_15 h0_16 h0_f17 h0_18 h0_19 h0_20 h0_21 h0_22 h0_23 h0_24 h0_25 h0_f26 h0_f27 h0_f28 h0_f29 h0_f30 h0_f31 h0_32 h0_33 h0_f34 h0_35 h0_36 h0_37 h0_38 h0_39 h0_40 h0_f41 h0_f42 h0_f43 h0_f44 h0_45 h0_46 h0_47 h0_48 h0_49 h0_50 h0_f51 h0_52 h0_f53 h0_39 h0_39k h0_39c h0_38 h0_38k h0_38c))) (va_Ql (fun (r : Int64) (u : (Nat → Int32)) => (LG r (-9223372036854775808) 9223372036854775807) ∨ (r = 0 ∧ RG h0_f27 1 3)) (fun (u : (Nat → Int32)) t => va_P (dC, dI) vwCl (wd_c_X12_fogOf h0 h0_f0 h0_1 h0_2 h0_3 h0_4 h0_5 h0_f6 h0_f7 h0_f8 h0_f9 h0_f10 h0_f11 h0_f12 h0_f13 h0_f14 h0_15 h0_16 h0_f17 h0_18 h0_19 h0_20 h0_21 h0_22 h0_23 h0_24 h0_25 h0_f26 h0_f27 h0_f28 h0_f29 h0_f30 h0_f31 h0_32 h0_33 h0_f34 h0_35 h0_36 h0_37 h0_38 h0_39 h0_40 h0_f41 h0_f42 h0_f43 h0_f44 h0_45 h0_46 h0_47 h0_48 h0_49 h0_50 h0_f51 h0_52 h0_f53 h0_39 h0_39k h0_39c h0_38 h0_38k (u)) t.heap ∧ va_K (dC, dI) vwCl [] t ∧ va_D (va_A (wd_c_X12_fogOf h0 h0_f0 h0_1 h0_2 h0_3 h0_4 h0_5 h0_f6 h0_f7 h0_f8 h0_f9 h0_f10 h0_f11 h0_f12 h0_f13 h0_f14 h0_15 h0_16 h0_f17 h0_18 h0_19 h0_20 h0_21 h0_22 h0_23 h0_24 h0_25 h0_f26 h0_f27 h0_f28 h0_f29 h0_f30 h0_f31 h0_32 h0_33 h0_f34 h0_35 h0_36 h0_37 h0_38 h0_39 h0_40 h0_f41 h0_f42 h0_f43 h0_f44 h0_45 h0_46 h0_47 h0_48 h0_49 h0_50 h0_f51 h0_52 h0_f53 h0_39 h0_39k h0_39c h0_38 h0_38k h0_38c) sz) (wd_c_X12_fogOf h0 h0_f0 h0_1 h0_2 h0_3 h0_4 h0_5 h0_f6 h0_f7 h0_f8 h0_f9 h0_f10 h0_f11 h0_f12 h0_f13 h0_f14 h0_15 h0_16 h0_f17 h0_18 h0_19 h0_20 h0_21 h0_22 h0_23 h0_24 h0_25 h0_f26 h0_f27 h0_f28 h0_f29 h0_f30 h0_f31 h0_32 h0_33 h0_f34 h0_35 h0_36 h0_37 h0_38 h0_39 h0_40 h0_f41 h0_f42 h0_f43 h0_f44 h0_45 h0_46 h0_47 h0_48 h0_49 h0_50 h0_f51 h0_52 h0_f53 h0_39 h0_39k h0_39c h0_38 h0_38k (u))) (va_A (wd_c_X12_fogOf h0 h0_f0 h0_1 h0_2 h0_3 h0_4 h0_5 h0_f6 h0_f7 h0_f8 h0_f9 h0_f10 h0_f11 h0_f12 h0_f13 h0_f14 h0_15 h0_16 h0_f17 h0_18 h0_19 h0_20 h0_21 h0_22 h0_23 h0_24 h0_25 h0_f26 h0_f27 h0_f28 h0_f29 h0_f30 h0_f31 h0_32 h0_33 h0_f34 h0_35 h0_36 h0_37 h0_38 h0_39 h0_40 h0_f41 h0_f42 h0_f43 h0_f44 h0_45 h0_46 h0_47 h0_48 h0_49 h0_50 h0_f51 h0_52 h0_f53 h0_39 h0_39k h0_39c h0_38 h0_38k h0_38c) sz)) 0 0 (va_A (wd_c_X12_fogOf h0 h0_f0 h0_1 h0_2 h0_3 h0_4 h0_5 h0_f6 h0_f7 h0_f8 h0_f9 h0_f10 h0_f11 h0_f12 h0_f13 h0_f14 h0_15 h0_16 h0_f17 h0_18 h0_19 h0_20 h0_21 h0_22 h0_23 h0_24 h0_25 h0_f26 h0_f27 h0_f28 h0_f29 h0_f30 h0_f31 h0_32 h0_33 h0_f34 h0_35 h0_36 h0_37 h0_38 h0_39 h0_40 h0_f41 h0_f42 h0_f43 h0_f44 h0_45 h0_46 h0_47 h0_48 h0_49 h0_50 h0_f51 h0_52 h0_f53 h0_39 h0_39k h0_39c h0_38 h0_38k h0_38c) sz) := by
  refine Met.ofW (cc := cX12_fogOf) (maxL := 10) (ret := (some .long)) (by decide +kernel) rfl ?_
  intro p e s m args below meth c s₁ B hml hv
  obtain ⟨rfl, hsz, hP, hK, hD0⟩ := hv
  have hx := B.exec
  have hb := B.bytes
  have hr := B.returns
  have hts := atoms_spec (ws := wf_c_X12_fogOf) B.pre
  have hown : s.vm.findClass RX12 = some m.cls := findClass_of_methodNamed B.named
  have hlocks := B.notSynchronized
  subst hsz
  have hD := hD0.self (sz := s.heap.size)
  generalize hAe : va_A (wd_c_X12_fogOf h0 h0_f0 h0_1 h0_2 h0_3 h0_4 h0_5 h0_f6 h0_f7 h0_f8 h0_f9 h0_f10 h0_f11 h0_f12 h0_f13 h0_f14 h0_15 h0_16 h0_f17 h0_18 h0_19 h0_20 h0_21 h0_22 h0_23 h0_24 h0_25 h0_f26 h0_f27 h0_f28 h0_f29 h0_f30 h0_f31 h0_32 h0_33 h0_f34 h0_35 h0_36 h0_37 h0_38 h0_39 h0_40 h0_f41 h0_f42 h0_f43 h0_f44 h0_45 h0_46 h0_47 h0_48 h0_49 h0_50 h0_f51 h0_52 h0_f53 h0_39 h0_39k h0_39c h0_38 h0_38k h0_38c) s.heap.size = A at hD ⊢
  have hA : ∀ q : Nat, s.heap.size ≤ q → A q := fun q h => by rw [← hAe]; exact Or.inr h
  have hP : va_P (dC, dI) vwCl (wd_c_X12_fogOf h0 h0_f0 h0_1 h0_2 h0_3 h0_4 h0_5 h0_f6 h0_f7 h0_f8 h0_f9 h0_f10 h0_f11 h0_f12 h0_f13 h0_f14 h0_15 h0_16 h0_f17 h0_18 h0_19 h0_20 h0_21 h0_22 h0_23 h0_24 h0_25 h0_f26 h0_f27 h0_f28 h0_f29 h0_f30 h0_f31 h0_32 h0_33 h0_f34 h0_35 h0_36 h0_37 h0_38 h0_39 h0_40 h0_f41 h0_f42 h0_f43 h0_f44 h0_45 h0_46 h0_47 h0_48 h0_49 h0_50 h0_f51 h0_52 h0_f53 h0_39 h0_39k h0_39c h0_38 h0_38k h0_38c) s.heap := hP
  have hl := lv_entry ([.ref h0, .int p1, .int 0, .int p3, .long p4]) (n := 10) (Nat.le_of_ble_eq_true rfl)
  rw [lg_entry_eq]
  generalize (lg_sl ([.ref h0, .int p1, .int 0, .int p3, .long p4]) ++ List.replicate (10 - (lg_sl ([.ref h0, .int p1, .int 0, .int p3, .long p4])).length) Slot.unset).toArray = ls at hl ⊢
  have hl : lv_has ls 10 [(0, .ref h0), (1, .int p1), (2, .int 0), (3, .int p3), (4, .long p4)] := hl
  obtain ⟨H, hHe⟩ : ∃ H : Heap, s.heap = H := ⟨_, rfl⟩
  have hS : va_S A s.heap H [] := by rw [hHe]; exact va_S.rf
  have hP : va_P (dC, dI) vwCl (wd_c_X12_fogOf h0 h0_f0 h0_1 h0_2 h0_3 h0_4 h0_5 h0_f6 h0_f7 h0_f8 h0_f9 h0_f10 h0_f11 h0_f12 h0_f13 h0_f14 h0_15 h0_16 h0_f17 h0_18 h0_19 h0_20 h0_21 h0_22 h0_23 h0_24 h0_25 h0_f26 h0_f27 h0_f28 h0_f29 h0_f30 h0_f31 h0_32 h0_33 h0_f34 h0_35 h0_36 h0_37 h0_38 h0_39 h0_40 h0_f41 h0_f42 h0_f43 h0_f44 h0_45 h0_46 h0_47 h0_48 h0_49 h0_50 h0_f51 h0_52 h0_f53 h0_39 h0_39k h0_39c h0_38 h0_38k h0_38c) H := by rw [← hHe]; exact hP
  rw [hHe]
  refine wj (fun G hG hU => ?_)
  as_aux_lemma =>
  have J11 : ∀ (n11 : Nat) (j11_l6 : Int32) (hM11 : MU j11_l6 < n11) (g_h0_f10 : RG h0_f10 0 240) (g_h0_f11 : RG h0_f11 (-1) 240) (g_h0_f17 : RG h0_f17 0 1) (g_h0_f26 : RG h0_f26 0 0) (g_h0_f27 : RG h0_f27 0 3) (g_h0_f28 : RG h0_f28 0 8) (g_h0_f29 : RG h0_f29 0 3) (g_h0_f30 : RG h0_f30 0 4) (g_h0_f31 : RG h0_f31 0 1) (g_h0_f34 : RG h0_f34 (-1) 3) (g_h0_f41 : RG h0_f41 0 40) (g_h0_f51 : RG h0_f51 0 10) (g_h0_f53 : RG h0_f53 0 1) (g_h0_f6 : RG h0_f6 0 240) (g_h0_f7 : RG h0_f7 0 4) (g_h0_f8 : RG h0_f8 0 720) (g_h0_f9 : RG h0_f9 0 240) (g_j11_l6 : RG j11_l6 0 3) (g_p1 : RG p1 0 2) (g_p3 : RG p3 0 100) (H : Heap) (locs : List Loc) (ls : Array Slot) (hP : va_P (dC, dI) vwCl (wd_c_X12_fogOf h0 h0_f0 h0_1 h0_2 h0_3 h0_4 h0_5 h0_f6 h0_f7 h0_f8 h0_f9 h0_f10 h0_f11 h0_f12 h0_f13 h0_f14 h0_15 h0_16 h0_f17 h0_18 h0_19 h0_20 h0_21 h0_22 h0_23 h0_24 h0_25 h0_f26 h0_f27 h0_f28 h0_f29 h0_f30 h0_f31 h0_32 h0_33 h0_f34 h0_35 h0_36 h0_37 h0_38 h0_39 h0_40 h0_f41 h0_f42 h0_f43 h0_f44 h0_45 h0_46 h0_47 h0_48 h0_49 h0_50 h0_f51 h0_52 h0_f53 h0_39 h0_39k h0_39c h0_38 h0_38k h0_38c) H) (hD : va_D A (wd_c_X12_fogOf h0 h0_f0 h0_1 h0_2 h0_3 h0_4 h0_5 h0_f6 h0_f7 h0_f8 h0_f9 h0_f10 h0_f11 h0_f12 h0_f13 h0_f14 h0_15 h0_16 h0_f17 h0_18 h0_19 h0_20 h0_21 h0_22 h0_23 h0_24 h0_25 h0_f26 h0_f27 h0_f28 h0_f29 h0_f30 h0_f31 h0_32 h0_33 h0_f34 h0_35 h0_36 h0_37 h0_38 h0_39 h0_40 h0_f41 h0_f42 h0_f43 h0_f44 h0_45 h0_46 h0_47 h0_48 h0_49 h0_50 h0_f51 h0_52 h0_f53 h0_39 h0_39k h0_39c h0_38 h0_38k h0_38c)) (hS : va_S A s.heap H locs) (hl : lv_has ls 10 [(6, .int j11_l6), (0, .ref h0), (1, .int p1), (4, .long p4)]), G H locs (F0 m 11 ls []) := by
    as_aux_lemma =>
    intro n11
    induction n11 with
    | zero => intros; exact absurd (by assumption) (Nat.not_lt_zero _)
    | succ n11 ih11 =>
      intro j11_l6 hM11 g_h0_f10 g_h0_f11 g_h0_f17 g_h0_f26 g_h0_f27 g_h0_f28 g_h0_f29 g_h0_f30 g_h0_f31 g_h0_f34 g_h0_f41 g_h0_f51 g_h0_f53 g_h0_f6 g_h0_f7 g_h0_f8 g_h0_f9 g_j11_l6 g_p1 g_p3 H locs ls hP hD hS hl
      have J44 : ∀ (g_h0_f10 : RG h0_f10 0 240) (g_h0_f11 : RG h0_f11 (-1) 240) (g_h0_f17 : RG h0_f17 0 1) (g_h0_f26 : RG h0_f26 0 0) (g_h0_f27 : RG h0_f27 1 3) (g_h0_f28 : RG h0_f28 0 8) (g_h0_f29 : RG h0_f29 0 3) (g_h0_f30 : RG h0_f30 0 4) (g_h0_f31 : RG h0_f31 0 1) (g_h0_f34 : RG h0_f34 (-1) 3) (g_h0_f41 : RG h0_f41 0 40) (g_h0_f51 : RG h0_f51 0 10) (g_h0_f53 : RG h0_f53 0 1) (g_h0_f6 : RG h0_f6 0 240) (g_h0_f7 : RG h0_f7 0 4) (g_h0_f8 : RG h0_f8 0 720) (g_h0_f9 : RG h0_f9 0 240) (g_j11_l6 : RG j11_l6 0 2) (g_p1 : RG p1 0 2) (g_p3 : RG p3 0 100) (H : Heap) (locs : List Loc) (ls : Array Slot) (hP : va_P (dC, dI) vwCl (wd_c_X12_fogOf h0 h0_f0 h0_1 h0_2 h0_3 h0_4 h0_5 h0_f6 h0_f7 h0_f8 h0_f9 h0_f10 h0_f11 h0_f12 h0_f13 h0_f14 h0_15 h0_16 h0_f17 h0_18 h0_19 h0_20 h0_21 h0_22 h0_23 h0_24 h0_25 h0_f26 h0_f27 h0_f28 h0_f29 h0_f30 h0_f31 h0_32 h0_33 h0_f34 h0_35 h0_36 h0_37 h0_38 h0_39 h0_40 h0_f41 h0_f42 h0_f43 h0_f44 h0_45 h0_46 h0_47 h0_48 h0_49 h0_50 h0_f51 h0_52 h0_f53 h0_39 h0_39k h0_39c h0_38 h0_38k h0_38c) H) (hD : va_D A (wd_c_X12_fogOf h0 h0_f0 h0_1 h0_2 h0_3 h0_4 h0_5 h0_f6 h0_f7 h0_f8 h0_f9 h0_f10 h0_f11 h0_f12 h0_f13 h0_f14 h0_15 h0_16 h0_f17 h0_18 h0_19 h0_20 h0_21 h0_22 h0_23 h0_24 h0_25 h0_f26 h0_f27 h0_f28 h0_f29 h0_f30 h0_f31 h0_32 h0_33 h0_f34 h0_35 h0_36 h0_37 h0_38 h0_39 h0_40 h0_f41 h0_f42 h0_f43 h0_f44 h0_45 h0_46 h0_47 h0_48 h0_49 h0_50 h0_f51 h0_52 h0_f53 h0_39 h0_39k h0_39c h0_38 h0_38k h0_38c)) (hS : va_S A s.heap H locs) (hl : lv_has ls 10 [(6, .int j11_l6), (0, .ref h0), (1, .int p1), (4, .long p4)]), G H locs (F0 m 44 ls []) := by
        as_aux_lemma =>
        intro g_h0_f10 g_h0_f11 g_h0_f17 g_h0_f26 g_h0_f27 g_h0_f28 g_h0_f29 g_h0_f30 g_h0_f31 g_h0_f34 g_h0_f41 g_h0_f51 g_h0_f53 g_h0_f6 g_h0_f7 g_h0_f8 g_h0_f9 g_j11_l6 g_p1 g_p3 H locs ls hP hD hS hl
        refine hG _ _ _ ?_
        obtain ⟨x_1, ex_1⟩ : ∃ y : Int32, y = j11_l6 + 1 := ⟨_, rfl⟩
        have g_2 : RG x_1 1 3 := RG_add ex_1 g_j11_l6 (RG_k 1 1 rfl) (by decide +kernel)
        refine lv_iinc (v := x_1) (lv' := [(6, .int x_1), (0, .ref h0), (1, .int p1), (4, .long p4)]) hx hb dX12_fogOf_44 hl (k := 0) rfl (by rw [ex_1]; rfl) (Nat.le_of_ble_eq_true rfl) rfl (fun ls hl => ?_)
        refine lv_goto (tgt := 11) hx hb dX12_fogOf_47 rfl ?_
        exact hU _ _ _ (ih11 x_1 (mu_s (MU_add ex_1 g_j11_l6 (q := 1) rfl (by decide +kernel)) hM11) g_h0_f10 g_h0_f11 g_h0_f17 g_h0_f26 (RG_w g_h0_f27 (by decide +kernel)) g_h0_f28 g_h0_f29 g_h0_f30 g_h0_f31 g_h0_f34 g_h0_f41 g_h0_f51 g_h0_f53 g_h0_f6 g_h0_f7 g_h0_f8 g_h0_f9 (RG_w g_2 (by decide +kernel)) g_p1 g_p3 _ _ _ hP hD hS (lv_sub hl [0, 1, 2, 3] rfl))
      refine hG _ _ _ ?_
      refine lv_iload hx hb dX12_fogOf_11 (lv_at hl 0 rfl) ?_
      refine lv_aload_n hx hb dX12_fogOf_13 rfl (lv_at hl 1 rfl) ?_
      refine va_get (D := (dC, dI)) (ci := 12) (v := .int h0_f27) (C := RX12) (T := TX12) (N := 54) hx hb hts iw_c_X12_fogOf_X12 hown hK hP 0 rfl rfl 27 (by decide +kernel) (hts (.fieldLink RX12 312 "BuoyVoteModel" "boats" "I") (List.mem_of_getElem? (i := 8) rfl)) (fun _ h9 => h9) rfl dX12_fogOf_14 ?_
      refine lv_icmp_ge (tgt := 50) hx hb dX12_fogOf_17 rfl (fun c_3 => ?_) (fun c_3 => ?_)
      · refine lv_lload hx hb dX12_fogOf_50 (lv_at hl 3 rfl) ?_
        have hK9 := hK.sub (tys' := []) [] rfl
        exact W.lret (v := p4) hx hb hr (fun t ht hW => ⟨⟨p4, h0_38c, rfl, (Or.inl (LG_any p4)), by rw [ht]; exact hP, va_K.moved hW.alike hK9, hD⟩, hS.F ht⟩) hS.2.2 dX12_fogOf_52
      · have d_4 := Int32.not_le.mp c_3
        have g_5 : RG j11_l6 0 2 := RG_lt1 g_j11_l6 g_h0_f27 d_4 (by decide +kernel)
        have g_6 : RG h0_f27 1 3 := RG_lt2 g_j11_l6 g_h0_f27 d_4 (by decide +kernel)
        refine lv_iload hx hb dX12_fogOf_20 (lv_at hl 0 rfl) ?_
        as_aux_lemma =>
        refine lv_iload_n hx hb dX12_fogOf_22 rfl (lv_at hl 2 rfl) ?_
        refine lv_icmp_eq (tgt := 44) hx hb dX12_fogOf_23 rfl (fun c_7 => ?_) (fun c_7 => ?_)
        · exact hU _ _ _ (J44 g_h0_f10 g_h0_f11 g_h0_f17 g_h0_f26 g_6 g_h0_f28 g_h0_f29 g_h0_f30 g_h0_f31 g_h0_f34 g_h0_f41 g_h0_f51 g_h0_f53 g_h0_f6 g_h0_f7 g_h0_f8 g_h0_f9 g_5 g_p1 g_p3 _ _ _ hP hD hS (lv_sub hl [0, 1, 2, 3] rfl))
        · refine lv_aload_n hx hb dX12_fogOf_26 rfl (lv_at hl 1 rfl) ?_
          refine va_get (D := (dC, dI)) (ci := 12) (v := .ref h0_38) (C := RX12) (T := TX12) (N := 54) hx hb hts iw_c_X12_fogOf_X12 hown hK hP 0 rfl rfl 38 (by decide +kernel) (hts (.fieldLink RX12 81 "BuoyVoteModel" "tally" "[I") (List.mem_of_getElem? (i := 9) rfl)) (fun _ h9 => h9) rfl dX12_fogOf_27 ?_
          refine lv_iload hx hb dX12_fogOf_30 (lv_at hl 0 rfl) ?_
          refine va_iald hx hb hK hP 2 1 rfl rfl (RG_in g_5 (by decide +kernel)) dX12_fogOf_32 ?_
          refine lv_topi (fun x_8 ex_8 => ?_)
          refine lv_aload_n hx hb dX12_fogOf_33 rfl (lv_at hl 1 rfl) ?_
          refine va_get (D := (dC, dI)) (ci := 12) (v := .ref h0_38) (C := RX12) (T := TX12) (N := 54) hx hb hts iw_c_X12_fogOf_X12 hown hK hP 0 rfl rfl 38 (by decide +kernel) (hts (.fieldLink RX12 81 "BuoyVoteModel" "tally" "[I") (List.mem_of_getElem? (i := 9) rfl)) (fun _ h9 => h9) rfl dX12_fogOf_34 ?_
          refine lv_iload_n hx hb dX12_fogOf_37 rfl (lv_at hl 2 rfl) ?_
          refine va_iald hx hb hK hP 2 1 rfl rfl (RG_in g_p1 (by decide +kernel)) dX12_fogOf_38 ?_
          refine lv_topi (fun x_9 ex_9 => ?_)
          refine lv_icmp_lt (tgt := 44) hx hb dX12_fogOf_39 rfl (fun c_10 => ?_) (fun c_10 => ?_)
          · have g_11 : RG x_8 (-2147483648) 2147483646 := RG_lt1 (RG_any x_8) (RG_any x_9) c_10 (by decide +kernel)
            have g_12 : RG x_9 (-2147483647) 2147483647 := RG_lt2 (RG_any x_8) (RG_any x_9) c_10 (by decide +kernel)
            exact hU _ _ _ (J44 g_h0_f10 g_h0_f11 g_h0_f17 g_h0_f26 g_6 g_h0_f28 g_h0_f29 g_h0_f30 g_h0_f31 g_h0_f34 g_h0_f41 g_h0_f51 g_h0_f53 g_h0_f6 g_h0_f7 g_h0_f8 g_h0_f9 g_5 g_p1 g_p3 _ _ _ hP hD hS (lv_sub hl [0, 1, 2, 3] rfl))
          · have d_13 := Int32.not_lt.mp c_10
            refine lv_lconst (v := 0) hx hb dX12_fogOf_42 (by decide +kernel) ?_
            as_aux_lemma =>
            have hK9 := hK.sub (tys' := []) [] rfl
            exact W.lret (v := 0) hx hb hr (fun t ht hW => ⟨⟨0, h0_38c, rfl, (Or.inr ⟨rfl, g_6⟩), by rw [ht]; exact hP, va_K.moved hW.alike hK9, hD⟩, hS.F ht⟩) hS.2.2 dX12_fogOf_43
  refine hG _ _ _ ?_
  refine lv_iload_n hx hb dX12_fogOf_0 rfl (lv_at hl 2 rfl) ?_
  refine lv_aload_n hx hb dX12_fogOf_1 rfl (lv_at hl 0 rfl) ?_
  refine va_get (D := (dC, dI)) (ci := 12) (v := .int h0_f26) (C := RX12) (T := TX12) (N := 54) hx hb hts iw_c_X12_fogOf_X12 hown hK hP 0 rfl rfl 26 (by decide +kernel) (hts (.fieldLink RX12 309 "BuoyVoteModel" "buoys" "I") (List.mem_of_getElem? (i := 1) rfl)) (fun _ h9 => h9) rfl dX12_fogOf_2 ?_
  refine lv_icmp_ne (tgt := 53) hx hb dX12_fogOf_5 rfl (fun c_14 => ?_) (fun c_14 => ?_)
  · have g_15 : RG h0_f26 1 8 := RG_ne1 g_h0_f26 (q := 0) rfl (fun q => c_14 q.symm) (by decide +kernel)
    refine lv_aload_n hx hb dX12_fogOf_53 rfl (lv_at hl 0 rfl) ?_
    refine va_get (D := (dC, dI)) (ci := 12) (v := .ref h0_39) (C := RX12) (T := TX12) (N := 54) hx hb hts iw_c_X12_fogOf_X12 hown hK hP 0 rfl rfl 39 (by decide +kernel) (hts (.fieldLink RX12 84 "BuoyVoteModel" "leans" "[I") (List.mem_of_getElem? (i := 2) rfl)) (fun _ h9 => h9) rfl dX12_fogOf_54 ?_
    refine lv_iload_n hx hb dX12_fogOf_57 rfl (lv_at hl 2 rfl) ?_
    refine va_iald hx hb hK hP 1 0 rfl rfl (RG_in (RG_k 0 0 rfl) (by decide +kernel)) dX12_fogOf_58 ?_
    refine lv_topi (fun x_16 ex_16 => ?_)
    have g_17 : RG x_16 (-1) 2 := AI_rd a_h0_39c ex_16
    refine lv_iconst (v := (-1)) hx hb dX12_fogOf_59 kc_iconst_m1 ?_
    as_aux_lemma =>
    refine lv_icmp_ne (tgt := 75) hx hb dX12_fogOf_60 rfl (fun c_18 => ?_) (fun c_18 => ?_)
    · have g_19 : RG x_16 0 2 := RG_ne1 g_17 (q := (-1)) rfl c_18 (by decide +kernel)
      refine lv_lload hx hb dX12_fogOf_75 (lv_at hl 4 rfl) ?_
      refine lv_iload_n hx hb dX12_fogOf_77 rfl (lv_at hl 3 rfl) ?_
      refine lv_i2l (v := p3.toInt64) hx hb dX12_fogOf_78 rfl ?_
      refine lv_topl (fun x_20 ex_20 => ?_)
      have g_21 : LG x_20 0 100 := LG_i2l ex_20 g_p3
      refine lv_lmul hx hb dX12_fogOf_79 ?_
      refine lv_topl (fun x_22 ex_22 => ?_)
      refine lv_ldc2 hx hb hown (hts (.constantLong RX12 545 (100)) (List.mem_of_getElem? (i := 3) rfl)) dX12_fogOf_80 ?_
      refine lv_ldiv hx hb dX12_fogOf_83 (by decide +kernel) ?_
      refine lv_topl (fun x_23 ex_23 => ?_)
      refine lv_lstore (lv' := [(6, .long x_23), (0, .ref h0), (1, .int p1), (2, .int 0), (3, .int p3), (4, .long p4)]) hx hb dX12_fogOf_84 hl (Nat.le_of_ble_eq_true rfl) rfl (fun ls hl => ?_)
      refine lv_aload_n hx hb dX12_fogOf_86 rfl (lv_at hl 1 rfl) ?_
      as_aux_lemma =>
      refine lv_iload_n hx hb dX12_fogOf_87 rfl (lv_at hl 2 rfl) ?_
      refine lv_iload_n hx hb dX12_fogOf_88 rfl (lv_at hl 3 rfl) ?_
      refine lv_iconst (v := 1) hx hb dX12_fogOf_89 kc_iconst_1 ?_
      refine lv_iadd hx hb dX12_fogOf_90 ?_
      refine lv_topi (fun x_24 ex_24 => ?_)
      obtain rfl : x_24 = 1 := ex_24.trans (by decide +kernel)
      refine lv_iload_n hx hb dX12_fogOf_91 rfl (lv_at hl 4 rfl) ?_
      refine lv_lload hx hb dX12_fogOf_92 (lv_at hl 0 rfl) ?_
      obtain ⟨hPc, hDc, hFc, hqc⟩ := cl_cut (wc := (wd_c_X12_fogOf_1 h0 h0_f0 h0_1 h0_2 h0_3 h0_4 h0_5 h0_f6 h0_f7 h0_f8 h0_f9 h0_f10 h0_f11 h0_f12 h0_f13 h0_f14 h0_15 h0_16 h0_f17 h0_18 h0_19 h0_20 h0_21 h0_22 h0_23 h0_24 h0_25 h0_f26 h0_f27 h0_f28 h0_f29 h0_f30 h0_f31 h0_32 h0_33 h0_f34 h0_35 h0_36 h0_37 h0_38 h0_39 h0_40 h0_f41 h0_f42 h0_f43 h0_f44 h0_45 h0_46 h0_47 h0_48 h0_49 h0_50 h0_f51 h0_52 h0_f53 h0_39 h0_39k h0_39c h0_38 h0_38k h0_38c)) hP hD hS hA [0, 1, 2] (by decide +kernel) rfl
      have hKc := hK.sub (tys' := [(h0_39k, .int), (h0_38k, .int)]) [0, 1] rfl
      have hrv := va_recv hKc hPc (ci := 12) (q0 := 0) rfl rfl
      refine va_calll (va_runV (As := [.int p1, .int 1, .int p3, .long x_23]) (rest := []) ⟨hx, hb, hml, hown, hts⟩ (c_X12_fogOf_1 l dC dI H.size h0 p1 p3 x_23 h0_f0 h0_1 h0_2 h0_3 h0_4 h0_5 h0_f6 h0_f7 h0_f8 h0_f9 h0_f10 h0_f11 h0_f12 h0_f13 h0_f14 h0_15 h0_16 h0_f17 h0_18 h0_19 h0_20 h0_21 h0_22 h0_23 h0_24 h0_25 h0_f26 h0_f27 h0_f28 h0_f29 h0_f30 h0_f31 h0_32 h0_33 h0_f34 h0_35 h0_36 h0_37 h0_38 h0_39 h0_40 h0_f41 h0_f42 h0_f43 h0_f44 h0_45 h0_46 h0_47 h0_48 h0_49 h0_50 h0_f51 h0_52 h0_f53 h0_39k h0_39c h0_38k h0_38c g_p1 g_p3 g_h0_f6 g_h0_f7 g_h0_f8 g_h0_f9 g_h0_f10 g_h0_f11 g_h0_f17 g_15 g_h0_f27 g_h0_f28 g_h0_f29 g_h0_f30 g_h0_f31 g_h0_f34 g_h0_f41 g_h0_f51 g_h0_f53 a_h0_39c) (cwV 4 hts gf_c_X12_fogOf_c_X12_fogOf_1 rfl rfl rfl mdV_X12_fogOf ⟨Nat.le_of_ble_eq_true rfl, Nat.le_of_ble_eq_true rfl⟩) ⟨fun a U g mk q => by obtain ⟨q0, q1, qP, qK, qD⟩ := q; exact ⟨q0, q1, qP, va_K.moved (u := U) (U := U.calling g mk a) (Vm.Alike.refl U.vm) qK, qD⟩, hrv, fun U hU hW => ⟨rfl, by rw [hU], by rw [hU]; exact hPc, va_K.moved hW.alike hKc, hDc.weaken (fun _ _ _ _ => trivial)⟩⟩ rfl rfl hl.1 rfl (lv_room (Nat.le_of_ble_eq_true rfl)) dX12_fogOf_94 ⟨Nat.le_of_ble_eq_true rfl, Nat.le_of_ble_eq_true rfl⟩) hS (fun q _ h => hFc q h) hFc (fun r_25 w_26 t H1 locs ht hvm hw hB hz1 hk1 hS => ?_)
      obtain ⟨hP1, hK1, hD1⟩ := hB
      rw [ht] at hP1
      obtain ⟨hP, hD⟩ := cl_put (w1 := (wd_c_X12_fogOf_1 h0 h0_f0 h0_1 h0_2 h0_3 h0_4 h0_5 h0_f6 h0_f7 h0_f8 h0_f9 h0_f10 h0_f11 h0_f12 h0_f13 h0_f14 h0_15 h0_16 h0_f17 h0_18 h0_19 h0_20 h0_21 h0_22 h0_23 h0_24 h0_25 h0_f26 h0_f27 h0_f28 h0_f29 h0_f30 h0_f31 h0_32 h0_33 h0_f34 h0_35 h0_36 h0_37 h0_38 h0_39 h0_40 h0_f41 h0_f42 h0_f43 h0_f44 h0_45 h0_46 h0_47 h0_48 h0_49 h0_50 h0_f51 h0_52 h0_f53 h0_39 h0_39k h0_39c h0_38 h0_38k w_26)) (nw := (wd_c_X12_fogOf h0 h0_f0 h0_1 h0_2 h0_3 h0_4 h0_5 h0_f6 h0_f7 h0_f8 h0_f9 h0_f10 h0_f11 h0_f12 h0_f13 h0_f14 h0_15 h0_16 h0_f17 h0_18 h0_19 h0_20 h0_21 h0_22 h0_23 h0_24 h0_25 h0_f26 h0_f27 h0_f28 h0_f29 h0_f30 h0_f31 h0_32 h0_33 h0_f34 h0_35 h0_36 h0_37 h0_38 h0_39 h0_40 h0_f41 h0_f42 h0_f43 h0_f44 h0_45 h0_46 h0_47 h0_48 h0_49 h0_50 h0_f51 h0_52 h0_f53 h0_39 h0_39k h0_39c h0_38 h0_38k w_26)) hP hD [0, 1, 2] [3, 4, 5] 3 rfl hqc (by decide +kernel) rfl hk1 hFc hP1 hD1
      generalize H1 = H at hP hS ⊢
      as_aux_lemma =>
      rcases hw with h_27 | ⟨h_28, h_29⟩
      · refine lv_lstore (lv' := [(8, .long r_25), (6, .long x_23), (0, .ref h0), (1, .int p1), (2, .int 0), (3, .int p3), (4, .long p4)]) hx hb dX12_fogOf_97 hl (Nat.le_of_ble_eq_true rfl) rfl (fun ls hl => ?_)
        refine lv_aload_n hx hb dX12_fogOf_99 rfl (lv_at hl 2 rfl) ?_
        refine va_get (D := (dC, dI)) (ci := 12) (v := .ref h0_38) (C := RX12) (T := TX12) (N := 54) hx hb hts iw_c_X12_fogOf_X12 hown hK hP 0 rfl rfl 38 (by decide +kernel) (hts (.fieldLink RX12 81 "BuoyVoteModel" "tally" "[I") (List.mem_of_getElem? (i := 9) rfl)) (fun _ h9 => h9) rfl dX12_fogOf_100 ?_
        refine lv_aload_n hx hb dX12_fogOf_103 rfl (lv_at hl 2 rfl) ?_
        refine va_get (D := (dC, dI)) (ci := 12) (v := .ref h0_39) (C := RX12) (T := TX12) (N := 54) hx hb hts iw_c_X12_fogOf_X12 hown hK hP 0 rfl rfl 39 (by decide +kernel) (hts (.fieldLink RX12 84 "BuoyVoteModel" "leans" "[I") (List.mem_of_getElem? (i := 2) rfl)) (fun _ h9 => h9) rfl dX12_fogOf_104 ?_
        refine lv_iload_n hx hb dX12_fogOf_107 rfl (lv_at hl 4 rfl) ?_
        refine va_iald hx hb hK hP 1 0 rfl rfl (RG_in (RG_k 0 0 rfl) (by decide +kernel)) dX12_fogOf_108 ?_
        refine lv_topi (fun x_30 ex_30 => ?_)
        obtain rfl : x_16 = x_30 := (ex_30.trans ex_16.symm).symm
        refine lv_dup2_11 hx hb dX12_fogOf_109 rfl rfl ?_
        refine va_iald hx hb hK hP 2 1 rfl rfl (RG_in g_19 (by decide +kernel)) dX12_fogOf_110 ?_
        refine lv_topi (fun x_31 ex_31 => ?_)
        refine lv_iconst (v := 1) hx hb dX12_fogOf_111 kc_iconst_1 ?_
        as_aux_lemma =>
        refine lv_iadd hx hb dX12_fogOf_112 ?_
        refine lv_topi (fun x_32 ex_32 => ?_)
        refine va_iast hx hb hK hP hD hS 2 1 rfl rfl (RG_in g_19 (by decide +kernel)) dX12_fogOf_113 (fun H locs hP hD hS => ?_)
        have hP : va_P (dC, dI) vwCl (wd_c_X12_fogOf h0 h0_f0 h0_1 h0_2 h0_3 h0_4 h0_5 h0_f6 h0_f7 h0_f8 h0_f9 h0_f10 h0_f11 h0_f12 h0_f13 h0_f14 h0_15 h0_16 h0_f17 h0_18 h0_19 h0_20 h0_21 h0_22 h0_23 h0_24 h0_25 h0_f26 h0_f27 h0_f28 h0_f29 h0_f30 h0_f31 h0_32 h0_33 h0_f34 h0_35 h0_36 h0_37 h0_38 h0_39 h0_40 h0_f41 h0_f42 h0_f43 h0_f44 h0_45 h0_46 h0_47 h0_48 h0_49 h0_50 h0_f51 h0_52 h0_f53 h0_39 h0_39k h0_39c h0_38 h0_38k (upd w_26 (x_16 : Int32).toNatClampNeg x_32)) H := hP
        have hD : va_D A (wd_c_X12_fogOf h0 h0_f0 h0_1 h0_2 h0_3 h0_4 h0_5 h0_f6 h0_f7 h0_f8 h0_f9 h0_f10 h0_f11 h0_f12 h0_f13 h0_f14 h0_15 h0_16 h0_f17 h0_18 h0_19 h0_20 h0_21 h0_22 h0_23 h0_24 h0_25 h0_f26 h0_f27 h0_f28 h0_f29 h0_f30 h0_f31 h0_32 h0_33 h0_f34 h0_35 h0_36 h0_37 h0_38 h0_39 h0_40 h0_f41 h0_f42 h0_f43 h0_f44 h0_45 h0_46 h0_47 h0_48 h0_49 h0_50 h0_f51 h0_52 h0_f53 h0_39 h0_39k h0_39c h0_38 h0_38k (upd w_26 (x_16 : Int32).toNatClampNeg x_32)) := hD
        have l_34 : (upd w_26 (x_16 : Int32).toNatClampNeg x_32) (x_16 : Int32).toNatClampNeg = x_32 := pk_us
        generalize (upd w_26 (x_16 : Int32).toNatClampNeg x_32) = w_33 at hP hD l_34
        have hP : va_P (dC, dI) vwCl (wd_c_X12_fogOf h0 h0_f0 h0_1 h0_2 h0_3 h0_4 h0_5 h0_f6 h0_f7 h0_f8 h0_f9 h0_f10 h0_f11 h0_f12 h0_f13 h0_f14 h0_15 h0_16 h0_f17 h0_18 h0_19 h0_20 h0_21 h0_22 h0_23 h0_24 h0_25 h0_f26 h0_f27 h0_f28 h0_f29 h0_f30 h0_f31 h0_32 h0_33 h0_f34 h0_35 h0_36 h0_37 h0_38 h0_39 h0_40 h0_f41 h0_f42 h0_f43 h0_f44 h0_45 h0_46 h0_47 h0_48 h0_49 h0_50 h0_f51 h0_52 h0_f53 h0_39 h0_39k h0_39c h0_38 h0_38k w_33) H := hP
        have hD : va_D A (wd_c_X12_fogOf h0 h0_f0 h0_1 h0_2 h0_3 h0_4 h0_5 h0_f6 h0_f7 h0_f8 h0_f9 h0_f10 h0_f11 h0_f12 h0_f13 h0_f14 h0_15 h0_16 h0_f17 h0_18 h0_19 h0_20 h0_21 h0_22 h0_23 h0_24 h0_25 h0_f26 h0_f27 h0_f28 h0_f29 h0_f30 h0_f31 h0_32 h0_33 h0_f34 h0_35 h0_36 h0_37 h0_38 h0_39 h0_40 h0_f41 h0_f42 h0_f43 h0_f44 h0_45 h0_46 h0_47 h0_48 h0_49 h0_50 h0_f51 h0_52 h0_f53 h0_39 h0_39k h0_39c h0_38 h0_38k w_33) := hD
        refine lv_lload hx hb dX12_fogOf_114 (lv_at hl 0 rfl) ?_
        refine lv_aload_n hx hb dX12_fogOf_116 rfl (lv_at hl 2 rfl) ?_
        refine lv_iload_n hx hb dX12_fogOf_117 rfl (lv_at hl 3 rfl) ?_
        refine lv_iload_n hx hb dX12_fogOf_118 rfl (lv_at hl 4 rfl) ?_
        refine lv_iconst (v := 1) hx hb dX12_fogOf_119 kc_iconst_1 ?_
        as_aux_lemma =>
        refine lv_iadd hx hb dX12_fogOf_120 ?_
        refine lv_topi (fun x_35 ex_35 => ?_)
        obtain rfl : x_35 = 1 := ex_35.trans (by decide +kernel)
        refine lv_iload_n hx hb dX12_fogOf_121 rfl (lv_at hl 5 rfl) ?_
        refine lv_lload hx hb dX12_fogOf_122 (lv_at hl 6 rfl) ?_
        refine lv_lload hx hb dX12_fogOf_124 (lv_at hl 1 rfl) ?_
        refine lv_lsub hx hb dX12_fogOf_126 ?_
        refine lv_topl (fun x_36 ex_36 => ?_)
        obtain ⟨hPc, hDc, hFc, hqc⟩ := cl_cut (wc := (wd_c_X12_fogOf_1 h0 h0_f0 h0_1 h0_2 h0_3 h0_4 h0_5 h0_f6 h0_f7 h0_f8 h0_f9 h0_f10 h0_f11 h0_f12 h0_f13 h0_f14 h0_15 h0_16 h0_f17 h0_18 h0_19 h0_20 h0_21 h0_22 h0_23 h0_24 h0_25 h0_f26 h0_f27 h0_f28 h0_f29 h0_f30 h0_f31 h0_32 h0_33 h0_f34 h0_35 h0_36 h0_37 h0_38 h0_39 h0_40 h0_f41 h0_f42 h0_f43 h0_f44 h0_45 h0_46 h0_47 h0_48 h0_49 h0_50 h0_f51 h0_52 h0_f53 h0_39 h0_39k h0_39c h0_38 h0_38k w_33)) hP hD hS hA [0, 1, 2] (by decide +kernel) rfl
        have hKc := hK.sub (tys' := [(h0_39k, .int), (h0_38k, .int)]) [0, 1] rfl
        have hrv := va_recv hKc hPc (ci := 12) (q0 := 0) rfl rfl
        refine va_calll (va_runV (As := [.int p1, .int 1, .int p3, .long x_36]) (rest := [.long r_25]) ⟨hx, hb, hml, hown, hts⟩ (c_X12_fogOf_1 l dC dI H.size h0 p1 p3 x_36 h0_f0 h0_1 h0_2 h0_3 h0_4 h0_5 h0_f6 h0_f7 h0_f8 h0_f9 h0_f10 h0_f11 h0_f12 h0_f13 h0_f14 h0_15 h0_16 h0_f17 h0_18 h0_19 h0_20 h0_21 h0_22 h0_23 h0_24 h0_25 h0_f26 h0_f27 h0_f28 h0_f29 h0_f30 h0_f31 h0_32 h0_33 h0_f34 h0_35 h0_36 h0_37 h0_38 h0_39 h0_40 h0_f41 h0_f42 h0_f43 h0_f44 h0_45 h0_46 h0_47 h0_48 h0_49 h0_50 h0_f51 h0_52 h0_f53 h0_39k h0_39c h0_38k w_33 g_p1 g_p3 g_h0_f6 g_h0_f7 g_h0_f8 g_h0_f9 g_h0_f10 g_h0_f11 g_h0_f17 g_15 g_h0_f27 g_h0_f28 g_h0_f29 g_h0_f30 g_h0_f31 g_h0_f34 g_h0_f41 g_h0_f51 g_h0_f53 a_h0_39c) (cwV 4 hts gf_c_X12_fogOf_c_X12_fogOf_1 rfl rfl rfl mdV_X12_fogOf ⟨Nat.le_of_ble_eq_true rfl, Nat.le_of_ble_eq_true rfl⟩) ⟨fun a U g mk q => by obtain ⟨q0, q1, qP, qK, qD⟩ := q; exact ⟨q0, q1, qP, va_K.moved (u := U) (U := U.calling g mk a) (Vm.Alike.refl U.vm) qK, qD⟩, hrv, fun U hU hW => ⟨rfl, by rw [hU], by rw [hU]; exact hPc, va_K.moved hW.alike hKc, hDc.weaken (fun _ _ _ _ => trivial)⟩⟩ rfl rfl hl.1 rfl (lv_room (Nat.le_of_ble_eq_true rfl)) dX12_fogOf_127 ⟨Nat.le_of_ble_eq_true rfl, Nat.le_of_ble_eq_true rfl⟩) hS (fun q _ h => hFc q h) hFc (fun r_37 w_38 t H1 locs ht hvm hw hB hz1 hk1 hS => ?_)
        obtain ⟨hP1, hK1, hD1⟩ := hB
        rw [ht] at hP1
        obtain ⟨hP, hD⟩ := cl_put (w1 := (wd_c_X12_fogOf_1 h0 h0_f0 h0_1 h0_2 h0_3 h0_4 h0_5 h0_f6 h0_f7 h0_f8 h0_f9 h0_f10 h0_f11 h0_f12 h0_f13 h0_f14 h0_15 h0_16 h0_f17 h0_18 h0_19 h0_20 h0_21 h0_22 h0_23 h0_24 h0_25 h0_f26 h0_f27 h0_f28 h0_f29 h0_f30 h0_f31 h0_32 h0_33 h0_f34 h0_35 h0_36 h0_37 h0_38 h0_39 h0_40 h0_f41 h0_f42 h0_f43 h0_f44 h0_45 h0_46 h0_47 h0_48 h0_49 h0_50 h0_f51 h0_52 h0_f53 h0_39 h0_39k h0_39c h0_38 h0_38k w_38)) (nw := (wd_c_X12_fogOf h0 h0_f0 h0_1 h0_2 h0_3 h0_4 h0_5 h0_f6 h0_f7 h0_f8 h0_f9 h0_f10 h0_f11 h0_f12 h0_f13 h0_f14 h0_15 h0_16 h0_f17 h0_18 h0_19 h0_20 h0_21 h0_22 h0_23 h0_24 h0_25 h0_f26 h0_f27 h0_f28 h0_f29 h0_f30 h0_f31 h0_32 h0_33 h0_f34 h0_35 h0_36 h0_37 h0_38 h0_39 h0_40 h0_f41 h0_f42 h0_f43 h0_f44 h0_45 h0_46 h0_47 h0_48 h0_49 h0_50 h0_f51 h0_52 h0_f53 h0_39 h0_39k h0_39c h0_38 h0_38k w_38)) hP hD [0, 1, 2] [3, 4, 5] 3 rfl hqc (by decide +kernel) rfl hk1 hFc hP1 hD1
        generalize H1 = H at hP hS ⊢
        as_aux_lemma =>
        rcases hw with h_39 | ⟨h_40, h_41⟩
        · refine lv_ladd hx hb dX12_fogOf_130 ?_
          refine lv_topl (fun x_42 ex_42 => ?_)
          refine lv_lstore (lv' := [(8, .long x_42), (6, .long x_23), (0, .ref h0), (1, .int p1), (2, .int 0), (3, .int p3), (4, .long p4)]) hx hb dX12_fogOf_131 hl (Nat.le_of_ble_eq_true rfl) rfl (fun ls hl => ?_)
          refine lv_aload_n hx hb dX12_fogOf_133 rfl (lv_at hl 2 rfl) ?_
          refine va_get (D := (dC, dI)) (ci := 12) (v := .ref h0_38) (C := RX12) (T := TX12) (N := 54) hx hb hts iw_c_X12_fogOf_X12 hown hK hP 0 rfl rfl 38 (by decide +kernel) (hts (.fieldLink RX12 81 "BuoyVoteModel" "tally" "[I") (List.mem_of_getElem? (i := 9) rfl)) (fun _ h9 => h9) rfl dX12_fogOf_134 ?_
          refine lv_aload_n hx hb dX12_fogOf_137 rfl (lv_at hl 2 rfl) ?_
          refine va_get (D := (dC, dI)) (ci := 12) (v := .ref h0_39) (C := RX12) (T := TX12) (N := 54) hx hb hts iw_c_X12_fogOf_X12 hown hK hP 0 rfl rfl 39 (by decide +kernel) (hts (.fieldLink RX12 84 "BuoyVoteModel" "leans" "[I") (List.mem_of_getElem? (i := 2) rfl)) (fun _ h9 => h9) rfl dX12_fogOf_138 ?_
          refine lv_iload_n hx hb dX12_fogOf_141 rfl (lv_at hl 4 rfl) ?_
          refine va_iald hx hb hK hP 1 0 rfl rfl (RG_in (RG_k 0 0 rfl) (by decide +kernel)) dX12_fogOf_142 ?_
          refine lv_topi (fun x_43 ex_43 => ?_)
          obtain rfl : x_16 = x_43 := (ex_43.trans ex_16.symm).symm
          refine lv_dup2_11 hx hb dX12_fogOf_143 rfl rfl ?_
          refine va_iald hx hb hK hP 2 1 rfl rfl (RG_in g_19 (by decide +kernel)) dX12_fogOf_144 ?_
          as_aux_lemma =>
          refine lv_topi (fun x_44 ex_44 => ?_)
          refine lv_iconst (v := 1) hx hb dX12_fogOf_145 kc_iconst_1 ?_
          refine lv_isub hx hb dX12_fogOf_146 ?_
          refine lv_topi (fun x_45 ex_45 => ?_)
          refine va_iast hx hb hK hP hD hS 2 1 rfl rfl (RG_in g_19 (by decide +kernel)) dX12_fogOf_147 (fun H locs hP hD hS => ?_)
          have hP : va_P (dC, dI) vwCl (wd_c_X12_fogOf h0 h0_f0 h0_1 h0_2 h0_3 h0_4 h0_5 h0_f6 h0_f7 h0_f8 h0_f9 h0_f10 h0_f11 h0_f12 h0_f13 h0_f14 h0_15 h0_16 h0_f17 h0_18 h0_19 h0_20 h0_21 h0_22 h0_23 h0_24 h0_25 h0_f26 h0_f27 h0_f28 h0_f29 h0_f30 h0_f31 h0_32 h0_33 h0_f34 h0_35 h0_36 h0_37 h0_38 h0_39 h0_40 h0_f41 h0_f42 h0_f43 h0_f44 h0_45 h0_46 h0_47 h0_48 h0_49 h0_50 h0_f51 h0_52 h0_f53 h0_39 h0_39k h0_39c h0_38 h0_38k (upd w_38 (x_16 : Int32).toNatClampNeg x_45)) H := hP
          have hD : va_D A (wd_c_X12_fogOf h0 h0_f0 h0_1 h0_2 h0_3 h0_4 h0_5 h0_f6 h0_f7 h0_f8 h0_f9 h0_f10 h0_f11 h0_f12 h0_f13 h0_f14 h0_15 h0_16 h0_f17 h0_18 h0_19 h0_20 h0_21 h0_22 h0_23 h0_24 h0_25 h0_f26 h0_f27 h0_f28 h0_f29 h0_f30 h0_f31 h0_32 h0_33 h0_f34 h0_35 h0_36 h0_37 h0_38 h0_39 h0_40 h0_f41 h0_f42 h0_f43 h0_f44 h0_45 h0_46 h0_47 h0_48 h0_49 h0_50 h0_f51 h0_52 h0_f53 h0_39 h0_39k h0_39c h0_38 h0_38k (upd w_38 (x_16 : Int32).toNatClampNeg x_45)) := hD
          have l_47 : (upd w_38 (x_16 : Int32).toNatClampNeg x_45) (x_16 : Int32).toNatClampNeg = x_45 := pk_us
          generalize (upd w_38 (x_16 : Int32).toNatClampNeg x_45) = w_46 at hP hD l_47
          have hP : va_P (dC, dI) vwCl (wd_c_X12_fogOf h0 h0_f0 h0_1 h0_2 h0_3 h0_4 h0_5 h0_f6 h0_f7 h0_f8 h0_f9 h0_f10 h0_f11 h0_f12 h0_f13 h0_f14 h0_15 h0_16 h0_f17 h0_18 h0_19 h0_20 h0_21 h0_22 h0_23 h0_24 h0_25 h0_f26 h0_f27 h0_f28 h0_f29 h0_f30 h0_f31 h0_32 h0_33 h0_f34 h0_35 h0_36 h0_37 h0_38 h0_39 h0_40 h0_f41 h0_f42 h0_f43 h0_f44 h0_45 h0_46 h0_47 h0_48 h0_49 h0_50 h0_f51 h0_52 h0_f53 h0_39 h0_39k h0_39c h0_38 h0_38k w_46) H := hP
          have hD : va_D A (wd_c_X12_fogOf h0 h0_f0 h0_1 h0_2 h0_3 h0_4 h0_5 h0_f6 h0_f7 h0_f8 h0_f9 h0_f10 h0_f11 h0_f12 h0_f13 h0_f14 h0_15 h0_16 h0_f17 h0_18 h0_19 h0_20 h0_21 h0_22 h0_23 h0_24 h0_25 h0_f26 h0_f27 h0_f28 h0_f29 h0_f30 h0_f31 h0_32 h0_33 h0_f34 h0_35 h0_36 h0_37 h0_38 h0_39 h0_40 h0_f41 h0_f42 h0_f43 h0_f44 h0_45 h0_46 h0_47 h0_48 h0_49 h0_50 h0_f51 h0_52 h0_f53 h0_39 h0_39k h0_39c h0_38 h0_38k w_46) := hD
          refine lv_lload hx hb dX12_fogOf_148 (lv_at hl 0 rfl) ?_
          have hK9 := hK.sub (tys' := []) [] rfl
          exact W.lret (v := x_42) hx hb hr (fun t ht hW => ⟨⟨x_42, w_46, rfl, (Or.inl (LG_any x_42)), by rw [ht]; exact hP, va_K.moved hW.alike hK9, hD⟩, hS.F ht⟩) hS.2.2 dX12_fogOf_150
        · rw [h_40]
          refine lv_ladd hx hb dX12_fogOf_130 ?_
          as_aux_lemma =>
          refine lv_topl (fun x_48 ex_48 => ?_)
          refine lv_lstore (lv' := [(8, .long x_48), (6, .long x_23), (0, .ref h0), (1, .int p1), (2, .int 0), (3, .int p3), (4, .long p4)]) hx hb dX12_fogOf_131 hl (Nat.le_of_ble_eq_true rfl) rfl (fun ls hl => ?_)
          refine lv_aload_n hx hb dX12_fogOf_133 rfl (lv_at hl 2 rfl) ?_
          refine va_get (D := (dC, dI)) (ci := 12) (v := .ref h0_38) (C := RX12) (T := TX12) (N := 54) hx hb hts iw_c_X12_fogOf_X12 hown hK hP 0 rfl rfl 38 (by decide +kernel) (hts (.fieldLink RX12 81 "BuoyVoteModel" "tally" "[I") (List.mem_of_getElem? (i := 9) rfl)) (fun _ h9 => h9) rfl dX12_fogOf_134 ?_
          refine lv_aload_n hx hb dX12_fogOf_137 rfl (lv_at hl 2 rfl) ?_
          refine va_get (D := (dC, dI)) (ci := 12) (v := .ref h0_39) (C := RX12) (T := TX12) (N := 54) hx hb hts iw_c_X12_fogOf_X12 hown hK hP 0 rfl rfl 39 (by decide +kernel) (hts (.fieldLink RX12 84 "BuoyVoteModel" "leans" "[I") (List.mem_of_getElem? (i := 2) rfl)) (fun _ h9 => h9) rfl dX12_fogOf_138 ?_
          refine lv_iload_n hx hb dX12_fogOf_141 rfl (lv_at hl 4 rfl) ?_
          refine va_iald hx hb hK hP 1 0 rfl rfl (RG_in (RG_k 0 0 rfl) (by decide +kernel)) dX12_fogOf_142 ?_
          refine lv_topi (fun x_49 ex_49 => ?_)
          obtain rfl : x_16 = x_49 := (ex_49.trans ex_16.symm).symm
          refine lv_dup2_11 hx hb dX12_fogOf_143 rfl rfl ?_
          refine va_iald hx hb hK hP 2 1 rfl rfl (RG_in g_19 (by decide +kernel)) dX12_fogOf_144 ?_
          refine lv_topi (fun x_50 ex_50 => ?_)
          refine lv_iconst (v := 1) hx hb dX12_fogOf_145 kc_iconst_1 ?_
          as_aux_lemma =>
          refine lv_isub hx hb dX12_fogOf_146 ?_
          refine lv_topi (fun x_51 ex_51 => ?_)
          refine va_iast hx hb hK hP hD hS 2 1 rfl rfl (RG_in g_19 (by decide +kernel)) dX12_fogOf_147 (fun H locs hP hD hS => ?_)
          have hP : va_P (dC, dI) vwCl (wd_c_X12_fogOf h0 h0_f0 h0_1 h0_2 h0_3 h0_4 h0_5 h0_f6 h0_f7 h0_f8 h0_f9 h0_f10 h0_f11 h0_f12 h0_f13 h0_f14 h0_15 h0_16 h0_f17 h0_18 h0_19 h0_20 h0_21 h0_22 h0_23 h0_24 h0_25 h0_f26 h0_f27 h0_f28 h0_f29 h0_f30 h0_f31 h0_32 h0_33 h0_f34 h0_35 h0_36 h0_37 h0_38 h0_39 h0_40 h0_f41 h0_f42 h0_f43 h0_f44 h0_45 h0_46 h0_47 h0_48 h0_49 h0_50 h0_f51 h0_52 h0_f53 h0_39 h0_39k h0_39c h0_38 h0_38k (upd w_38 (x_16 : Int32).toNatClampNeg x_51)) H := hP
          have hD : va_D A (wd_c_X12_fogOf h0 h0_f0 h0_1 h0_2 h0_3 h0_4 h0_5 h0_f6 h0_f7 h0_f8 h0_f9 h0_f10 h0_f11 h0_f12 h0_f13 h0_f14 h0_15 h0_16 h0_f17 h0_18 h0_19 h0_20 h0_21 h0_22 h0_23 h0_24 h0_25 h0_f26 h0_f27 h0_f28 h0_f29 h0_f30 h0_f31 h0_32 h0_33 h0_f34 h0_35 h0_36 h0_37 h0_38 h0_39 h0_40 h0_f41 h0_f42 h0_f43 h0_f44 h0_45 h0_46 h0_47 h0_48 h0_49 h0_50 h0_f51 h0_52 h0_f53 h0_39 h0_39k h0_39c h0_38 h0_38k (upd w_38 (x_16 : Int32).toNatClampNeg x_51)) := hD
          have l_53 : (upd w_38 (x_16 : Int32).toNatClampNeg x_51) (x_16 : Int32).toNatClampNeg = x_51 := pk_us
          generalize (upd w_38 (x_16 : Int32).toNatClampNeg x_51) = w_52 at hP hD l_53
          have hP : va_P (dC, dI) vwCl (wd_c_X12_fogOf h0 h0_f0 h0_1 h0_2 h0_3 h0_4 h0_5 h0_f6 h0_f7 h0_f8 h0_f9 h0_f10 h0_f11 h0_f12 h0_f13 h0_f14 h0_15 h0_16 h0_f17 h0_18 h0_19 h0_20 h0_21 h0_22 h0_23 h0_24 h0_25 h0_f26 h0_f27 h0_f28 h0_f29 h0_f30 h0_f31 h0_32 h0_33 h0_f34 h0_35 h0_36 h0_37 h0_38 h0_39 h0_40 h0_f41 h0_f42 h0_f43 h0_f44 h0_45 h0_46 h0_47 h0_48 h0_49 h0_50 h0_f51 h0_52 h0_f53 h0_39 h0_39k h0_39c h0_38 h0_38k w_52) H := hP
          have hD : va_D A (wd_c_X12_fogOf h0 h0_f0 h0_1 h0_2 h0_3 h0_4 h0_5 h0_f6 h0_f7 h0_f8 h0_f9 h0_f10 h0_f11 h0_f12 h0_f13 h0_f14 h0_15 h0_16 h0_f17 h0_18 h0_19 h0_20 h0_21 h0_22 h0_23 h0_24 h0_25 h0_f26 h0_f27 h0_f28 h0_f29 h0_f30 h0_f31 h0_32 h0_33 h0_f34 h0_35 h0_36 h0_37 h0_38 h0_39 h0_40 h0_f41 h0_f42 h0_f43 h0_f44 h0_45 h0_46 h0_47 h0_48 h0_49 h0_50 h0_f51 h0_52 h0_f53 h0_39 h0_39k h0_39c h0_38 h0_38k w_52) := hD
          refine lv_lload hx hb dX12_fogOf_148 (lv_at hl 0 rfl) ?_
          have hK9 := hK.sub (tys' := []) [] rfl
          exact W.lret (v := x_48) hx hb hr (fun t ht hW => ⟨⟨x_48, w_52, rfl, (Or.inl (LG_any x_48)), by rw [ht]; exact hP, va_K.moved hW.alike hK9, hD⟩, hS.F ht⟩) hS.2.2 dX12_fogOf_150
      · rw [h_28]
        refine lv_lstore (lv' := [(8, .long 0), (6, .long x_23), (0, .ref h0), (1, .int p1), (2, .int 0), (3, .int p3), (4, .long p4)]) hx hb dX12_fogOf_97 hl (Nat.le_of_ble_eq_true rfl) rfl (fun ls hl => ?_)
        as_aux_lemma =>
        refine lv_aload_n hx hb dX12_fogOf_99 rfl (lv_at hl 2 rfl) ?_
        refine va_get (D := (dC, dI)) (ci := 12) (v := .ref h0_38) (C := RX12) (T := TX12) (N := 54) hx hb hts iw_c_X12_fogOf_X12 hown hK hP 0 rfl rfl 38 (by decide +kernel) (hts (.fieldLink RX12 81 "BuoyVoteModel" "tally" "[I") (List.mem_of_getElem? (i := 9) rfl)) (fun _ h9 => h9) rfl dX12_fogOf_100 ?_
        refine lv_aload_n hx hb dX12_fogOf_103 rfl (lv_at hl 2 rfl) ?_
        refine va_get (D := (dC, dI)) (ci := 12) (v := .ref h0_39) (C := RX12) (T := TX12) (N := 54) hx hb hts iw_c_X12_fogOf_X12 hown hK hP 0 rfl rfl 39 (by decide +kernel) (hts (.fieldLink RX12 84 "BuoyVoteModel" "leans" "[I") (List.mem_of_getElem? (i := 2) rfl)) (fun _ h9 => h9) rfl dX12_fogOf_104 ?_
        refine lv_iload_n hx hb dX12_fogOf_107 rfl (lv_at hl 4 rfl) ?_
        refine va_iald hx hb hK hP 1 0 rfl rfl (RG_in (RG_k 0 0 rfl) (by decide +kernel)) dX12_fogOf_108 ?_
        refine lv_topi (fun x_54 ex_54 => ?_)
        obtain rfl : x_16 = x_54 := (ex_54.trans ex_16.symm).symm
        refine lv_dup2_11 hx hb dX12_fogOf_109 rfl rfl ?_
        refine va_iald hx hb hK hP 2 1 rfl rfl (RG_in g_19 (by decide +kernel)) dX12_fogOf_110 ?_
        refine lv_topi (fun x_55 ex_55 => ?_)
        refine lv_iconst (v := 1) hx hb dX12_fogOf_111 kc_iconst_1 ?_
        refine lv_iadd hx hb dX12_fogOf_112 ?_
        refine lv_topi (fun x_56 ex_56 => ?_)
        as_aux_lemma =>
        refine va_iast hx hb hK hP hD hS 2 1 rfl rfl (RG_in g_19 (by decide +kernel)) dX12_fogOf_113 (fun H locs hP hD hS => ?_)
        have hP : va_P (dC, dI) vwCl (wd_c_X12_fogOf h0 h0_f0 h0_1 h0_2 h0_3 h0_4 h0_5 h0_f6 h0_f7 h0_f8 h0_f9 h0_f10 h0_f11 h0_f12 h0_f13 h0_f14 h0_15 h0_16 h0_f17 h0_18 h0_19 h0_20 h0_21 h0_22 h0_23 h0_24 h0_25 h0_f26 h0_f27 h0_f28 h0_f29 h0_f30 h0_f31 h0_32 h0_33 h0_f34 h0_35 h0_36 h0_37 h0_38 h0_39 h0_40 h0_f41 h0_f42 h0_f43 h0_f44 h0_45 h0_46 h0_47 h0_48 h0_49 h0_50 h0_f51 h0_52 h0_f53 h0_39 h0_39k h0_39c h0_38 h0_38k (upd w_26 (x_16 : Int32).toNatClampNeg x_56)) H := hP
        have hD : va_D A (wd_c_X12_fogOf h0 h0_f0 h0_1 h0_2 h0_3 h0_4 h0_5 h0_f6 h0_f7 h0_f8 h0_f9 h0_f10 h0_f11 h0_f12 h0_f13 h0_f14 h0_15 h0_16 h0_f17 h0_18 h0_19 h0_20 h0_21 h0_22 h0_23 h0_24 h0_25 h0_f26 h0_f27 h0_f28 h0_f29 h0_f30 h0_f31 h0_32 h0_33 h0_f34 h0_35 h0_36 h0_37 h0_38 h0_39 h0_40 h0_f41 h0_f42 h0_f43 h0_f44 h0_45 h0_46 h0_47 h0_48 h0_49 h0_50 h0_f51 h0_52 h0_f53 h0_39 h0_39k h0_39c h0_38 h0_38k (upd w_26 (x_16 : Int32).toNatClampNeg x_56)) := hD
        have l_58 : (upd w_26 (x_16 : Int32).toNatClampNeg x_56) (x_16 : Int32).toNatClampNeg = x_56 := pk_us
        generalize (upd w_26 (x_16 : Int32).toNatClampNeg x_56) = w_57 at hP hD l_58
        have hP : va_P (dC, dI) vwCl (wd_c_X12_fogOf h0 h0_f0 h0_1 h0_2 h0_3 h0_4 h0_5 h0_f6 h0_f7 h0_f8 h0_f9 h0_f10 h0_f11 h0_f12 h0_f13 h0_f14 h0_15 h0_16 h0_f17 h0_18 h0_19 h0_20 h0_21 h0_22 h0_23 h0_24 h0_25 h0_f26 h0_f27 h0_f28 h0_f29 h0_f30 h0_f31 h0_32 h0_33 h0_f34 h0_35 h0_36 h0_37 h0_38 h0_39 h0_40 h0_f41 h0_f42 h0_f43 h0_f44 h0_45 h0_46 h0_47 h0_48 h0_49 h0_50 h0_f51 h0_52 h0_f53 h0_39 h0_39k h0_39c h0_38 h0_38k w_57) H := hP
        have hD : va_D A (wd_c_X12_fogOf h0 h0_f0 h0_1 h0_2 h0_3 h0_4 h0_5 h0_f6 h0_f7 h0_f8 h0_f9 h0_f10 h0_f11 h0_f12 h0_f13 h0_f14 h0_15 h0_16 h0_f17 h0_18 h0_19 h0_20 h0_21 h0_22 h0_23 h0_24 h0_25 h0_f26 h0_f27 h0_f28 h0_f29 h0_f30 h0_f31 h0_32 h0_33 h0_f34 h0_35 h0_36 h0_37 h0_38 h0_39 h0_40 h0_f41 h0_f42 h0_f43 h0_f44 h0_45 h0_46 h0_47 h0_48 h0_49 h0_50 h0_f51 h0_52 h0_f53 h0_39 h0_39k h0_39c h0_38 h0_38k w_57) := hD
        refine lv_lload hx hb dX12_fogOf_114 (lv_at hl 0 rfl) ?_
        refine lv_aload_n hx hb dX12_fogOf_116 rfl (lv_at hl 2 rfl) ?_
        refine lv_iload_n hx hb dX12_fogOf_117 rfl (lv_at hl 3 rfl) ?_
        refine lv_iload_n hx hb dX12_fogOf_118 rfl (lv_at hl 4 rfl) ?_
        refine lv_iconst (v := 1) hx hb dX12_fogOf_119 kc_iconst_1 ?_
        refine lv_iadd hx hb dX12_fogOf_120 ?_
        refine lv_topi (fun x_59 ex_59 => ?_)
        as_aux_lemma =>
        obtain rfl : x_59 = 1 := ex_59.trans (by decide +kernel)
        refine lv_iload_n hx hb dX12_fogOf_121 rfl (lv_at hl 5 rfl) ?_
        refine lv_lload hx hb dX12_fogOf_122 (lv_at hl 6 rfl) ?_
        refine lv_lload hx hb dX12_fogOf_124 (lv_at hl 1 rfl) ?_
        refine lv_lsub hx hb dX12_fogOf_126 ?_
        refine lv_topl (fun x_60 ex_60 => ?_)
        obtain ⟨hPc, hDc, hFc, hqc⟩ := cl_cut (wc := (wd_c_X12_fogOf_1 h0 h0_f0 h0_1 h0_2 h0_3 h0_4 h0_5 h0_f6 h0_f7 h0_f8 h0_f9 h0_f10 h0_f11 h0_f12 h0_f13 h0_f14 h0_15 h0_16 h0_f17 h0_18 h0_19 h0_20 h0_21 h0_22 h0_23 h0_24 h0_25 h0_f26 h0_f27 h0_f28 h0_f29 h0_f30 h0_f31 h0_32 h0_33 h0_f34 h0_35 h0_36 h0_37 h0_38 h0_39 h0_40 h0_f41 h0_f42 h0_f43 h0_f44 h0_45 h0_46 h0_47 h0_48 h0_49 h0_50 h0_f51 h0_52 h0_f53 h0_39 h0_39k h0_39c h0_38 h0_38k w_57)) hP hD hS hA [0, 1, 2] (by decide +kernel) rfl
        have hKc := hK.sub (tys' := [(h0_39k, .int), (h0_38k, .int)]) [0, 1] rfl
        have hrv := va_recv hKc hPc (ci := 12) (q0 := 0) rfl rfl
        refine va_calll (va_runV (As := [.int p1, .int 1, .int p3, .long x_60]) (rest := [.long 0]) ⟨hx, hb, hml, hown, hts⟩ (c_X12_fogOf_1 l dC dI H.size h0 p1 p3 x_60 h0_f0 h0_1 h0_2 h0_3 h0_4 h0_5 h0_f6 h0_f7 h0_f8 h0_f9 h0_f10 h0_f11 h0_f12 h0_f13 h0_f14 h0_15 h0_16 h0_f17 h0_18 h0_19 h0_20 h0_21 h0_22 h0_23 h0_24 h0_25 h0_f26 h0_f27 h0_f28 h0_f29 h0_f30 h0_f31 h0_32 h0_33 h0_f34 h0_35 h0_36 h0_37 h0_38 h0_39 h0_40 h0_f41 h0_f42 h0_f43 h0_f44 h0_45 h0_46 h0_47 h0_48 h0_49 h0_50 h0_f51 h0_52 h0_f53 h0_39k h0_39c h0_38k w_57 g_p1 g_p3 g_h0_f6 g_h0_f7 g_h0_f8 g_h0_f9 g_h0_f10 g_h0_f11 g_h0_f17 g_15 (RG_w h_29 (by decide +kernel)) g_h0_f28 g_h0_f29 g_h0_f30 g_h0_f31 g_h0_f34 g_h0_f41 g_h0_f51 g_h0_f53 a_h0_39c) (cwV 4 hts gf_c_X12_fogOf_c_X12_fogOf_1 rfl rfl rfl mdV_X12_fogOf ⟨Nat.le_of_ble_eq_true rfl, Nat.le_of_ble_eq_true rfl⟩) ⟨fun a U g mk q => by obtain ⟨q0, q1, qP, qK, qD⟩ := q; exact ⟨q0, q1, qP, va_K.moved (u := U) (U := U.calling g mk a) (Vm.Alike.refl U.vm) qK, qD⟩, hrv, fun U hU hW => ⟨rfl, by rw [hU], by rw [hU]; exact hPc, va_K.moved hW.alike hKc, hDc.weaken (fun _ _ _ _ => trivial)⟩⟩ rfl rfl hl.1 rfl (lv_room (Nat.le_of_ble_eq_true rfl)) dX12_fogOf_127 ⟨Nat.le_of_ble_eq_true rfl, Nat.le_of_ble_eq_true rfl⟩) hS (fun q _ h => hFc q h) hFc (fun r_61 w_62 t H1 locs ht hvm hw hB hz1 hk1 hS => ?_)
        obtain ⟨hP1, hK1, hD1⟩ := hB
        rw [ht] at hP1
        obtain ⟨hP, hD⟩ := cl_put (w1 := (wd_c_X12_fogOf_1 h0 h0_f0 h0_1 h0_2 h0_3 h0_4 h0_5 h0_f6 h0_f7 h0_f8 h0_f9 h0_f10 h0_f11 h0_f12 h0_f13 h0_f14 h0_15 h0_16 h0_f17 h0_18 h0_19 h0_20 h0_21 h0_22 h0_23 h0_24 h0_25 h0_f26 h0_f27 h0_f28 h0_f29 h0_f30 h0_f31 h0_32 h0_33 h0_f34 h0_35 h0_36 h0_37 h0_38 h0_39 h0_40 h0_f41 h0_f42 h0_f43 h0_f44 h0_45 h0_46 h0_47 h0_48 h0_49 h0_50 h0_f51 h0_52 h0_f53 h0_39 h0_39k h0_39c h0_38 h0_38k w_62)) (nw := (wd_c_X12_fogOf h0 h0_f0 h0_1 h0_2 h0_3 h0_4 h0_5 h0_f6 h0_f7 h0_f8 h0_f9 h0_f10 h0_f11 h0_f12 h0_f13 h0_f14 h0_15 h0_16 h0_f17 h0_18 h0_19 h0_20 h0_21 h0_22 h0_23 h0_24 h0_25 h0_f26 h0_f27 h0_f28 h0_f29 h0_f30 h0_f31 h0_32 h0_33 h0_f34 h0_35 h0_36 h0_37 h0_38 h0_39 h0_40 h0_f41 h0_f42 h0_f43 h0_f44 h0_45 h0_46 h0_47 h0_48 h0_49 h0_50 h0_f51 h0_52 h0_f53 h0_39 h0_39k h0_39c h0_38 h0_38k w_62)) hP hD [0, 1, 2] [3, 4, 5] 3 rfl hqc (by decide +kernel) rfl hk1 hFc hP1 hD1
        generalize H1 = H at hP hS ⊢
        as_aux_lemma =>
        rcases hw with h_63 | ⟨h_64, h_65⟩
        · refine lv_ladd hx hb dX12_fogOf_130 ?_
          refine lv_topl (fun x_66 ex_66 => ?_)
          refine lv_lstore (lv' := [(8, .long x_66), (6, .long x_23), (0, .ref h0), (1, .int p1), (2, .int 0), (3, .int p3), (4, .long p4)]) hx hb dX12_fogOf_131 hl (Nat.le_of_ble_eq_true rfl) rfl (fun ls hl => ?_)
          refine lv_aload_n hx hb dX12_fogOf_133 rfl (lv_at hl 2 rfl) ?_
          refine va_get (D := (dC, dI)) (ci := 12) (v := .ref h0_38) (C := RX12) (T := TX12) (N := 54) hx hb hts iw_c_X12_fogOf_X12 hown hK hP 0 rfl rfl 38 (by decide +kernel) (hts (.fieldLink RX12 81 "BuoyVoteModel" "tally" "[I") (List.mem_of_getElem? (i := 9) rfl)) (fun _ h9 => h9) rfl dX12_fogOf_134 ?_
          refine lv_aload_n hx hb dX12_fogOf_137 rfl (lv_at hl 2 rfl) ?_
          refine va_get (D := (dC, dI)) (ci := 12) (v := .ref h0_39) (C := RX12) (T := TX12) (N := 54) hx hb hts iw_c_X12_fogOf_X12 hown hK hP 0 rfl rfl 39 (by decide +kernel) (hts (.fieldLink RX12 84 "BuoyVoteModel" "leans" "[I") (List.mem_of_getElem? (i := 2) rfl)) (fun _ h9 => h9) rfl dX12_fogOf_138 ?_
          refine lv_iload_n hx hb dX12_fogOf_141 rfl (lv_at hl 4 rfl) ?_
          refine va_iald hx hb hK hP 1 0 rfl rfl (RG_in (RG_k 0 0 rfl) (by decide +kernel)) dX12_fogOf_142 ?_
          refine lv_topi (fun x_67 ex_67 => ?_)
          obtain rfl : x_16 = x_67 := (ex_67.trans ex_16.symm).symm
          refine lv_dup2_11 hx hb dX12_fogOf_143 rfl rfl ?_
          refine va_iald hx hb hK hP 2 1 rfl rfl (RG_in g_19 (by decide +kernel)) dX12_fogOf_144 ?_
          as_aux_lemma =>
          refine lv_topi (fun x_68 ex_68 => ?_)
          refine lv_iconst (v := 1) hx hb dX12_fogOf_145 kc_iconst_1 ?_
          refine lv_isub hx hb dX12_fogOf_146 ?_
          refine lv_topi (fun x_69 ex_69 => ?_)
          refine va_iast hx hb hK hP hD hS 2 1 rfl rfl (RG_in g_19 (by decide +kernel)) dX12_fogOf_147 (fun H locs hP hD hS => ?_)
          have hP : va_P (dC, dI) vwCl (wd_c_X12_fogOf h0 h0_f0 h0_1 h0_2 h0_3 h0_4 h0_5 h0_f6 h0_f7 h0_f8 h0_f9 h0_f10 h0_f11 h0_f12 h0_f13 h0_f14 h0_15 h0_16 h0_f17 h0_18 h0_19 h0_20 h0_21 h0_22 h0_23 h0_24 h0_25 h0_f26 h0_f27 h0_f28 h0_f29 h0_f30 h0_f31 h0_32 h0_33 h0_f34 h0_35 h0_36 h0_37 h0_38 h0_39 h0_40 h0_f41 h0_f42 h0_f43 h0_f44 h0_45 h0_46 h0_47 h0_48 h0_49 h0_50 h0_f51 h0_52 h0_f53 h0_39 h0_39k h0_39c h0_38 h0_38k (upd w_62 (x_16 : Int32).toNatClampNeg x_69)) H := hP
          have hD : va_D A (wd_c_X12_fogOf h0 h0_f0 h0_1 h0_2 h0_3 h0_4 h0_5 h0_f6 h0_f7 h0_f8 h0_f9 h0_f10 h0_f11 h0_f12 h0_f13 h0_f14 h0_15 h0_16 h0_f17 h0_18 h0_19 h0_20 h0_21 h0_22 h0_23 h0_24 h0_25 h0_f26 h0_f27 h0_f28 h0_f29 h0_f30 h0_f31 h0_32 h0_33 h0_f34 h0_35 h0_36 h0_37 h0_38 h0_39 h0_40 h0_f41 h0_f42 h0_f43 h0_f44 h0_45 h0_46 h0_47 h0_48 h0_49 h0_50 h0_f51 h0_52 h0_f53 h0_39 h0_39k h0_39c h0_38 h0_38k (upd w_62 (x_16 : Int32).toNatClampNeg x_69)) := hD
          have l_71 : (upd w_62 (x_16 : Int32).toNatClampNeg x_69) (x_16 : Int32).toNatClampNeg = x_69 := pk_us
          generalize (upd w_62 (x_16 : Int32).toNatClampNeg x_69) = w_70 at hP hD l_71
          have hP : va_P (dC, dI) vwCl (wd_c_X12_fogOf h0 h0_f0 h0_1 h0_2 h0_3 h0_4 h0_5 h0_f6 h0_f7 h0_f8 h0_f9 h0_f10 h0_f11 h0_f12 h0_f13 h0_f14 h0_15 h0_16 h0_f17 h0_18 h0_19 h0_20 h0_21 h0_22 h0_23 h0_24 h0_25 h0_f26 h0_f27 h0_f28 h0_f29 h0_f30 h0_f31 h0_32 h0_33 h0_f34 h0_35 h0_36 h0_37 h0_38 h0_39 h0_40 h0_f41 h0_f42 h0_f43 h0_f44 h0_45 h0_46 h0_47 h0_48 h0_49 h0_50 h0_f51 h0_52 h0_f53 h0_39 h0_39k h0_39c h0_38 h0_38k w_70) H := hP
          have hD : va_D A (wd_c_X12_fogOf h0 h0_f0 h0_1 h0_2 h0_3 h0_4 h0_5 h0_f6 h0_f7 h0_f8 h0_f9 h0_f10 h0_f11 h0_f12 h0_f13 h0_f14 h0_15 h0_16 h0_f17 h0_18 h0_19 h0_20 h0_21 h0_22 h0_23 h0_24 h0_25 h0_f26 h0_f27 h0_f28 h0_f29 h0_f30 h0_f31 h0_32 h0_33 h0_f34 h0_35 h0_36 h0_37 h0_38 h0_39 h0_40 h0_f41 h0_f42 h0_f43 h0_f44 h0_45 h0_46 h0_47 h0_48 h0_49 h0_50 h0_f51 h0_52 h0_f53 h0_39 h0_39k h0_39c h0_38 h0_38k w_70) := hD
          refine lv_lload hx hb dX12_fogOf_148 (lv_at hl 0 rfl) ?_
          have hK9 := hK.sub (tys' := []) [] rfl
          exact W.lret (v := x_66) hx hb hr (fun t ht hW => ⟨⟨x_66, w_70, rfl, (Or.inl (LG_any x_66)), by rw [ht]; exact hP, va_K.moved hW.alike hK9, hD⟩, hS.F ht⟩) hS.2.2 dX12_fogOf_150
        · rw [h_64]
          refine lv_ladd hx hb dX12_fogOf_130 ?_
          as_aux_lemma =>
          refine lv_topl (fun x_72 ex_72 => ?_)
          obtain rfl : x_72 = 0 := ex_72.trans (by decide +kernel)
          refine lv_lstore (lv' := [(8, .long 0), (6, .long x_23), (0, .ref h0), (1, .int p1), (2, .int 0), (3, .int p3), (4, .long p4)]) hx hb dX12_fogOf_131 hl (Nat.le_of_ble_eq_true rfl) rfl (fun ls hl => ?_)
          refine lv_aload_n hx hb dX12_fogOf_133 rfl (lv_at hl 2 rfl) ?_
          refine va_get (D := (dC, dI)) (ci := 12) (v := .ref h0_38) (C := RX12) (T := TX12) (N := 54) hx hb hts iw_c_X12_fogOf_X12 hown hK hP 0 rfl rfl 38 (by decide +kernel) (hts (.fieldLink RX12 81 "BuoyVoteModel" "tally" "[I") (List.mem_of_getElem? (i := 9) rfl)) (fun _ h9 => h9) rfl dX12_fogOf_134 ?_
          refine lv_aload_n hx hb dX12_fogOf_137 rfl (lv_at hl 2 rfl) ?_
          refine va_get (D := (dC, dI)) (ci := 12) (v := .ref h0_39) (C := RX12) (T := TX12) (N := 54) hx hb hts iw_c_X12_fogOf_X12 hown hK hP 0 rfl rfl 39 (by decide +kernel) (hts (.fieldLink RX12 84 "BuoyVoteModel" "leans" "[I") (List.mem_of_getElem? (i := 2) rfl)) (fun _ h9 => h9) rfl dX12_fogOf_138 ?_
          refine lv_iload_n hx hb dX12_fogOf_141 rfl (lv_at hl 4 rfl) ?_
          refine va_iald hx hb hK hP 1 0 rfl rfl (RG_in (RG_k 0 0 rfl) (by decide +kernel)) dX12_fogOf_142 ?_
          refine lv_topi (fun x_73 ex_73 => ?_)
          obtain rfl : x_16 = x_73 := (ex_73.trans ex_16.symm).symm
          refine lv_dup2_11 hx hb dX12_fogOf_143 rfl rfl ?_
          refine va_iald hx hb hK hP 2 1 rfl rfl (RG_in g_19 (by decide +kernel)) dX12_fogOf_144 ?_
          refine lv_topi (fun x_74 ex_74 => ?_)
          as_aux_lemma =>
          refine lv_iconst (v := 1) hx hb dX12_fogOf_145 kc_iconst_1 ?_
          refine lv_isub hx hb dX12_fogOf_146 ?_
          refine lv_topi (fun x_75 ex_75 => ?_)
          refine va_iast hx hb hK hP hD hS 2 1 rfl rfl (RG_in g_19 (by decide +kernel)) dX12_fogOf_147 (fun H locs hP hD hS => ?_)
          have hP : va_P (dC, dI) vwCl (wd_c_X12_fogOf h0 h0_f0 h0_1 h0_2 h0_3 h0_4 h0_5 h0_f6 h0_f7 h0_f8 h0_f9 h0_f10 h0_f11 h0_f12 h0_f13 h0_f14 h0_15 h0_16 h0_f17 h0_18 h0_19 h0_20 h0_21 h0_22 h0_23 h0_24 h0_25 h0_f26 h0_f27 h0_f28 h0_f29 h0_f30 h0_f31 h0_32 h0_33 h0_f34 h0_35 h0_36 h0_37 h0_38 h0_39 h0_40 h0_f41 h0_f42 h0_f43 h0_f44 h0_45 h0_46 h0_47 h0_48 h0_49 h0_50 h0_f51 h0_52 h0_f53 h0_39 h0_39k h0_39c h0_38 h0_38k (upd w_62 (x_16 : Int32).toNatClampNeg x_75)) H := hP
          have hD : va_D A (wd_c_X12_fogOf h0 h0_f0 h0_1 h0_2 h0_3 h0_4 h0_5 h0_f6 h0_f7 h0_f8 h0_f9 h0_f10 h0_f11 h0_f12 h0_f13 h0_f14 h0_15 h0_16 h0_f17 h0_18 h0_19 h0_20 h0_21 h0_22 h0_23 h0_24 h0_25 h0_f26 h0_f27 h0_f28 h0_f29 h0_f30 h0_f31 h0_32 h0_33 h0_f34 h0_35 h0_36 h0_37 h0_38 h0_39 h0_40 h0_f41 h0_f42 h0_f43 h0_f44 h0_45 h0_46 h0_47 h0_48 h0_49 h0_50 h0_f51 h0_52 h0_f53 h0_39 h0_39k h0_39c h0_38 h0_38k (upd w_62 (x_16 : Int32).toNatClampNeg x_75)) := hD
          have l_77 : (upd w_62 (x_16 : Int32).toNatClampNeg x_75) (x_16 : Int32).toNatClampNeg = x_75 := pk_us
          generalize (upd w_62 (x_16 : Int32).toNatClampNeg x_75) = w_76 at hP hD l_77
          have hP : va_P (dC, dI) vwCl (wd_c_X12_fogOf h0 h0_f0 h0_1 h0_2 h0_3 h0_4 h0_5 h0_f6 h0_f7 h0_f8 h0_f9 h0_f10 h0_f11 h0_f12 h0_f13 h0_f14 h0_15 h0_16 h0_f17 h0_18 h0_19 h0_20 h0_21 h0_22 h0_23 h0_24 h0_25 h0_f26 h0_f27 h0_f28 h0_f29 h0_f30 h0_f31 h0_32 h0_33 h0_f34 h0_35 h0_36 h0_37 h0_38 h0_39 h0_40 h0_f41 h0_f42 h0_f43 h0_f44 h0_45 h0_46 h0_47 h0_48 h0_49 h0_50 h0_f51 h0_52 h0_f53 h0_39 h0_39k h0_39c h0_38 h0_38k w_76) H := hP
          have hD : va_D A (wd_c_X12_fogOf h0 h0_f0 h0_1 h0_2 h0_3 h0_4 h0_5 h0_f6 h0_f7 h0_f8 h0_f9 h0_f10 h0_f11 h0_f12 h0_f13 h0_f14 h0_15 h0_16 h0_f17 h0_18 h0_19 h0_20 h0_21 h0_22 h0_23 h0_24 h0_25 h0_f26 h0_f27 h0_f28 h0_f29 h0_f30 h0_f31 h0_32 h0_33 h0_f34 h0_35 h0_36 h0_37 h0_38 h0_39 h0_40 h0_f41 h0_f42 h0_f43 h0_f44 h0_45 h0_46 h0_47 h0_48 h0_49 h0_50 h0_f51 h0_52 h0_f53 h0_39 h0_39k h0_39c h0_38 h0_38k w_76) := hD
          refine lv_lload hx hb dX12_fogOf_148 (lv_at hl 0 rfl) ?_
          have hK9 := hK.sub (tys' := []) [] rfl
          exact W.lret (v := 0) hx hb hr (fun t ht hW => ⟨⟨0, w_76, rfl, (Or.inr ⟨rfl, h_29⟩), by rw [ht]; exact hP, va_K.moved hW.alike hK9, hD⟩, hS.F ht⟩) hS.2.2 dX12_fogOf_150
    · have g_78 : RG x_16 (-1) (-1) := RG_eq1 g_17 (RG_k (-1) (-1) rfl) c_18 (by decide +kernel)
      refine lv_aload_n hx hb dX12_fogOf_63 rfl (lv_at hl 0 rfl) ?_
      as_aux_lemma =>
      refine lv_iload_n hx hb dX12_fogOf_64 rfl (lv_at hl 1 rfl) ?_
      refine lv_iload_n hx hb dX12_fogOf_65 rfl (lv_at hl 2 rfl) ?_
      refine lv_iconst (v := 1) hx hb dX12_fogOf_66 kc_iconst_1 ?_
      refine lv_iadd hx hb dX12_fogOf_67 ?_
      refine lv_topi (fun x_79 ex_79 => ?_)
      obtain rfl : x_79 = 1 := ex_79.trans (by decide +kernel)
      refine lv_iload_n hx hb dX12_fogOf_68 rfl (lv_at hl 3 rfl) ?_
      refine lv_lload hx hb dX12_fogOf_69 (lv_at hl 4 rfl) ?_
      obtain ⟨hPc, hDc, hFc, hqc⟩ := cl_cut (wc := (wd_c_X12_fogOf_1 h0 h0_f0 h0_1 h0_2 h0_3 h0_4 h0_5 h0_f6 h0_f7 h0_f8 h0_f9 h0_f10 h0_f11 h0_f12 h0_f13 h0_f14 h0_15 h0_16 h0_f17 h0_18 h0_19 h0_20 h0_21 h0_22 h0_23 h0_24 h0_25 h0_f26 h0_f27 h0_f28 h0_f29 h0_f30 h0_f31 h0_32 h0_33 h0_f34 h0_35 h0_36 h0_37 h0_38 h0_39 h0_40 h0_f41 h0_f42 h0_f43 h0_f44 h0_45 h0_46 h0_47 h0_48 h0_49 h0_50 h0_f51 h0_52 h0_f53 h0_39 h0_39k h0_39c h0_38 h0_38k h0_38c)) hP hD hS hA [0, 1, 2] (by decide +kernel) rfl
      have hKc := hK.sub (tys' := [(h0_39k, .int), (h0_38k, .int)]) [0, 1] rfl
      have hrv := va_recv hKc hPc (ci := 12) (q0 := 0) rfl rfl
      refine va_calll (va_runV (As := [.int p1, .int 1, .int p3, .long p4]) (rest := []) ⟨hx, hb, hml, hown, hts⟩ (c_X12_fogOf_1 l dC dI H.size h0 p1 p3 p4 h0_f0 h0_1 h0_2 h0_3 h0_4 h0_5 h0_f6 h0_f7 h0_f8 h0_f9 h0_f10 h0_f11 h0_f12 h0_f13 h0_f14 h0_15 h0_16 h0_f17 h0_18 h0_19 h0_20 h0_21 h0_22 h0_23 h0_24 h0_25 h0_f26 h0_f27 h0_f28 h0_f29 h0_f30 h0_f31 h0_32 h0_33 h0_f34 h0_35 h0_36 h0_37 h0_38 h0_39 h0_40 h0_f41 h0_f42 h0_f43 h0_f44 h0_45 h0_46 h0_47 h0_48 h0_49 h0_50 h0_f51 h0_52 h0_f53 h0_39k h0_39c h0_38k h0_38c g_p1 g_p3 g_h0_f6 g_h0_f7 g_h0_f8 g_h0_f9 g_h0_f10 g_h0_f11 g_h0_f17 g_15 g_h0_f27 g_h0_f28 g_h0_f29 g_h0_f30 g_h0_f31 g_h0_f34 g_h0_f41 g_h0_f51 g_h0_f53 a_h0_39c) (cwV 4 hts gf_c_X12_fogOf_c_X12_fogOf_1 rfl rfl rfl mdV_X12_fogOf ⟨Nat.le_of_ble_eq_true rfl, Nat.le_of_ble_eq_true rfl⟩) ⟨fun a U g mk q => by obtain ⟨q0, q1, qP, qK, qD⟩ := q; exact ⟨q0, q1, qP, va_K.moved (u := U) (U := U.calling g mk a) (Vm.Alike.refl U.vm) qK, qD⟩, hrv, fun U hU hW => ⟨rfl, by rw [hU], by rw [hU]; exact hPc, va_K.moved hW.alike hKc, hDc.weaken (fun _ _ _ _ => trivial)⟩⟩ rfl rfl hl.1 rfl (lv_room (Nat.le_of_ble_eq_true rfl)) dX12_fogOf_71 ⟨Nat.le_of_ble_eq_true rfl, Nat.le_of_ble_eq_true rfl⟩) hS (fun q _ h => hFc q h) hFc (fun r_80 w_81 t H1 locs ht hvm hw hB hz1 hk1 hS => ?_)
      obtain ⟨hP1, hK1, hD1⟩ := hB
      rw [ht] at hP1
      obtain ⟨hP, hD⟩ := cl_put (w1 := (wd_c_X12_fogOf_1 h0 h0_f0 h0_1 h0_2 h0_3 h0_4 h0_5 h0_f6 h0_f7 h0_f8 h0_f9 h0_f10 h0_f11 h0_f12 h0_f13 h0_f14 h0_15 h0_16 h0_f17 h0_18 h0_19 h0_20 h0_21 h0_22 h0_23 h0_24 h0_25 h0_f26 h0_f27 h0_f28 h0_f29 h0_f30 h0_f31 h0_32 h0_33 h0_f34 h0_35 h0_36 h0_37 h0_38 h0_39 h0_40 h0_f41 h0_f42 h0_f43 h0_f44 h0_45 h0_46 h0_47 h0_48 h0_49 h0_50 h0_f51 h0_52 h0_f53 h0_39 h0_39k h0_39c h0_38 h0_38k w_81)) (nw := (wd_c_X12_fogOf h0 h0_f0 h0_1 h0_2 h0_3 h0_4 h0_5 h0_f6 h0_f7 h0_f8 h0_f9 h0_f10 h0_f11 h0_f12 h0_f13 h0_f14 h0_15 h0_16 h0_f17 h0_18 h0_19 h0_20 h0_21 h0_22 h0_23 h0_24 h0_25 h0_f26 h0_f27 h0_f28 h0_f29 h0_f30 h0_f31 h0_32 h0_33 h0_f34 h0_35 h0_36 h0_37 h0_38 h0_39 h0_40 h0_f41 h0_f42 h0_f43 h0_f44 h0_45 h0_46 h0_47 h0_48 h0_49 h0_50 h0_f51 h0_52 h0_f53 h0_39 h0_39k h0_39c h0_38 h0_38k w_81)) hP hD [0, 1, 2] [3, 4, 5] 3 rfl hqc (by decide +kernel) rfl hk1 hFc hP1 hD1
      generalize H1 = H at hP hS ⊢
      as_aux_lemma =>
      rcases hw with h_82 | ⟨h_83, h_84⟩
      · have hK9 := hK.sub (tys' := []) [] rfl
        exact W.lret (v := r_80) hx hb hr (fun t ht hW => ⟨⟨r_80, w_81, rfl, (Or.inl h_82), by rw [ht]; exact hP, va_K.moved hW.alike hK9, hD⟩, hS.F ht⟩) hS.2.2 dX12_fogOf_74
      · rw [h_83]
        have hK9 := hK.sub (tys' := []) [] rfl
        exact W.lret (v := 0) hx hb hr (fun t ht hW => ⟨⟨0, w_81, rfl, (Or.inr ⟨rfl, h_84⟩), by rw [ht]; exact hP, va_K.moved hW.alike hK9, hD⟩, hS.F ht⟩) hS.2.2 dX12_fogOf_74
  · have g_85 : RG h0_f26 0 0 := RG_eq1 g_h0_f26 (RG_k 0 0 rfl) c_14.symm (by decide +kernel)
    refine lv_iconst (v := 0) hx hb dX12_fogOf_8 kc_iconst_0 ?_
    refine lv_istore (lv' := [(6, .int 0), (0, .ref h0), (1, .int p1), (2, .int 0), (3, .int p3), (4, .long p4)]) hx hb dX12_fogOf_9 hl (Nat.le_of_ble_eq_true rfl) rfl (fun ls hl => ?_)
    exact hU _ _ _ (J11 _ 0 (Nat.lt_succ_self _) g_h0_f10 g_h0_f11 g_h0_f17 g_85 g_h0_f27 g_h0_f28 g_h0_f29 g_h0_f30 g_h0_f31 g_h0_f34 g_h0_f41 g_h0_f51 g_h0_f53 g_h0_f6 g_h0_f7 g_h0_f8 g_h0_f9 (RG_w (RG_k 0 0 rfl) (by decide +kernel)) g_p1 g_p3 _ _ _ hP hD hS (lv_sub hl [0, 1, 2, 5] rfl))
