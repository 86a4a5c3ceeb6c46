noncomputable def wd_c_X9_takeEither (a0 : Nat) (a1 : Nat) (a2 : Int32) (a3 : Int32) (a4 : Int32) (a5 : Nat) (a6 : ClassId) (a7 : Nat → Int32) : va_W := [(a0, .inr (9, [.ref a1, .int a2, .int a3, .int a4])), (a5, .inl (a6, 240, .inl a7))]
noncomputable def wf_c_X9_takeEither : List Cond := List.cons (.code yX9_takeEither cX9_takeEither 4 (some .int)) (@HAppend.hAppend (List Cond) (List Cond) (List Cond) _ [.methodLink RX9 29 yX9_peek, .instanceMethod yX9_peek, .selects RX9 yX9_peek yX9_peek, .initialized RX9, .code yX9_peek cX9_peek 1 (some .int), .fieldLink RX9 22 "BuoyVote$Tape" "at" "I", .fieldLink RX9 19 "BuoyVote$Tape" "length" "I", .fieldLink RX9 11 "BuoyVote$Tape" "bytes" "[I", .fieldLink RX9 15 "BuoyVote$Tape" "wrong" "I"] wsX90)
theorem iw_c_X9_takeEither_X9 : ∀ w ∈ wsX90, w ∈ wf_c_X9_takeEither := fun w h => List.mem_cons_of_mem _ (List.mem_append_right _ h)
set_option maxRecDepth 20000 in
theorem gf_c_X9_takeEither_c_X9_peek : GoodIn wf_c_X9_takeEither (wsV RX9 29 RX9 yX9_peek wf_c_X9_peek) := goodIn_app (gi_l [1, 2, 3, 4] rfl rfl) (gi_cons (j := 5) rfl rfl (goodIn_app (gi_l [6, 7, 8] rfl rfl) (goodIn_sub iw_c_X9_takeEither_X9 gw_X9)))
set_option maxHeartbeats 4000000 in
set_option maxRecDepth 100000 in
theorem c_X9_takeEither (l : Launch) (dC : Nat → ClassId) (dI : Nat → Nat → Nat) (sz : Nat) (h0 : Nat) (p1 : Int32) (p2 : Int32) (h0_0 : Nat) (h0_f1 : Int32) (h0_f2 : Int32) (h0_f3 : Int32) (h0_0k : ClassId) (h0_0c : Nat → Int32) (g_p1 : RG p1 0 60) (g_p2 : RG p2 0 60) (g_h0_f1 : RG h0_f1 0 240) (g_h0_f2 : RG h0_f2 0 240) (g_h0_f3 : RG h0_f3 (-1) 240) (a_h0_0c : AI h0_0c 0 255) : Met l yX9_takeEither wf_c_X9_takeEither ({ frames := 1, cells := 0, slots := 0, locals := 20 }) (va_Pc [.ref h0, .int p1, .int p2] (fun U => U.heap.size = sz ∧ va_P (dC, dI) vwCl (wd_c_X9_takeEither h0 h0_0 h0_f1 h0_f2 h0_f3 h0_0 h0_0k h0_0c) U.heap ∧ va_K (dC, dI) vwCl [(h0_0k, .int)] U ∧ va_D (fun _ => True) (wd_c_X9_takeEither h0 h0_0 h0_f1 h0_f2 h0_f3 h0_0 h0_0k h0_0c))) (va_Qi (fun (r : Int32) (u : (Int32)) => (r = 0 ∧ RG u 0 240 ∧ h0_f2.toInt + 0 ≤ (u).toInt) ∨ (RG r 0 60 ∧ RG u 1 240 ∧ RG h0_f1 1 240 ∧ RG h0_f3 (-1) (-1) ∧ h0_f2.toInt + 1 ≤ (u).toInt)) (fun (u : (Int32)) t => va_P (dC, dI) vwCl (wd_c_X9_takeEither h0 h0_0 h0_f1 u h0_f3 h0_0 h0_0k h0_0c) t.heap ∧ va_K (dC, dI) vwCl [] t ∧ va_D (va_A (wd_c_X9_takeEither h0 h0_0 h0_f1 h0_f2 h0_f3 h0_0 h0_0k h0_0c) sz) (wd_c_X9_takeEither h0 h0_0 h0_f1 u h0_f3 h0_0 h0_0k h0_0c)) (va_A (wd_c_X9_takeEither h0 h0_0 h0_f1 h0_f2 h0_f3 h0_0 h0_0k h0_0c) sz)) 0 0 (va_A (wd_c_X9_takeEither h0 h0_0 h0_f1 h0_f2 h0_f3 h0_0 h0_0k h0_0c) sz) := by
  refine Met.ofW (cc := cX9_takeEither) (maxL := 4) (ret := (some .int)) (by decide +kernel) rfl ?_
  intro p e s m args below meth c s₁ B hml hv
  obtain ⟨rfl, hsz, hP, hK, hD0⟩ := hv
  have hx := B.exec
  have hb := B.bytes
  have hr := B.returns
  have hts := atoms_spec (ws := wf_c_X9_takeEither) B.pre
  have hown : s.vm.findClass RX9 = some m.cls := findClass_of_methodNamed B.named
  have hlocks := B.notSynchronized
  subst hsz
  have hD := hD0.self (sz := s.heap.size)
  generalize hAe : va_A (wd_c_X9_takeEither h0 h0_0 h0_f1 h0_f2 h0_f3 h0_0 h0_0k h0_0c) s.heap.size = A at hD ⊢
  have hA : ∀ q : Nat, s.heap.size ≤ q → A q := fun q h => by rw [← hAe]; exact Or.inr h
  have hP : va_P (dC, dI) vwCl (wd_c_X9_takeEither h0 h0_0 h0_f1 h0_f2 h0_f3 h0_0 h0_0k h0_0c) s.heap := hP
  have hl := lv_entry ([.ref h0, .int p1, .int p2]) (n := 4) (Nat.le_of_ble_eq_true rfl)
  rw [lg_entry_eq]
  generalize (lg_sl ([.ref h0, .int p1, .int p2]) ++ List.replicate (4 - (lg_sl ([.ref h0, .int p1, .int p2])).length) Slot.unset).toArray = ls at hl ⊢
  have hl : lv_has ls 4 [(0, .ref h0), (1, .int p1), (2, .int p2)] := hl
  obtain ⟨H, hHe⟩ : ∃ H : Heap, s.heap = H := ⟨_, rfl⟩
  have hS : va_S A s.heap H [] := by rw [hHe]; exact va_S.rf
  have hP : va_P (dC, dI) vwCl (wd_c_X9_takeEither h0 h0_0 h0_f1 h0_f2 h0_f3 h0_0 h0_0k h0_0c) H := by rw [← hHe]; exact hP
  rw [hHe]
  refine wj (fun G hG hU => ?_)
  as_aux_lemma =>
  have J25 : ∀ (j25_l3 : Int32) (j25_h0_f2 : Int32) (g_h0_f1 : RG h0_f1 1 240) (g_h0_f2 : RG h0_f2 0 240) (g_h0_f3 : RG h0_f3 (-1) (-1)) (g_j25_h0_f2 : RG j25_h0_f2 0 239) (g_j25_l3 : RG j25_l3 0 60) (g_p1 : RG p1 0 60) (g_p2 : RG p2 0 60) (r_h0_f2_j25_h0_f2 : h0_f2.toInt + 0 ≤ j25_h0_f2.toInt) (H : Heap) (locs : List Loc) (ls : Array Slot) (hP : va_P (dC, dI) vwCl (wd_c_X9_takeEither h0 h0_0 h0_f1 j25_h0_f2 h0_f3 h0_0 h0_0k h0_0c) H) (hD : va_D A (wd_c_X9_takeEither h0 h0_0 h0_f1 j25_h0_f2 h0_f3 h0_0 h0_0k h0_0c)) (hS : va_S A s.heap H locs) (hl : lv_has ls 4 [(3, .int j25_l3), (0, .ref h0)]), G H locs (F0 m 25 ls []) := by
    as_aux_lemma =>
    intro j25_l3 j25_h0_f2 g_h0_f1 g_h0_f2 g_h0_f3 g_j25_h0_f2 g_j25_l3 g_p1 g_p2 r_h0_f2_j25_h0_f2 H locs ls hP hD hS hl
    refine hG _ _ _ ?_
    refine lv_aload_n hx hb dX9_takeEither_25 rfl (lv_at hl 1 rfl) ?_
    refine lv_dup hx hb dX9_takeEither_26 rfl ?_
    refine va_get (D := (dC, dI)) (ci := 9) (v := .int j25_h0_f2) (C := RX9) (T := TX9) (N := 4) hx hb hts iw_c_X9_takeEither_X9 hown hK hP 0 rfl rfl 2 (by decide +kernel) (hts (.fieldLink RX9 22 "BuoyVote$Tape" "at" "I") (List.mem_of_getElem? (i := 6) rfl)) (fun _ h9 => h9) rfl dX9_takeEither_27 ?_
    refine lv_iconst (v := 1) hx hb dX9_takeEither_30 kc_iconst_1 ?_
    refine lv_iadd hx hb dX9_takeEither_31 ?_
    refine lv_topi (fun x_1 ex_1 => ?_)
    have g_2 : RG x_1 1 240 := RG_add ex_1 g_j25_h0_f2 (RG_k 1 1 rfl) (by decide +kernel)
    have q_3 : x_1.toInt = j25_h0_f2.toInt + 1 := eq_add ex_1 g_j25_h0_f2 (q := 1) rfl (by decide +kernel)
    refine va_put (D := (dC, dI)) (ci := 9) (v := .int x_1) (ty := .int) (C := RX9) (T := TX9) (N := 4) hx hb hts iw_c_X9_takeEither_X9 tyX9 tyX9_ok nmX9 hown hK hP hD hS 0 rfl rfl 2 (by decide +kernel) (hts (.fieldLink RX9 22 "BuoyVote$Tape" "at" "I") (List.mem_of_getElem? (i := 6) rfl)) (fun _ h9 => h9) rfl (by decide +kernel) rfl rfl (Nat.le_of_ble_eq_true rfl) dX9_takeEither_32 (fun H locs hP hD hS => ?_)
    have hP : va_P (dC, dI) vwCl (wd_c_X9_takeEither h0 h0_0 h0_f1 x_1 h0_f3 h0_0 h0_0k h0_0c) H := hP
    have hD : va_D A (wd_c_X9_takeEither h0 h0_0 h0_f1 x_1 h0_f3 h0_0 h0_0k h0_0c) := hD
    refine lv_iload_n hx hb dX9_takeEither_35 rfl (lv_at hl 0 rfl) ?_
    as_aux_lemma =>
    have hK9 := hK.sub (tys' := []) [] rfl
    exact W.iret (v := j25_l3) hx hb hr (fun t ht hW => ⟨⟨j25_l3, x_1, rfl, (Or.inr ⟨g_j25_l3, g_2, g_h0_f1, g_h0_f3, (by have := r_h0_f2_j25_h0_f2; have := q_3; show h0_f2.toInt + 1 ≤ x_1.toInt; omega)⟩), by rw [ht]; exact hP, va_K.moved hW.alike hK9, hD⟩, hS.F ht⟩) hS.2.2 dX9_takeEither_36
  refine hG _ _ _ ?_
  refine lv_aload_n hx hb dX9_takeEither_0 rfl (lv_at hl 0 rfl) ?_
  obtain ⟨hPc, hDc, hFc, hqc⟩ := cl_cut (wc := (wd_c_X9_peek h0 h0_0 h0_f1 h0_f2 h0_f3 h0_0 h0_0k h0_0c)) hP hD hS hA [0, 1] (by decide +kernel) rfl
  have hKc := hK.sub (tys' := [(h0_0k, .int)]) [0] rfl
  have hrv := va_recv hKc hPc (ci := 9) (q0 := 0) rfl rfl
  refine va_calli (va_runV (As := []) (rest := []) ⟨hx, hb, hml, hown, hts⟩ (c_X9_peek l dC dI H.size h0 h0_0 h0_f1 h0_f2 h0_f3 h0_0k h0_0c g_h0_f1 g_h0_f2 g_h0_f3 a_h0_0c) (cwV 0 hts gf_c_X9_takeEither_c_X9_peek rfl rfl rfl mdV_X9_peek ⟨Nat.le_of_ble_eq_true rfl, Nat.le_of_ble_eq_true rfl⟩) ⟨fun a U g mk q => by obtain ⟨q0, q1, qP, qK, qD⟩ := q; exact ⟨q0, q1, qP, va_K.moved (u := U) (U := U.calling g mk a) (Vm.Alike.refl U.vm) qK, qD⟩, hrv, fun U hU hW => ⟨rfl, by rw [hU], by rw [hU]; exact hPc, va_K.moved hW.alike hKc, hDc.weaken (fun _ _ _ _ => trivial)⟩⟩ rfl rfl hl.1 rfl (lv_room (Nat.le_of_ble_eq_true rfl)) dX9_takeEither_1 ⟨Nat.le_of_ble_eq_true rfl, Nat.le_of_ble_eq_true rfl⟩) hS (fun q _ h => hFc q h) hFc (fun r_4 x_5 t H1 locs ht hvm hw hB hz1 hk1 hS => ?_)
  obtain ⟨hP1, hK1, hD1⟩ := hB
  rw [ht] at hP1
  obtain ⟨hP, hD⟩ := cl_put (w1 := (wd_c_X9_peek h0 h0_0 h0_f1 x_5 h0_f3 h0_0 h0_0k h0_0c)) (nw := (wd_c_X9_takeEither h0 h0_0 h0_f1 x_5 h0_f3 h0_0 h0_0k h0_0c)) hP hD [0, 1] [2, 3] 2 rfl hqc (by decide +kernel) rfl hk1 hFc hP1 hD1
  generalize H1 = H at hP hS ⊢
  as_aux_lemma =>
  rcases hw with ⟨h_6, h_7, h_8⟩ | ⟨h_9, h_10, h_11, h_12⟩
  · rw [h_6]
    refine lv_istore_n (lv' := [(3, .int (-1)), (0, .ref h0), (1, .int p1), (2, .int p2)]) hx hb dX9_takeEither_4 rfl hl (Nat.le_of_ble_eq_true rfl) rfl (fun ls hl => ?_)
    refine lv_aload_n hx hb dX9_takeEither_5 rfl (lv_at hl 1 rfl) ?_
    refine va_get (D := (dC, dI)) (ci := 9) (v := .int h0_f3) (C := RX9) (T := TX9) (N := 4) hx hb hts iw_c_X9_takeEither_X9 hown hK hP 0 rfl rfl 3 (by decide +kernel) (hts (.fieldLink RX9 15 "BuoyVote$Tape" "wrong" "I") (List.mem_of_getElem? (i := 9) rfl)) (fun _ h9 => h9) rfl dX9_takeEither_6 ?_
    refine lv_iconst (v := (-1)) hx hb dX9_takeEither_9 kc_iconst_m1 ?_
    refine lv_icmp_ne (tgt := 23) hx hb dX9_takeEither_10 rfl (fun c_13 => ?_) (fun c_13 => ?_)
    · have g_14 : RG h0_f3 0 240 := RG_ne1 g_h0_f3 (q := (-1)) rfl c_13 (by decide +kernel)
      refine lv_iconst (v := 0) hx hb dX9_takeEither_23 kc_iconst_0 ?_
      have hK9 := hK.sub (tys' := []) [] rfl
      exact W.iret (v := 0) hx hb hr (fun t ht hW => ⟨⟨0, x_5, rfl, (Or.inl ⟨rfl, h_7, (by have := h_8; show h0_f2.toInt + 0 ≤ x_5.toInt; omega)⟩), by rw [ht]; exact hP, va_K.moved hW.alike hK9, hD⟩, hS.F ht⟩) hS.2.2 dX9_takeEither_24
    · have g_15 : RG h0_f3 (-1) (-1) := RG_eq1 g_h0_f3 (RG_k (-1) (-1) rfl) c_13 (by decide +kernel)
      refine lv_iload_n hx hb dX9_takeEither_13 rfl (lv_at hl 0 rfl) ?_
      refine lv_iload_n hx hb dX9_takeEither_14 rfl (lv_at hl 2 rfl) ?_
      as_aux_lemma =>
      refine lv_icmp_eq (tgt := 25) hx hb dX9_takeEither_15 rfl (fun c_16 => ?_) (fun c_16 => ?_)
      · exact RG_dead (RG_eq1 (RG_k (-1) (-1) rfl) g_p1 c_16 (a' := 0) (b' := (-1)) (by decide +kernel)) (by decide +kernel)
      · refine lv_iload_n hx hb dX9_takeEither_18 rfl (lv_at hl 0 rfl) ?_
        refine lv_iload_n hx hb dX9_takeEither_19 rfl (lv_at hl 3 rfl) ?_
        refine lv_icmp_eq (tgt := 25) hx hb dX9_takeEither_20 rfl (fun c_17 => ?_) (fun c_17 => ?_)
        · exact RG_dead (RG_eq1 (RG_k (-1) (-1) rfl) g_p2 c_17 (a' := 0) (b' := (-1)) (by decide +kernel)) (by decide +kernel)
        · refine lv_iconst (v := 0) hx hb dX9_takeEither_23 kc_iconst_0 ?_
          have hK9 := hK.sub (tys' := []) [] rfl
          exact W.iret (v := 0) hx hb hr (fun t ht hW => ⟨⟨0, x_5, rfl, (Or.inl ⟨rfl, h_7, (by have := h_8; show h0_f2.toInt + 0 ≤ x_5.toInt; omega)⟩), by rw [ht]; exact hP, va_K.moved hW.alike hK9, hD⟩, hS.F ht⟩) hS.2.2 dX9_takeEither_24
  · refine lv_istore_n (lv' := [(3, .int r_4), (0, .ref h0), (1, .int p1), (2, .int p2)]) hx hb dX9_takeEither_4 rfl hl (Nat.le_of_ble_eq_true rfl) rfl (fun ls hl => ?_)
    refine lv_aload_n hx hb dX9_takeEither_5 rfl (lv_at hl 1 rfl) ?_
    refine va_get (D := (dC, dI)) (ci := 9) (v := .int h0_f3) (C := RX9) (T := TX9) (N := 4) hx hb hts iw_c_X9_takeEither_X9 hown hK hP 0 rfl rfl 3 (by decide +kernel) (hts (.fieldLink RX9 15 "BuoyVote$Tape" "wrong" "I") (List.mem_of_getElem? (i := 9) rfl)) (fun _ h9 => h9) rfl dX9_takeEither_6 ?_
    refine lv_iconst (v := (-1)) hx hb dX9_takeEither_9 kc_iconst_m1 ?_
    refine lv_icmp_ne (tgt := 23) hx hb dX9_takeEither_10 rfl (fun c_18 => ?_) (fun c_18 => ?_)
    · have g_19 : RG h0_f3 0 240 := RG_ne1 g_h0_f3 (q := (-1)) rfl c_18 (by decide +kernel)
      refine lv_iconst (v := 0) hx hb dX9_takeEither_23 kc_iconst_0 ?_
      as_aux_lemma =>
      have hK9 := hK.sub (tys' := []) [] rfl
      exact W.iret (v := 0) hx hb hr (fun t ht hW => ⟨⟨0, x_5, rfl, (Or.inl ⟨rfl, (RG_w h_10 (by decide +kernel)), (by have := h_12; show h0_f2.toInt + 0 ≤ x_5.toInt; omega)⟩), by rw [ht]; exact hP, va_K.moved hW.alike hK9, hD⟩, hS.F ht⟩) hS.2.2 dX9_takeEither_24
    · have g_20 : RG h0_f3 (-1) (-1) := RG_eq1 g_h0_f3 (RG_k (-1) (-1) rfl) c_18 (by decide +kernel)
      refine lv_iload_n hx hb dX9_takeEither_13 rfl (lv_at hl 0 rfl) ?_
      refine lv_iload_n hx hb dX9_takeEither_14 rfl (lv_at hl 2 rfl) ?_
      refine lv_icmp_eq (tgt := 25) hx hb dX9_takeEither_15 rfl (fun c_21 => ?_) (fun c_21 => ?_)
      · have g_22 : RG r_4 0 60 := RG_eq1 h_9 g_p1 c_21 (by decide +kernel)
        exact hU _ _ _ (J25 r_4 x_5 h_11 g_h0_f2 g_20 h_10 g_22 g_p1 g_p2 (by have := h_12; omega) _ _ _ hP hD hS (lv_sub hl [0, 1] rfl))
      · refine lv_iload_n hx hb dX9_takeEither_18 rfl (lv_at hl 0 rfl) ?_
        refine lv_iload_n hx hb dX9_takeEither_19 rfl (lv_at hl 3 rfl) ?_
        refine lv_icmp_eq (tgt := 25) hx hb dX9_takeEither_20 rfl (fun c_23 => ?_) (fun c_23 => ?_)
        · have g_24 : RG r_4 0 60 := RG_eq1 h_9 g_p2 c_23 (by decide +kernel)
          exact hU _ _ _ (J25 r_4 x_5 h_11 g_h0_f2 g_20 h_10 g_24 g_p1 g_p2 (by have := h_12; omega) _ _ _ hP hD hS (lv_sub hl [0, 1] rfl))
        · refine lv_iconst (v := 0) hx hb dX9_takeEither_23 kc_iconst_0 ?_
          have hK9 := hK.sub (tys' := []) [] rfl
          exact W.iret (v := 0) hx hb hr (fun t ht hW => ⟨⟨0, x_5, rfl, (Or.inl ⟨rfl, (RG_w h_10 (by decide +kernel)), (by have := h_12; show h0_f2.toInt + 0 ≤ x_5.toInt; omega)⟩), by rw [ht]; exact hP, va_K.moved hW.alike hK9, hD⟩, hS.F ht⟩) hS.2.2 dX9_takeEither_24
noncomputable def wd_c_X4_readSum_6 (a0 : Nat) (a1 : Nat) (a2 : Int32) (a3 : Int32) (a4 : Int32) (a5 : Nat) (a6 : ClassId) (a7 : Nat → Int32) (a8 : Nat) (a9 : Nat) (a10 : Int32) (a11 : Nat) (a12 : Nat) (a13 : ClassId) (a14 : Nat → Int32) : va_W := [(a0, .inr (9, [.ref a1, .int a2, .int a3, .int a4])), (a5, .inl (a6, 240, .inl a7)), (a8, .inr (4, [.ref a9, .int a10, .ref a11])), (a12, .inl (a13, 240, .inl a14))]
noncomputable def wf_c_X4_readSum_6 : List Cond := List.cons (.code yX4_readSum cX4_readSum 6 none) (@HAppend.hAppend (List Cond) (List Cond) (List Cond) _ (@HAppend.hAppend (List Cond) (List Cond) (List Cond) _ [.methodLink RX4 72 yX9_isRight, .instanceMethod yX9_isRight, .selects RX9 yX9_isRight yX9_isRight, .initialized RX9, .code yX9_isRight cX9_isRight 1 (some .boolean), .fieldLink RX9 15 "BuoyVote$Tape" "wrong" "I", .methodLink RX4 85 yX4_readAtom, .instanceMethod yX4_readAtom, .selects RX4 yX4_readAtom yX4_readAtom, .initialized RX4, .code yX4_readAtom cX4_readAtom 6 none, .methodLink RX4 41 yX9_peek, .instanceMethod yX9_peek, .selects RX9 yX9_peek yX9_peek, .code yX9_peek cX9_peek 1 (some .int), .fieldLink RX9 22 "BuoyVote$Tape" "at" "I", .fieldLink RX9 19 "BuoyVote$Tape" "length" "I", .fieldLink RX9 11 "BuoyVote$Tape" "bytes" "[I", .methodLink RX4 93 yJ0_indexOf_0f7a4, .instanceMethod yJ0_indexOf_0f7a4, .selects RJ0 yJ0_indexOf_0f7a4 yJ0_indexOf_0f7a4, .initialized RJ0, .code yJ0_indexOf_0f7a4 cJ0_indexOf_0f7a4 2 (some .int), .methodLink RJ0 633 yJ0_indexOf_7cf53, .instanceMethod yJ0_indexOf_7cf53, .selects RJ0 yJ0_indexOf_7cf53 yJ0_indexOf_7cf53, .code yJ0_indexOf_7cf53 cJ0_indexOf_7cf53 3 (some .int), .methodLink RJ0 492 yJ0_isLatin1_aae02, .instanceMethod yJ0_isLatin1_aae02, .selects RJ0 yJ0_isLatin1_aae02 yJ0_isLatin1_aae02, .code yJ0_isLatin1_aae02 cJ0_isLatin1_aae02 1 (some .boolean), .fieldLink RJ0 38 "java/lang/String" "COMPACT_STRINGS" "Z", .fieldLink RJ0 15 "java/lang/String" "coder" "B", .fieldLink RJ0 9 "java/lang/String" "value" "[B", .methodLink RJ0 505 yJ0_length_8abf5, .instanceMethod yJ0_length_8abf5, .selects RJ0 yJ0_length_8abf5 yJ0_length_8abf5, .code yJ0_length_8abf5 cJ0_length_8abf5 1 (some .int), .methodLink RJ0 335 yJ0_coder_7d493, .instanceMethod yJ0_coder_7d493, .selects RJ0 yJ0_coder_7d493 yJ0_coder_7d493, .code yJ0_coder_7d493 cJ0_coder_7d493 1 (some .byte), .methodLink RJ0 637 yJ1_indexOf_4cfef, .static yJ1_indexOf_4cfef, .initialized RJ1, .code yJ1_indexOf_4cfef cJ1_indexOf_4cfef 4 (some .int), .methodLink RJ1 88 yJ1_canEncode_9a6ad, .static yJ1_canEncode_9a6ad, .code yJ1_canEncode_9a6ad cJ1_canEncode_9a6ad 1 (some .boolean), .methodLink RJ1 92 Lib.Math.max.name, .static Lib.Math.max.name, .initialized "java/lang/Math", .code Lib.Math.max.name Lib.Math.max.code 2 (some .int), .methodLink RJ1 38 Lib.Math.min.name, .static Lib.Math.min.name, .code Lib.Math.min.name Lib.Math.min.code 2 (some .int), .methodLink RJ1 95 yJ1_indexOfChar_4cfef, .static yJ1_indexOfChar_4cfef, .code yJ1_indexOfChar_4cfef cJ1_indexOfChar_4cfef 6 (some .int), .methodLink RX4 99 yX9_number, .instanceMethod yX9_number, .selects RX9 yX9_number yX9_number, .code yX9_number cX9_number 4 (some .int), .methodLink RX4 82 yX9_refuseHere, .instanceMethod yX9_refuseHere, .selects RX9 yX9_refuseHere yX9_refuseHere, .code yX9_refuseHere cX9_refuseHere 1 none, .methodLink RX9 25 yX9_refuse, .instanceMethod yX9_refuse, .selects RX9 yX9_refuse yX9_refuse, .code yX9_refuse cX9_refuse 2 none, .methodLink RX4 79 yX9_skip, .instanceMethod yX9_skip, .selects RX9 yX9_skip yX9_skip, .code yX9_skip cX9_skip 1 none, .methodLink RX4 60 yX4_emit, .instanceMethod yX4_emit, .selects RX4 yX4_emit yX4_emit, .code yX4_emit cX4_emit 2 none, .fieldLink RX4 20 "BuoyVote$Law" "length" "I", .fieldLink RX4 11 "BuoyVote$Law" "code" "[I", .methodLink RX4 88 yX9_takeEither, .instanceMethod yX9_takeEither, .selects RX9 yX9_takeEither yX9_takeEither, .code yX9_takeEither cX9_takeEither 4 (some .int), .methodLink RX9 29 yX9_peek] wsX90) wsX40)
theorem iw_c_X4_readSum_6_X9 : ∀ w ∈ wsX90, w ∈ wf_c_X4_readSum_6 := fun w h => List.mem_cons_of_mem _ (List.mem_append_left _ (List.mem_append_right _ h))
theorem iw_c_X4_readSum_6_X4 : ∀ w ∈ wsX40, w ∈ wf_c_X4_readSum_6 := fun w h => List.mem_cons_of_mem _ (List.mem_append_right _ h)
set_option maxRecDepth 20000 in
theorem gf_c_X4_readSum_6_c_X9_takeEither : GoodIn wf_c_X4_readSum_6 (wsV RX4 88 RX9 yX9_takeEither wf_c_X9_takeEither) := goodIn_app (gi_l [82, 83, 84, 4] rfl rfl) (gi_cons (j := 85) rfl rfl (goodIn_app (gi_l [86, 13, 14, 4, 15, 16, 17, 18, 6] rfl rfl) (goodIn_sub iw_c_X4_readSum_6_X9 gw_X9)))
set_option maxRecDepth 20000 in
theorem gf_c_X4_readSum_6_c_X4_emit : GoodIn wf_c_X4_readSum_6 (wsV RX4 60 RX4 yX4_emit wf_c_X4_emit) := goodIn_app (gi_l [76, 77, 78, 10] rfl rfl) (gi_cons (j := 79) rfl rfl (goodIn_app (gi_l [80, 81] rfl rfl) (goodIn_sub iw_c_X4_readSum_6_X4 gw_X4)))
set_option maxRecDepth 20000 in
theorem gf_c_X4_readSum_6_c_X9_isRight : GoodIn wf_c_X4_readSum_6 (wsV RX4 72 RX9 yX9_isRight wf_c_X9_isRight) := goodIn_app (gi_l [1, 2, 3, 4] rfl rfl) (gi_cons (j := 5) rfl rfl (goodIn_app (gi_l [6] rfl rfl) (goodIn_sub iw_c_X4_readSum_6_X9 gw_X9)))
set_option maxRecDepth 20000 in
theorem gf_c_X4_readSum_6_c_X4_readAtom_6 : GoodIn wf_c_X4_readSum_6 (wsV RX4 85 RX4 yX4_readAtom wf_c_X4_readAtom_6) := goodIn_app (gi_l [7, 8, 9, 10] rfl rfl) (gi_cons (j := 11) rfl rfl (goodIn_app (goodIn_app (gi_l [12, 13, 14, 4, 15, 16, 17, 18, 19, 20, 21, 22, 23, 24, 25, 26, 27, 28, 29, 30, 31, 32, 33, 34, 35, 36, 37, 38, 39, 40, 41, 42, 43, 44, 45, 46, 47, 48, 49, 50, 51, 52, 53, 54, 55, 56, 57, 58, 59, 60, 61, 62, 63, 64, 65, 66, 67, 68, 69, 70, 71, 6, 72, 73, 74, 75, 76, 77, 78, 10, 79, 80, 81] rfl rfl) (goodIn_sub iw_c_X4_readSum_6_X9 gw_X9)) (goodIn_sub iw_c_X4_readSum_6_X4 gw_X4)))
set_option maxHeartbeats 4000000 in
set_option maxRecDepth 100000 in
theorem c_X4_readSum_6 (l : Launch) (dC : Nat → ClassId) (dI : Nat → Nat → Nat) (sz : Nat) (h0 : Nat) (h1 : Nat) (h1_0 : Nat) (h1_f1 : Int32) (h1_f2 : Int32) (h1_f3 : Int32) (h1_0k : ClassId) (h1_0c : Nat → Int32) (h0_0 : Nat) (h0_f1 : Int32) (h0_2 : Nat) (h0_0k : ClassId) (h0_0c : Nat → Int32) (ts4 : Nat) (tv4 : Nat) (g_h1_f1 : RG h1_f1 0 240) (g_h1_f2 : RG h1_f2 0 240) (g_h1_f3 : RG h1_f3 (-1) 240) (a_h1_0c : AI h1_0c 0 255) (g_h0_f1 : RG h0_f1 0 240) : Met l yX4_readSum wf_c_X4_readSum_6 ({ frames := 5, cells := 0, slots := 0, locals := 116 }) (va_Pc [.ref h0, .ref h1, .int 6] (fun U => U.heap.size = sz ∧ va_P (dC, dI) vwCl (wd_c_X4_readSum_6 h1 h1_0 h1_f1 h1_f2 h1_f3 h1_0 h1_0k h1_0c h0 h0_0 h0_f1 h0_2 h0_0 h0_0k h0_0c) U.heap ∧ va_K (dC, dI) vwCl [(h1_0k, .int), (h0_0k, .int)] U ∧ va_D (fun _ => True) (wd_c_X4_readSum_6 h1 h1_0 h1_f1 h1_f2 h1_f3 h1_0 h1_0k h1_0c h0 h0_0 h0_f1 h0_2 h0_0 h0_0k h0_0c) ∧ vk_R RX4 91 "vlrdph" ts4 U ∧ va_Z "java/lang/String" "COMPACT_STRINGS" "Z" (.int 1) (va_A (wd_c_X4_readSum_6 h1 h1_0 h1_f1 h1_f2 h1_f3 h1_0 h1_0k h1_0c h0 h0_0 h0_f1 h0_2 h0_0 h0_0k h0_0c) sz) U U.heap ∧ va_OF "java/lang/String" "coder" "B" (.int 0) ts4 (va_A (wd_c_X4_readSum_6 h1 h1_0 h1_f1 h1_f2 h1_f3 h1_0 h1_0k h1_0c h0 h0_0 h0_f1 h0_2 h0_0 h0_0k h0_0c) sz) U U.heap ∧ va_O "java/lang/String" ts4 (va_A (wd_c_X4_readSum_6 h1 h1_0 h1_f1 h1_f2 h1_f3 h1_0 h1_0k h1_0c h0 h0_0 h0_f1 h0_2 h0_0 h0_0k h0_0c) sz) U U.heap ∧ va_OF "java/lang/String" "value" "[B" (.ref tv4) ts4 (va_A (wd_c_X4_readSum_6 h1 h1_0 h1_f1 h1_f2 h1_f3 h1_0 h1_0k h1_0c h0 h0_0 h0_f1 h0_2 h0_0 h0_0k h0_0c) sz) U U.heap ∧ va_T .byte tv4 6 (fun j => .int ([118, 108, 114, 100, 112, 104].getD j 0)) (va_A (wd_c_X4_readSum_6 h1 h1_0 h1_f1 h1_f2 h1_f3 h1_0 h1_0k h1_0c h0 h0_0 h0_f1 h0_2 h0_0 h0_0k h0_0c) sz) U U.heap)) (va_Qv (fun (u : (Int32) × (Int32) × (Int32) × (Nat → Int32)) => (RG u.1 0 240 ∧ RG u.2.1 (-1) 240 ∧ RG u.2.2.1 0 240)) (fun (u : (Int32) × (Int32) × (Int32) × (Nat → Int32)) t => va_P (dC, dI) vwCl (wd_c_X4_readSum_6 h1 h1_0 h1_f1 (u.1) (u.2.1) h1_0 h1_0k h1_0c h0 h0_0 (u.2.2.1) h0_2 h0_0 h0_0k (u.2.2.2)) t.heap ∧ va_K (dC, dI) vwCl [] t ∧ va_D (va_A (wd_c_X4_readSum_6 h1 h1_0 h1_f1 h1_f2 h1_f3 h1_0 h1_0k h1_0c h0 h0_0 h0_f1 h0_2 h0_0 h0_0k h0_0c) sz) (wd_c_X4_readSum_6 h1 h1_0 h1_f1 (u.1) (u.2.1) h1_0 h1_0k h1_0c h0 h0_0 (u.2.2.1) h0_2 h0_0 h0_0k (u.2.2.2))) (va_A (wd_c_X4_readSum_6 h1 h1_0 h1_f1 h1_f2 h1_f3 h1_0 h1_0k h1_0c h0 h0_0 h0_f1 h0_2 h0_0 h0_0k h0_0c) sz)) 0 0 (va_A (wd_c_X4_readSum_6 h1 h1_0 h1_f1 h1_f2 h1_f3 h1_0 h1_0k h1_0c h0 h0_0 h0_f1 h0_2 h0_0 h0_0k h0_0c) sz) := by
  refine Met.ofW (cc := cX4_readSum) (maxL := 6) (ret := none) (by decide +kernel) rfl ?_
  intro p e s m args below meth c s₁ B hml hv
  obtain ⟨rfl, hsz, hP, hK, hD0, hE_32, hE_10, hE_34, hE_33, hE_35, hE_36⟩ := hv
  have hx := B.exec
  have hb := B.bytes
  have hr := B.returns
  have hts := atoms_spec (ws := wf_c_X4_readSum_6) B.pre
  have hown : s.vm.findClass RX4 = some m.cls := findClass_of_methodNamed B.named
  have hlocks := B.notSynchronized
  subst hsz
  have hD := hD0.self (sz := s.heap.size)
  generalize hAe : va_A (wd_c_X4_readSum_6 h1 h1_0 h1_f1 h1_f2 h1_f3 h1_0 h1_0k h1_0c h0 h0_0 h0_f1 h0_2 h0_0 h0_0k h0_0c) s.heap.size = A at hD hE_10 hE_34 hE_33 hE_35 hE_36 ⊢
  have hA : ∀ q : Nat, s.heap.size ≤ q → A q := fun q h => by rw [← hAe]; exact Or.inr h
  have hP : va_P (dC, dI) vwCl (wd_c_X4_readSum_6 h1 h1_0 h1_f1 h1_f2 h1_f3 h1_0 h1_0k h1_0c h0 h0_0 h0_f1 h0_2 h0_0 h0_0k h0_0c) s.heap := hP
  have hl := lv_entry ([.ref h0, .ref h1, .int 6]) (n := 6) (Nat.le_of_ble_eq_true rfl)
  rw [lg_entry_eq]
  generalize (lg_sl ([.ref h0, .ref h1, .int 6]) ++ List.replicate (6 - (lg_sl ([.ref h0, .ref h1, .int 6])).length) Slot.unset).toArray = ls at hl ⊢
  have hl : lv_has ls 6 [(0, .ref h0), (1, .ref h1), (2, .int 6)] := hl
  obtain ⟨H, hHe⟩ : ∃ H : Heap, s.heap = H := ⟨_, rfl⟩
  have hS : va_S A s.heap H [] := by rw [hHe]; exact va_S.rf
  have hP : va_P (dC, dI) vwCl (wd_c_X4_readSum_6 h1 h1_0 h1_f1 h1_f2 h1_f3 h1_0 h1_0k h1_0c h0 h0_0 h0_f1 h0_2 h0_0 h0_0k h0_0c) H := by rw [← hHe]; exact hP
  rw [hHe]
  refine wj (fun G hG hU => ?_)
  as_aux_lemma =>
  have J8 : ∀ (n8 : Nat) (j8_l5 : Int32) (j8_l4 : Int32) (j8_l3 : Int32) (j8_h1_f2 : Int32) (j8_h1_f3 : Int32) (j8_h0_f1 : Int32) (j8_h0_0c : Nat → Int32) (hM8 : MU j8_l5 < n8) (g_h0_f1 : RG h0_f1 0 240) (g_h1_f1 : RG h1_f1 0 240) (g_h1_f2 : RG h1_f2 0 240) (g_h1_f3 : RG h1_f3 (-1) 240) (g_j8_h0_f1 : RG j8_h0_f1 0 240) (g_j8_h1_f2 : RG j8_h1_f2 0 240) (g_j8_h1_f3 : RG j8_h1_f3 (-1) 240) (g_j8_l3 : RG j8_l3 0 60) (g_j8_l4 : RG j8_l4 0 60) (g_j8_l5 : RG j8_l5 0 240) (H : Heap) (locs : List Loc) (ls : Array Slot) (hP : va_P (dC, dI) vwCl (wd_c_X4_readSum_6 h1 h1_0 h1_f1 j8_h1_f2 j8_h1_f3 h1_0 h1_0k h1_0c h0 h0_0 j8_h0_f1 h0_2 h0_0 h0_0k j8_h0_0c) H) (hD : va_D A (wd_c_X4_readSum_6 h1 h1_0 h1_f1 j8_h1_f2 j8_h1_f3 h1_0 h1_0k h1_0c h0 h0_0 j8_h0_f1 h0_2 h0_0 h0_0k j8_h0_0c)) (hS : va_S A s.heap H locs) (hl : lv_has ls 6 [(5, .int j8_l5), (4, .int j8_l4), (3, .int j8_l3), (0, .ref h0), (1, .ref h1), (2, .int 6)]), G H locs (F0 m 8 ls []) := by
    as_aux_lemma =>
    intro n8
    induction n8 with
    | zero => intros; exact absurd (by assumption) (Nat.not_lt_zero _)
    | succ n8 ih8 =>
      intro j8_l5 j8_l4 j8_l3 j8_h1_f2 j8_h1_f3 j8_h0_f1 j8_h0_0c hM8 g_h0_f1 g_h1_f1 g_h1_f2 g_h1_f3 g_j8_h0_f1 g_j8_h1_f2 g_j8_h1_f3 g_j8_l3 g_j8_l4 g_j8_l5 H locs ls hP hD hS hl
      have J80 : ∀ (j80_l3 : Int32) (j80_l4 : Int32) (j80_h1_f2 : Int32) (j80_h1_f3 : Int32) (j80_h0_f1 : Int32) (j80_h0_0c : Nat → Int32) (g_h0_f1 : RG h0_f1 0 240) (g_h1_f1 : RG h1_f1 1 240) (g_h1_f2 : RG h1_f2 0 240) (g_h1_f3 : RG h1_f3 (-1) 240) (g_j80_h0_f1 : RG j80_h0_f1 0 240) (g_j80_h1_f2 : RG j80_h1_f2 1 240) (g_j80_h1_f3 : RG j80_h1_f3 (-1) (-1)) (g_j80_l3 : RG j80_l3 0 60) (g_j80_l4 : RG j80_l4 0 60) (g_j8_h0_f1 : RG j8_h0_f1 0 240) (g_j8_h1_f2 : RG j8_h1_f2 0 240) (g_j8_h1_f3 : RG j8_h1_f3 (-1) (-1)) (g_j8_l3 : RG j8_l3 0 60) (g_j8_l4 : RG j8_l4 0 60) (g_j8_l5 : RG j8_l5 0 239) (H : Heap) (locs : List Loc) (ls : Array Slot) (hP : va_P (dC, dI) vwCl (wd_c_X4_readSum_6 h1 h1_0 h1_f1 j80_h1_f2 j80_h1_f3 h1_0 h1_0k h1_0c h0 h0_0 j80_h0_f1 h0_2 h0_0 h0_0k j80_h0_0c) H) (hD : va_D A (wd_c_X4_readSum_6 h1 h1_0 h1_f1 j80_h1_f2 j80_h1_f3 h1_0 h1_0k h1_0c h0 h0_0 j80_h0_f1 h0_2 h0_0 h0_0k j80_h0_0c)) (hS : va_S A s.heap H locs) (hl : lv_has ls 6 [(3, .int j80_l3), (5, .int j8_l5), (4, .int j80_l4), (0, .ref h0), (1, .ref h1), (2, .int 6)]), G H locs (F0 m 80 ls []) := by
        as_aux_lemma =>
        intro j80_l3 j80_l4 j80_h1_f2 j80_h1_f3 j80_h0_f1 j80_h0_0c g_h0_f1 g_h1_f1 g_h1_f2 g_h1_f3 g_j80_h0_f1 g_j80_h1_f2 g_j80_h1_f3 g_j80_l3 g_j80_l4 g_j8_h0_f1 g_j8_h1_f2 g_j8_h1_f3 g_j8_l3 g_j8_l4 g_j8_l5 H locs ls hP hD hS hl
        refine hG _ _ _ ?_
        obtain ⟨x_1, ex_1⟩ : ∃ y : Int32, y = j8_l5 + 1 := ⟨_, rfl⟩
        have g_2 : RG x_1 1 240 := RG_add ex_1 g_j8_l5 (RG_k 1 1 rfl) (by decide +kernel)
        refine lv_iinc (v := x_1) (lv' := [(5, .int x_1), (3, .int j80_l3), (4, .int j80_l4), (0, .ref h0), (1, .ref h1), (2, .int 6)]) hx hb dX4_readSum_80 hl (k := 1) rfl (by rw [ex_1]; rfl) (Nat.le_of_ble_eq_true rfl) rfl (fun ls hl => ?_)
        refine lv_goto (tgt := 8) hx hb dX4_readSum_83 rfl ?_
        exact hU _ _ _ (ih8 x_1 j80_l4 j80_l3 j80_h1_f2 j80_h1_f3 j80_h0_f1 j80_h0_0c (mu_s (MU_add ex_1 g_j8_l5 (q := 1) rfl (by decide +kernel)) hM8) g_h0_f1 (RG_w g_h1_f1 (by decide +kernel)) g_h1_f2 g_h1_f3 g_j80_h0_f1 (RG_w g_j80_h1_f2 (by decide +kernel)) (RG_w g_j80_h1_f3 (by decide +kernel)) g_j80_l3 g_j80_l4 (RG_w g_2 (by decide +kernel)) _ _ _ hP hD hS (lv_sub hl [0, 2, 1, 3, 4, 5] rfl))
      have J64 : ∀ (j64_l3 : Int32) (j64_h1_f2 : Int32) (j64_h1_f3 : Int32) (j64_h0_f1 : Int32) (j64_h0_0c : Nat → Int32) (g_h0_f1 : RG h0_f1 0 240) (g_h1_f1 : RG h1_f1 0 240) (g_h1_f2 : RG h1_f2 0 240) (g_h1_f3 : RG h1_f3 (-1) 240) (g_j64_h0_f1 : RG j64_h0_f1 0 240) (g_j64_h1_f2 : RG j64_h1_f2 0 240) (g_j64_h1_f3 : RG j64_h1_f3 (-1) 240) (g_j64_l3 : RG j64_l3 0 0) (g_j8_h0_f1 : RG j8_h0_f1 0 240) (g_j8_h1_f2 : RG j8_h1_f2 0 240) (g_j8_h1_f3 : RG j8_h1_f3 (-1) (-1)) (g_j8_l3 : RG j8_l3 0 60) (g_j8_l4 : RG j8_l4 0 60) (g_j8_l5 : RG j8_l5 0 239) (H : Heap) (locs : List Loc) (ls : Array Slot) (hP : va_P (dC, dI) vwCl (wd_c_X4_readSum_6 h1 h1_0 h1_f1 j64_h1_f2 j64_h1_f3 h1_0 h1_0k h1_0c h0 h0_0 j64_h0_f1 h0_2 h0_0 h0_0k j64_h0_0c) H) (hD : va_D A (wd_c_X4_readSum_6 h1 h1_0 h1_f1 j64_h1_f2 j64_h1_f3 h1_0 h1_0k h1_0c h0 h0_0 j64_h0_f1 h0_2 h0_0 h0_0k j64_h0_0c)) (hS : va_S A s.heap H locs) (hl : lv_has ls 6 [(3, .int j64_l3), (5, .int j8_l5), (0, .ref h0), (1, .ref h1), (2, .int 6)]), G H locs (F0 m 64 ls []) := by
        as_aux_lemma =>
        intro j64_l3 j64_h1_f2 j64_h1_f3 j64_h0_f1 j64_h0_0c g_h0_f1 g_h1_f1 g_h1_f2 g_h1_f3 g_j64_h0_f1 g_j64_h1_f2 g_j64_h1_f3 g_j64_l3 g_j8_h0_f1 g_j8_h1_f2 g_j8_h1_f3 g_j8_l3 g_j8_l4 g_j8_l5 H locs ls hP hD hS hl
        refine hG _ _ _ ?_
        refine lv_aload_n hx hb dX4_readSum_64 rfl (lv_at hl 3 rfl) ?_
        refine lv_bipush (v := 43) hx hb dX4_readSum_65 kc_bipush_43 ?_
        refine lv_bipush (v := 45) hx hb dX4_readSum_67 kc_bipush_45 ?_
        obtain ⟨hPc, hDc, hFc, hqc⟩ := cl_cut (wc := (wd_c_X9_takeEither h1 h1_0 h1_f1 j64_h1_f2 j64_h1_f3 h1_0 h1_0k h1_0c)) hP hD hS hA [0, 1] (by decide +kernel) rfl
        have hKc := hK.sub (tys' := [(h1_0k, .int)]) [0] rfl
        have hrv := va_recv hKc hPc (ci := 9) (q0 := 0) rfl rfl
        refine va_calli (va_runV (As := [.int 43, .int 45]) (rest := []) ⟨hx, hb, hml, hown, hts⟩ (c_X9_takeEither l dC dI H.size h1 43 45 h1_0 h1_f1 j64_h1_f2 j64_h1_f3 h1_0k h1_0c (RG_w (RG_k 43 43 rfl) (by decide +kernel)) (RG_w (RG_k 45 45 rfl) (by decide +kernel)) g_h1_f1 g_j64_h1_f2 g_j64_h1_f3 a_h1_0c) (cwV 2 hts gf_c_X4_readSum_6_c_X9_takeEither rfl rfl rfl mdV_X9_takeEither ⟨Nat.le_of_ble_eq_true rfl, Nat.le_of_ble_eq_true rfl⟩) ⟨fun a U g mk q => by obtain ⟨q0, q1, qP, qK, qD⟩ := q; exact ⟨q0, q1, qP, va_K.moved (u := U) (U := U.calling g mk a) (Vm.Alike.refl U.vm) qK, qD⟩, hrv, fun U hU hW => ⟨rfl, by rw [hU], by rw [hU]; exact hPc, va_K.moved hW.alike hKc, hDc.weaken (fun _ _ _ _ => trivial)⟩⟩ rfl rfl hl.1 rfl (lv_room (Nat.le_of_ble_eq_true rfl)) dX4_readSum_69 ⟨Nat.le_of_ble_eq_true rfl, Nat.le_of_ble_eq_true rfl⟩) hS (fun q _ h => hFc q h) hFc (fun r_3 x_4 t H1 locs ht hvm hw hB hz1 hk1 hS => ?_)
        obtain ⟨hP1, hK1, hD1⟩ := hB
        rw [ht] at hP1
        obtain ⟨hP, hD⟩ := cl_put (w1 := (wd_c_X9_takeEither h1 h1_0 h1_f1 x_4 j64_h1_f3 h1_0 h1_0k h1_0c)) (nw := (wd_c_X4_readSum_6 h1 h1_0 h1_f1 x_4 j64_h1_f3 h1_0 h1_0k h1_0c h0 h0_0 j64_h0_f1 h0_2 h0_0 h0_0k j64_h0_0c)) hP hD [0, 1] [4, 5, 2, 3] 4 rfl hqc (by decide +kernel) rfl hk1 hFc hP1 hD1
        generalize H1 = H at hP hS ⊢
        as_aux_lemma =>
        rcases hw with ⟨h_5, h_6, h_7⟩ | ⟨h_8, h_9, h_10, h_11, h_12⟩
        · rw [h_5]
          refine lv_istore (lv' := [(4, .int 0), (3, .int j64_l3), (5, .int j8_l5), (0, .ref h0), (1, .ref h1), (2, .int 6)]) hx hb dX4_readSum_72 hl (Nat.le_of_ble_eq_true rfl) rfl (fun ls hl => ?_)
          refine lv_iload hx hb dX4_readSum_74 (lv_at hl 0 rfl) ?_
          refine lv_if_ne (tgt := 80) hx hb dX4_readSum_76 rfl (fun c_13 => absurd c_13 (by decide +kernel)) (fun c_13 => ?_)
          have hK9 := hK.sub (tys' := []) [] rfl
          exact W.vret hx hb hr (fun t ht hW => ⟨⟨(x_4, j64_h1_f3, j64_h0_f1, j64_h0_0c), rfl, ⟨h_6, g_j64_h1_f3, g_j64_h0_f1⟩, by rw [ht]; exact hP, va_K.moved hW.alike hK9, hD⟩, hS.F ht⟩) hS.2.2 dX4_readSum_79
        · refine lv_istore (lv' := [(4, .int r_3), (3, .int j64_l3), (5, .int j8_l5), (0, .ref h0), (1, .ref h1), (2, .int 6)]) hx hb dX4_readSum_72 hl (Nat.le_of_ble_eq_true rfl) rfl (fun ls hl => ?_)
          refine lv_iload hx hb dX4_readSum_74 (lv_at hl 0 rfl) ?_
          refine lv_if_ne (tgt := 80) hx hb dX4_readSum_76 rfl (fun c_14 => ?_) (fun c_14 => ?_)
          · have g_15 : RG r_3 1 60 := RG_ne1 h_8 (q := 0) rfl c_14 (by decide +kernel)
            exact hU _ _ _ (J80 j64_l3 r_3 x_4 j64_h1_f3 j64_h0_f1 j64_h0_0c g_h0_f1 h_10 g_h1_f2 g_h1_f3 g_j64_h0_f1 h_9 h_11 (RG_w g_j64_l3 (by decide +kernel)) (RG_w g_15 (by decide +kernel)) g_j8_h0_f1 g_j8_h1_f2 g_j8_h1_f3 g_j8_l3 g_j8_l4 g_j8_l5 _ _ _ hP hD hS (lv_sub hl [1, 2, 0, 3, 4, 5] rfl))
          · have g_16 : RG r_3 0 0 := RG_eq1 h_8 (RG_k 0 0 rfl) c_14 (by decide +kernel)
            have hK9 := hK.sub (tys' := []) [] rfl
            exact W.vret hx hb hr (fun t ht hW => ⟨⟨(x_4, j64_h1_f3, j64_h0_f1, j64_h0_0c), rfl, ⟨(RG_w h_9 (by decide +kernel)), (RG_w h_11 (by decide +kernel)), g_j64_h0_f1⟩, by rw [ht]; exact hP, va_K.moved hW.alike hK9, hD⟩, hS.F ht⟩) hS.2.2 dX4_readSum_79
      have J39 : ∀ (j39_h1_f2 : Int32) (j39_h1_f3 : Int32) (j39_h0_f1 : Int32) (j39_h0_0c : Nat → Int32) (g_h0_f1 : RG h0_f1 0 240) (g_h1_f1 : RG h1_f1 0 240) (g_h1_f2 : RG h1_f2 0 240) (g_h1_f3 : RG h1_f3 (-1) 240) (g_j39_h0_f1 : RG j39_h0_f1 0 240) (g_j39_h1_f2 : RG j39_h1_f2 0 240) (g_j39_h1_f3 : RG j39_h1_f3 (-1) 240) (g_j8_h0_f1 : RG j8_h0_f1 0 240) (g_j8_h1_f2 : RG j8_h1_f2 0 240) (g_j8_h1_f3 : RG j8_h1_f3 (-1) (-1)) (g_j8_l3 : RG j8_l3 0 60) (g_j8_l4 : RG j8_l4 0 60) (g_j8_l5 : RG j8_l5 0 239) (H : Heap) (locs : List Loc) (ls : Array Slot) (hP : va_P (dC, dI) vwCl (wd_c_X4_readSum_6 h1 h1_0 h1_f1 j39_h1_f2 j39_h1_f3 h1_0 h1_0k h1_0c h0 h0_0 j39_h0_f1 h0_2 h0_0 h0_0k j39_h0_0c) H) (hD : va_D A (wd_c_X4_readSum_6 h1 h1_0 h1_f1 j39_h1_f2 j39_h1_f3 h1_0 h1_0k h1_0c h0 h0_0 j39_h0_f1 h0_2 h0_0 h0_0k j39_h0_0c)) (hS : va_S A s.heap H locs) (hl : lv_has ls 6 [(5, .int j8_l5), (4, .int j8_l4), (0, .ref h0), (1, .ref h1), (2, .int 6)]), G H locs (F0 m 39 ls []) := by
        as_aux_lemma =>
        intro j39_h1_f2 j39_h1_f3 j39_h0_f1 j39_h0_0c g_h0_f1 g_h1_f1 g_h1_f2 g_h1_f3 g_j39_h0_f1 g_j39_h1_f2 g_j39_h1_f3 g_j8_h0_f1 g_j8_h1_f2 g_j8_h1_f3 g_j8_l3 g_j8_l4 g_j8_l5 H locs ls hP hD hS hl
        refine hG _ _ _ ?_
        refine lv_aload_n hx hb dX4_readSum_39 rfl (lv_at hl 3 rfl) ?_
        refine lv_bipush (v := 42) hx hb dX4_readSum_40 kc_bipush_42 ?_
        refine lv_bipush (v := 47) hx hb dX4_readSum_42 kc_bipush_47 ?_
        obtain ⟨hPc, hDc, hFc, hqc⟩ := cl_cut (wc := (wd_c_X9_takeEither h1 h1_0 h1_f1 j39_h1_f2 j39_h1_f3 h1_0 h1_0k h1_0c)) hP hD hS hA [0, 1] (by decide +kernel) rfl
        have hKc := hK.sub (tys' := [(h1_0k, .int)]) [0] rfl
        have hrv := va_recv hKc hPc (ci := 9) (q0 := 0) rfl rfl
        refine va_calli (va_runV (As := [.int 42, .int 47]) (rest := []) ⟨hx, hb, hml, hown, hts⟩ (c_X9_takeEither l dC dI H.size h1 42 47 h1_0 h1_f1 j39_h1_f2 j39_h1_f3 h1_0k h1_0c (RG_w (RG_k 42 42 rfl) (by decide +kernel)) (RG_w (RG_k 47 47 rfl) (by decide +kernel)) g_h1_f1 g_j39_h1_f2 g_j39_h1_f3 a_h1_0c) (cwV 2 hts gf_c_X4_readSum_6_c_X9_takeEither rfl rfl rfl mdV_X9_takeEither ⟨Nat.le_of_ble_eq_true rfl, Nat.le_of_ble_eq_true rfl⟩) ⟨fun a U g mk q => by obtain ⟨q0, q1, qP, qK, qD⟩ := q; exact ⟨q0, q1, qP, va_K.moved (u := U) (U := U.calling g mk a) (Vm.Alike.refl U.vm) qK, qD⟩, hrv, fun U hU hW => ⟨rfl, by rw [hU], by rw [hU]; exact hPc, va_K.moved hW.alike hKc, hDc.weaken (fun _ _ _ _ => trivial)⟩⟩ rfl rfl hl.1 rfl (lv_room (Nat.le_of_ble_eq_true rfl)) dX4_readSum_44 ⟨Nat.le_of_ble_eq_true rfl, Nat.le_of_ble_eq_true rfl⟩) hS (fun q _ h => hFc q h) hFc (fun r_17 x_18 t H1 locs ht hvm hw hB hz1 hk1 hS => ?_)
        obtain ⟨hP1, hK1, hD1⟩ := hB
        rw [ht] at hP1
        obtain ⟨hP, hD⟩ := cl_put (w1 := (wd_c_X9_takeEither h1 h1_0 h1_f1 x_18 j39_h1_f3 h1_0 h1_0k h1_0c)) (nw := (wd_c_X4_readSum_6 h1 h1_0 h1_f1 x_18 j39_h1_f3 h1_0 h1_0k h1_0c h0 h0_0 j39_h0_f1 h0_2 h0_0 h0_0k j39_h0_0c)) hP hD [0, 1] [4, 5, 2, 3] 4 rfl hqc (by decide +kernel) rfl hk1 hFc hP1 hD1
        generalize H1 = H at hP hS ⊢
        as_aux_lemma =>
        rcases hw with ⟨h_19, h_20, h_21⟩ | ⟨h_22, h_23, h_24, h_25, h_26⟩
        · rw [h_19]
          refine lv_istore_n (lv' := [(3, .int 0), (5, .int j8_l5), (4, .int j8_l4), (0, .ref h0), (1, .ref h1), (2, .int 6)]) hx hb dX4_readSum_47 rfl hl (Nat.le_of_ble_eq_true rfl) rfl (fun ls hl => ?_)
          refine lv_iload_n hx hb dX4_readSum_48 rfl (lv_at hl 0 rfl) ?_
          refine lv_if_ne (tgt := 80) hx hb dX4_readSum_49 rfl (fun c_27 => absurd c_27 (by decide +kernel)) (fun c_27 => ?_)
          refine lv_iload hx hb dX4_readSum_52 (lv_at hl 2 rfl) ?_
          refine lv_if_eq (tgt := 64) hx hb dX4_readSum_54 rfl (fun c_28 => ?_) (fun c_28 => ?_)
          · have g_29 : RG j8_l4 0 0 := RG_eq1 g_j8_l4 (RG_k 0 0 rfl) c_28 (by decide +kernel)
            exact hU _ _ _ (J64 0 x_18 j39_h1_f3 j39_h0_f1 j39_h0_0c g_h0_f1 g_h1_f1 g_h1_f2 g_h1_f3 g_j39_h0_f1 h_20 g_j39_h1_f3 (RG_k 0 0 rfl) g_j8_h0_f1 g_j8_h1_f2 g_j8_h1_f3 g_j8_l3 (RG_w g_29 (by decide +kernel)) g_j8_l5 _ _ _ hP hD hS (lv_sub hl [0, 1, 3, 4, 5] rfl))
          · have g_30 : RG j8_l4 1 60 := RG_ne1 g_j8_l4 (q := 0) rfl c_28 (by decide +kernel)
            refine lv_aload_n hx hb dX4_readSum_57 rfl (lv_at hl 3 rfl) ?_
            refine lv_iload hx hb dX4_readSum_58 (lv_at hl 2 rfl) ?_
            refine lv_ineg hx hb dX4_readSum_60 ?_
            refine lv_topi (fun x_31 ex_31 => ?_)
            as_aux_lemma =>
            have g_32 : RG x_31 (-60) (-1) := RG_neg ex_31 g_30 (by decide +kernel)
            obtain ⟨hPc, hDc, hFc, hqc⟩ := cl_cut (wc := (wd_c_X4_emit h0 h0_0 j39_h0_f1 h0_2 h0_0 h0_0k j39_h0_0c)) hP hD hS hA [2, 3] (by decide +kernel) rfl
            have hKc := hK.sub (tys' := [(h0_0k, .int)]) [1] rfl
            have hrv := va_recv hKc hPc (ci := 4) (q0 := 0) rfl rfl
            refine va_callv (va_runV (As := [.int x_31]) (rest := []) ⟨hx, hb, hml, hown, hts⟩ (c_X4_emit l dC dI H.size h0 x_31 h0_0 j39_h0_f1 h0_2 h0_0k j39_h0_0c g_j39_h0_f1) (cwV 1 hts gf_c_X4_readSum_6_c_X4_emit rfl rfl rfl mdV_X4_emit ⟨Nat.le_of_ble_eq_true rfl, Nat.le_of_ble_eq_true rfl⟩) ⟨fun a U g mk q => by obtain ⟨q0, q1, qP, qK, qD⟩ := q; exact ⟨q0, q1, qP, va_K.moved (u := U) (U := U.calling g mk a) (Vm.Alike.refl U.vm) qK, qD⟩, hrv, fun U hU hW => ⟨rfl, by rw [hU], by rw [hU]; exact hPc, va_K.moved hW.alike hKc, hDc.weaken (fun _ _ _ _ => trivial)⟩⟩ rfl rfl hl.1 rfl (lv_room (Nat.le_of_ble_eq_true rfl)) dX4_readSum_61 ⟨Nat.le_of_ble_eq_true rfl, Nat.le_of_ble_eq_true rfl⟩) hS (fun q _ h => hFc q h) hFc (fun u t H1 locs ht hvm hw hB hz1 hk1 hS => ?_)
            obtain ⟨x_34, w_35⟩ := u
            obtain ⟨hP1, hK1, hD1⟩ := hB
            rw [ht] at hP1
            obtain ⟨hP, hD⟩ := cl_put (w1 := (wd_c_X4_emit h0 h0_0 x_34 h0_2 h0_0 h0_0k w_35)) (nw := (wd_c_X4_readSum_6 h1 h1_0 h1_f1 x_18 j39_h1_f3 h1_0 h1_0k h1_0c h0 h0_0 x_34 h0_2 h0_0 h0_0k w_35)) hP hD [2, 3] [0, 1, 4, 5] 4 rfl hqc (by decide +kernel) rfl hk1 hFc hP1 hD1
            generalize H1 = H at hP hS ⊢
            as_aux_lemma =>
            have h_36 := hw
            exact hU _ _ _ (J64 0 x_18 j39_h1_f3 x_34 w_35 g_h0_f1 g_h1_f1 g_h1_f2 g_h1_f3 (RG_w h_36 (by decide +kernel)) h_20 g_j39_h1_f3 (RG_k 0 0 rfl) g_j8_h0_f1 g_j8_h1_f2 g_j8_h1_f3 g_j8_l3 (RG_w g_30 (by decide +kernel)) g_j8_l5 _ _ _ hP hD hS (lv_sub hl [0, 1, 3, 4, 5] rfl))
        · refine lv_istore_n (lv' := [(3, .int r_17), (5, .int j8_l5), (4, .int j8_l4), (0, .ref h0), (1, .ref h1), (2, .int 6)]) hx hb dX4_readSum_47 rfl hl (Nat.le_of_ble_eq_true rfl) rfl (fun ls hl => ?_)
          refine lv_iload_n hx hb dX4_readSum_48 rfl (lv_at hl 0 rfl) ?_
          refine lv_if_ne (tgt := 80) hx hb dX4_readSum_49 rfl (fun c_37 => ?_) (fun c_37 => ?_)
          · have g_38 : RG r_17 1 60 := RG_ne1 h_22 (q := 0) rfl c_37 (by decide +kernel)
            exact hU _ _ _ (J80 r_17 j8_l4 x_18 j39_h1_f3 j39_h0_f1 j39_h0_0c g_h0_f1 h_24 g_h1_f2 g_h1_f3 g_j39_h0_f1 h_23 h_25 (RG_w g_38 (by decide +kernel)) g_j8_l4 g_j8_h0_f1 g_j8_h1_f2 g_j8_h1_f3 g_j8_l3 g_j8_l4 g_j8_l5 _ _ _ hP hD hS (lv_sub hl [0, 1, 2, 3, 4, 5] rfl))
          · have g_39 : RG r_17 0 0 := RG_eq1 h_22 (RG_k 0 0 rfl) c_37 (by decide +kernel)
            refine lv_iload hx hb dX4_readSum_52 (lv_at hl 2 rfl) ?_
            refine lv_if_eq (tgt := 64) hx hb dX4_readSum_54 rfl (fun c_40 => ?_) (fun c_40 => ?_)
            · have g_41 : RG j8_l4 0 0 := RG_eq1 g_j8_l4 (RG_k 0 0 rfl) c_40 (by decide +kernel)
              exact hU _ _ _ (J64 r_17 x_18 j39_h1_f3 j39_h0_f1 j39_h0_0c g_h0_f1 (RG_w h_24 (by decide +kernel)) g_h1_f2 g_h1_f3 g_j39_h0_f1 (RG_w h_23 (by decide +kernel)) (RG_w h_25 (by decide +kernel)) g_39 g_j8_h0_f1 g_j8_h1_f2 g_j8_h1_f3 g_j8_l3 (RG_w g_41 (by decide +kernel)) g_j8_l5 _ _ _ hP hD hS (lv_sub hl [0, 1, 3, 4, 5] rfl))
            · have g_42 : RG j8_l4 1 60 := RG_ne1 g_j8_l4 (q := 0) rfl c_40 (by decide +kernel)
              refine lv_aload_n hx hb dX4_readSum_57 rfl (lv_at hl 3 rfl) ?_
              as_aux_lemma =>
              refine lv_iload hx hb dX4_readSum_58 (lv_at hl 2 rfl) ?_
              refine lv_ineg hx hb dX4_readSum_60 ?_
              refine lv_topi (fun x_43 ex_43 => ?_)
              have g_44 : RG x_43 (-60) (-1) := RG_neg ex_43 g_42 (by decide +kernel)
              obtain ⟨hPc, hDc, hFc, hqc⟩ := cl_cut (wc := (wd_c_X4_emit h0 h0_0 j39_h0_f1 h0_2 h0_0 h0_0k j39_h0_0c)) hP hD hS hA [2, 3] (by decide +kernel) rfl
              have hKc := hK.sub (tys' := [(h0_0k, .int)]) [1] rfl
              have hrv := va_recv hKc hPc (ci := 4) (q0 := 0) rfl rfl
              refine va_callv (va_runV (As := [.int x_43]) (rest := []) ⟨hx, hb, hml, hown, hts⟩ (c_X4_emit l dC dI H.size h0 x_43 h0_0 j39_h0_f1 h0_2 h0_0k j39_h0_0c g_j39_h0_f1) (cwV 1 hts gf_c_X4_readSum_6_c_X4_emit rfl rfl rfl mdV_X4_emit ⟨Nat.le_of_ble_eq_true rfl, Nat.le_of_ble_eq_true rfl⟩) ⟨fun a U g mk q => by obtain ⟨q0, q1, qP, qK, qD⟩ := q; exact ⟨q0, q1, qP, va_K.moved (u := U) (U := U.calling g mk a) (Vm.Alike.refl U.vm) qK, qD⟩, hrv, fun U hU hW => ⟨rfl, by rw [hU], by rw [hU]; exact hPc, va_K.moved hW.alike hKc, hDc.weaken (fun _ _ _ _ => trivial)⟩⟩ rfl rfl hl.1 rfl (lv_room (Nat.le_of_ble_eq_true rfl)) dX4_readSum_61 ⟨Nat.le_of_ble_eq_true rfl, Nat.le_of_ble_eq_true rfl⟩) hS (fun q _ h => hFc q h) hFc (fun u t H1 locs ht hvm hw hB hz1 hk1 hS => ?_)
              obtain ⟨x_46, w_47⟩ := u
              obtain ⟨hP1, hK1, hD1⟩ := hB
              rw [ht] at hP1
              obtain ⟨hP, hD⟩ := cl_put (w1 := (wd_c_X4_emit h0 h0_0 x_46 h0_2 h0_0 h0_0k w_47)) (nw := (wd_c_X4_readSum_6 h1 h1_0 h1_f1 x_18 j39_h1_f3 h1_0 h1_0k h1_0c h0 h0_0 x_46 h0_2 h0_0 h0_0k w_47)) hP hD [2, 3] [0, 1, 4, 5] 4 rfl hqc (by decide +kernel) rfl hk1 hFc hP1 hD1
              generalize H1 = H at hP hS ⊢
              as_aux_lemma =>
              have h_48 := hw
              exact hU _ _ _ (J64 r_17 x_18 j39_h1_f3 x_46 w_47 g_h0_f1 (RG_w h_24 (by decide +kernel)) g_h1_f2 g_h1_f3 (RG_w h_48 (by decide +kernel)) (RG_w h_23 (by decide +kernel)) (RG_w h_25 (by decide +kernel)) g_39 g_j8_h0_f1 g_j8_h1_f2 g_j8_h1_f3 g_j8_l3 (RG_w g_42 (by decide +kernel)) g_j8_l5 _ _ _ hP hD hS (lv_sub hl [0, 1, 3, 4, 5] rfl))
      refine hG _ _ _ ?_
      refine lv_iload hx hb dX4_readSum_8 (lv_at hl 0 rfl) ?_
      refine lv_sipush (v := 240) hx hb dX4_readSum_10 kc_sipush_240 ?_
      refine lv_icmp_ge (tgt := 86) hx hb dX4_readSum_13 rfl (fun c_49 => ?_) (fun c_49 => ?_)
      · have g_50 : RG j8_l5 240 240 := RG_le2 (RG_k 240 240 rfl) g_j8_l5 c_49 (by decide +kernel)
        have hK9 := hK.sub (tys' := []) [] rfl
        exact W.vret hx hb hr (fun t ht hW => ⟨⟨(j8_h1_f2, j8_h1_f3, j8_h0_f1, j8_h0_0c), rfl, ⟨g_j8_h1_f2, g_j8_h1_f3, g_j8_h0_f1⟩, by rw [ht]; exact hP, va_K.moved hW.alike hK9, hD⟩, hS.F ht⟩) hS.2.2 dX4_readSum_86
      · have d_51 := Int32.not_le.mp c_49
        have g_52 : RG j8_l5 0 239 := RG_lt1 g_j8_l5 (RG_k 240 240 rfl) d_51 (by decide +kernel)
        refine lv_aload_n hx hb dX4_readSum_16 rfl (lv_at hl 4 rfl) ?_
        obtain ⟨hPc, hDc, hFc, hqc⟩ := cl_cut (wc := (wd_c_X9_isRight h1 h1_0 h1_f1 j8_h1_f2 j8_h1_f3)) hP hD hS hA [0] (by decide +kernel) rfl
        have hKc := hK.sub (tys' := []) [] rfl
        have hrv := va_recv hKc hPc (ci := 9) (q0 := 0) rfl rfl
        refine va_calli (va_runV (As := []) (rest := []) ⟨hx, hb, hml, hown, hts⟩ (c_X9_isRight l dC dI H.size h1 h1_0 h1_f1 j8_h1_f2 j8_h1_f3 g_h1_f1 g_j8_h1_f2 g_j8_h1_f3) (cwV 0 hts gf_c_X4_readSum_6_c_X9_isRight rfl rfl rfl mdV_X9_isRight ⟨Nat.le_of_ble_eq_true rfl, Nat.le_of_ble_eq_true rfl⟩) ⟨fun a U g mk q => by obtain ⟨q0, q1, qP, qK, qD⟩ := q; exact ⟨q0, q1, qP, va_K.moved (u := U) (U := U.calling g mk a) (Vm.Alike.refl U.vm) qK, qD⟩, hrv, fun U hU hW => ⟨rfl, by rw [hU], by rw [hU]; exact hPc, va_K.moved hW.alike hKc, hDc.weaken (fun _ _ _ _ => trivial)⟩⟩ rfl rfl hl.1 rfl (lv_room (Nat.le_of_ble_eq_true rfl)) dX4_readSum_17 ⟨Nat.le_of_ble_eq_true rfl, Nat.le_of_ble_eq_true rfl⟩) hS (fun q _ h => hFc q h) hFc (fun r_53 u t H1 locs ht hvm hw hB hz1 hk1 hS => ?_)
        as_aux_lemma =>
        obtain ⟨hP1, hK1, hD1⟩ := hB
        rw [ht] at hP1
        obtain ⟨hP, hD⟩ := cl_put (w1 := (wd_c_X9_isRight h1 h1_0 h1_f1 j8_h1_f2 j8_h1_f3)) (nw := (wd_c_X4_readSum_6 h1 h1_0 h1_f1 j8_h1_f2 j8_h1_f3 h1_0 h1_0k h1_0c h0 h0_0 j8_h0_f1 h0_2 h0_0 h0_0k j8_h0_0c)) hP hD [0] [4, 1, 2, 3] 4 rfl hqc (by decide +kernel) rfl hk1 hFc hP1 hD1
        generalize H1 = H at hP hS ⊢
        as_aux_lemma =>
        rcases hw with ⟨h_54, h_55⟩ | ⟨h_56, h_57⟩
        · rw [h_54]
          refine lv_if_eq (tgt := 86) hx hb dX4_readSum_20 rfl (fun c_58 => ?_) (fun c_58 => absurd c_58 (by decide +kernel))
          have hK9 := hK.sub (tys' := []) [] rfl
          exact W.vret hx hb hr (fun t ht hW => ⟨⟨(j8_h1_f2, j8_h1_f3, j8_h0_f1, j8_h0_0c), rfl, ⟨g_j8_h1_f2, (RG_w h_55 (by decide +kernel)), g_j8_h0_f1⟩, by rw [ht]; exact hP, va_K.moved hW.alike hK9, hD⟩, hS.F ht⟩) hS.2.2 dX4_readSum_86
        · rw [h_56]
          refine lv_if_eq (tgt := 86) hx hb dX4_readSum_20 rfl (fun c_59 => absurd c_59 (by decide +kernel)) (fun c_59 => ?_)
          refine lv_aload_n hx hb dX4_readSum_23 rfl (lv_at hl 3 rfl) ?_
          refine lv_aload_n hx hb dX4_readSum_24 rfl (lv_at hl 4 rfl) ?_
          refine lv_iload_n hx hb dX4_readSum_25 rfl (lv_at hl 5 rfl) ?_
          obtain ⟨hPc, hDc, hFc, hqc⟩ := cl_cut (wc := (wd_c_X4_readAtom_6 h1 h1_0 h1_f1 j8_h1_f2 j8_h1_f3 h1_0 h1_0k h1_0c h0 h0_0 j8_h0_f1 h0_2 h0_0 h0_0k j8_h0_0c)) hP hD hS hA [0, 1, 2, 3] (by decide +kernel) rfl
          have hKc := hK.sub (tys' := [(h1_0k, .int), (h0_0k, .int)]) [0, 1] rfl
          have hrv := va_recv hKc hPc (ci := 4) (q0 := 2) rfl rfl
          refine va_callv (va_runV (As := [.ref h1, .int 6]) (rest := []) ⟨hx, hb, hml, hown, hts⟩ (c_X4_readAtom_6 l dC dI H.size h0 h1 h1_0 h1_f1 j8_h1_f2 j8_h1_f3 h1_0k h1_0c h0_0 j8_h0_f1 h0_2 h0_0k j8_h0_0c ts4 tv4 g_h1_f1 g_j8_h1_f2 (RG_w h_57 (by decide +kernel)) a_h1_0c g_j8_h0_f1) (cwV 2 hts gf_c_X4_readSum_6_c_X4_readAtom_6 rfl rfl rfl mdV_X4_readAtom ⟨Nat.le_of_ble_eq_true rfl, Nat.le_of_ble_eq_true rfl⟩) ⟨fun a U g mk q => by obtain ⟨q0, q1, qP, qK, qD, qE0, qE1, qE2, qE3, qE4, qE5⟩ := q; exact ⟨q0, q1, qP, va_K.moved (u := U) (U := U.calling g mk a) (Vm.Alike.refl U.vm) qK, qD, vk_R.same rfl qE0, va_Z.moved (u := U) (U := U.calling g mk a) (Vm.Alike.refl U.vm) qE1, va_OF.moved (u := U) (U := U.calling g mk a) (Vm.Alike.refl U.vm) qE2, va_O.moved (u := U) (U := U.calling g mk a) (Vm.Alike.refl U.vm) qE3, va_OF.moved (u := U) (U := U.calling g mk a) (Vm.Alike.refl U.vm) qE4, va_T.moved (u := U) (U := U.calling g mk a) (Vm.Alike.refl U.vm) qE5⟩, hrv, fun U hU hW => ⟨rfl, by rw [hU], by rw [hU]; exact hPc, va_K.moved hW.alike hKc, hDc.weaken (fun _ _ _ _ => trivial), vk_R.warm hW hE_32, va_Z.moved hW.alike (by rw [hU]; exact (hE_10.kept hS.2.1).narrow hFc), va_OF.moved hW.alike (by rw [hU]; exact (hE_34.kept hS.2.1).narrow hFc), va_O.moved hW.alike (by rw [hU]; exact (hE_33.kept hS.2.1).narrow hFc), va_OF.moved hW.alike (by rw [hU]; exact (hE_35.kept hS.2.1).narrow hFc), va_T.moved hW.alike (by rw [hU]; exact (hE_36.kept hS.2.1).narrow hFc)⟩⟩ rfl rfl hl.1 rfl (lv_room (Nat.le_of_ble_eq_true rfl)) dX4_readSum_26 ⟨Nat.le_of_ble_eq_true rfl, Nat.le_of_ble_eq_true rfl⟩) hS (fun q _ h => hFc q h) hFc (fun u t H1 locs ht hvm hw hB hz1 hk1 hS => ?_)
          as_aux_lemma =>
          obtain ⟨x_61, x_62, x_63, w_64⟩ := u
          obtain ⟨hP1, hK1, hD1⟩ := hB
          rw [ht] at hP1
          obtain ⟨hP, hD⟩ := cl_put (w1 := (wd_c_X4_readAtom_6 h1 h1_0 h1_f1 x_61 x_62 h1_0 h1_0k h1_0c h0 h0_0 x_63 h0_2 h0_0 h0_0k w_64)) (nw := (wd_c_X4_readSum_6 h1 h1_0 h1_f1 x_61 x_62 h1_0 h1_0k h1_0c h0 h0_0 x_63 h0_2 h0_0 h0_0k w_64)) hP hD [0, 1, 2, 3] [4, 5, 6, 7] 4 rfl hqc (by decide +kernel) rfl hk1 hFc hP1 hD1
          generalize H1 = H at hP hS ⊢
          as_aux_lemma =>
          rcases hw with ⟨h_65, h_66, h_67⟩
          refine lv_iload_n hx hb dX4_readSum_29 rfl (lv_at hl 2 rfl) ?_
          refine lv_if_eq (tgt := 39) hx hb dX4_readSum_30 rfl (fun c_68 => ?_) (fun c_68 => ?_)
          · have g_69 : RG j8_l3 0 0 := RG_eq1 g_j8_l3 (RG_k 0 0 rfl) c_68 (by decide +kernel)
            exact hU _ _ _ (J39 x_61 x_62 x_63 w_64 g_h0_f1 g_h1_f1 g_h1_f2 g_h1_f3 h_67 h_65 h_66 g_j8_h0_f1 g_j8_h1_f2 h_57 (RG_w g_69 (by decide +kernel)) g_j8_l4 g_52 _ _ _ hP hD hS (lv_sub hl [0, 1, 3, 4, 5] rfl))
          · have g_70 : RG j8_l3 1 60 := RG_ne1 g_j8_l3 (q := 0) rfl c_68 (by decide +kernel)
            refine lv_aload_n hx hb dX4_readSum_33 rfl (lv_at hl 3 rfl) ?_
            refine lv_iload_n hx hb dX4_readSum_34 rfl (lv_at hl 2 rfl) ?_
            refine lv_ineg hx hb dX4_readSum_35 ?_
            refine lv_topi (fun x_71 ex_71 => ?_)
            have g_72 : RG x_71 (-60) (-1) := RG_neg ex_71 g_70 (by decide +kernel)
            obtain ⟨hPc, hDc, hFc, hqc⟩ := cl_cut (wc := (wd_c_X4_emit h0 h0_0 x_63 h0_2 h0_0 h0_0k w_64)) hP hD hS hA [2, 3] (by decide +kernel) rfl
            have hKc := hK.sub (tys' := [(h0_0k, .int)]) [1] rfl
            have hrv := va_recv hKc hPc (ci := 4) (q0 := 0) rfl rfl
            refine va_callv (va_runV (As := [.int x_71]) (rest := []) ⟨hx, hb, hml, hown, hts⟩ (c_X4_emit l dC dI H.size h0 x_71 h0_0 x_63 h0_2 h0_0k w_64 h_67) (cwV 1 hts gf_c_X4_readSum_6_c_X4_emit rfl rfl rfl mdV_X4_emit ⟨Nat.le_of_ble_eq_true rfl, Nat.le_of_ble_eq_true rfl⟩) ⟨fun a U g mk q => by obtain ⟨q0, q1, qP, qK, qD⟩ := q; exact ⟨q0, q1, qP, va_K.moved (u := U) (U := U.calling g mk a) (Vm.Alike.refl U.vm) qK, qD⟩, hrv, fun U hU hW => ⟨rfl, by rw [hU], by rw [hU]; exact hPc, va_K.moved hW.alike hKc, hDc.weaken (fun _ _ _ _ => trivial)⟩⟩ rfl rfl hl.1 rfl (lv_room (Nat.le_of_ble_eq_true rfl)) dX4_readSum_36 ⟨Nat.le_of_ble_eq_true rfl, Nat.le_of_ble_eq_true rfl⟩) hS (fun q _ h => hFc q h) hFc (fun u t H1 locs ht hvm hw hB hz1 hk1 hS => ?_)
            as_aux_lemma =>
            obtain ⟨x_74, w_75⟩ := u
            obtain ⟨hP1, hK1, hD1⟩ := hB
            rw [ht] at hP1
            obtain ⟨hP, hD⟩ := cl_put (w1 := (wd_c_X4_emit h0 h0_0 x_74 h0_2 h0_0 h0_0k w_75)) (nw := (wd_c_X4_readSum_6 h1 h1_0 h1_f1 x_61 x_62 h1_0 h1_0k h1_0c h0 h0_0 x_74 h0_2 h0_0 h0_0k w_75)) hP hD [2, 3] [0, 1, 4, 5] 4 rfl hqc (by decide +kernel) rfl hk1 hFc hP1 hD1
            generalize H1 = H at hP hS ⊢
            as_aux_lemma =>
            have h_76 := hw
            exact hU _ _ _ (J39 x_61 x_62 x_74 w_75 g_h0_f1 g_h1_f1 g_h1_f2 g_h1_f3 (RG_w h_76 (by decide +kernel)) h_65 h_66 g_j8_h0_f1 g_j8_h1_f2 h_57 (RG_w g_70 (by decide +kernel)) g_j8_l4 g_52 _ _ _ hP hD hS (lv_sub hl [0, 1, 3, 4, 5] rfl))
  refine hG _ _ _ ?_
  refine lv_iconst (v := 0) hx hb dX4_readSum_0 kc_iconst_0 ?_
  refine lv_istore_n (lv' := [(3, .int 0), (0, .ref h0), (1, .ref h1), (2, .int 6)]) hx hb dX4_readSum_1 rfl hl (Nat.le_of_ble_eq_true rfl) rfl (fun ls hl => ?_)
  refine lv_iconst (v := 0) hx hb dX4_readSum_2 kc_iconst_0 ?_
  refine lv_istore (lv' := [(4, .int 0), (3, .int 0), (0, .ref h0), (1, .ref h1), (2, .int 6)]) hx hb dX4_readSum_3 hl (Nat.le_of_ble_eq_true rfl) rfl (fun ls hl => ?_)
  refine lv_iconst (v := 0) hx hb dX4_readSum_5 kc_iconst_0 ?_
  refine lv_istore (lv' := [(5, .int 0), (4, .int 0), (3, .int 0), (0, .ref h0), (1, .ref h1), (2, .int 6)]) hx hb dX4_readSum_6 hl (Nat.le_of_ble_eq_true rfl) rfl (fun ls hl => ?_)
  exact hU _ _ _ (J8 _ 0 0 0 h1_f2 h1_f3 h0_f1 h0_0c (Nat.lt_succ_self _) g_h0_f1 g_h1_f1 g_h1_f2 g_h1_f3 g_h0_f1 g_h1_f2 g_h1_f3 (RG_w (RG_k 0 0 rfl) (by decide +kernel)) (RG_w (RG_k 0 0 rfl) (by decide +kernel)) (RG_w (RG_k 0 0 rfl) (by decide +kernel)) _ _ _ hP hD hS (lv_sub hl [0, 1, 2, 3, 4, 5] rfl))
noncomputable def wd_c_X9_expect_2 (a0 : Nat) (a1 : Nat) (a2 : Int32) (a3 : Int32) (a4 : Int32) (a5 : Nat) (a6 : ClassId) (a7 : Nat → Int32) : va_W := [(a0, .inr (9, [.ref a1, .int a2, .int a3, .int a4])), (a5, .inl (a6, 240, .inl a7))]
noncomputable def wf_c_X9_expect_2 : List Cond := List.cons (.code yX9_expect cX9_expect 2 none) (@HAppend.hAppend (List Cond) (List Cond) (List Cond) _ [.fieldLink RX9 15 "BuoyVote$Tape" "wrong" "I", .methodLink RX9 29 yX9_peek, .instanceMethod yX9_peek, .selects RX9 yX9_peek yX9_peek, .initialized RX9, .code yX9_peek cX9_peek 1 (some .int), .fieldLink RX9 22 "BuoyVote$Tape" "at" "I", .fieldLink RX9 19 "BuoyVote$Tape" "length" "I", .fieldLink RX9 11 "BuoyVote$Tape" "bytes" "[I", .methodLink RX9 25 yX9_refuse, .instanceMethod yX9_refuse, .selects RX9 yX9_refuse yX9_refuse, .code yX9_refuse cX9_refuse 2 none] wsX90)
theorem iw_c_X9_expect_2_X9 : ∀ w ∈ wsX90, w ∈ wf_c_X9_expect_2 := fun w h => List.mem_cons_of_mem _ (List.mem_append_right _ h)
set_option maxRecDepth 20000 in
theorem gf_c_X9_expect_2_c_X9_refuse : GoodIn wf_c_X9_expect_2 (wsV RX9 25 RX9 yX9_refuse wf_c_X9_refuse) := goodIn_app (gi_l [10, 11, 12, 5] rfl rfl) (gi_cons (j := 13) rfl rfl (goodIn_app (gi_l [1] rfl rfl) (goodIn_sub iw_c_X9_expect_2_X9 gw_X9)))
set_option maxRecDepth 20000 in
theorem gf_c_X9_expect_2_c_X9_peek : GoodIn wf_c_X9_expect_2 (wsV RX9 29 RX9 yX9_peek wf_c_X9_peek) := goodIn_app (gi_l [2, 3, 4, 5] rfl rfl) (gi_cons (j := 6) rfl rfl (goodIn_app (gi_l [7, 8, 9] rfl rfl) (goodIn_sub iw_c_X9_expect_2_X9 gw_X9)))
set_option maxHeartbeats 4000000 in
set_option maxRecDepth 100000 in
theorem c_X9_expect_2 (l : Launch) (dC : Nat → ClassId) (dI : Nat → Nat → Nat) (sz : Nat) (h0 : Nat) (p1 : Int32) (h0_0 : Nat) (h0_f1 : Int32) (h0_f2 : Int32) (h0_f3 : Int32) (h0_0k : ClassId) (h0_0c : Nat → Int32) (g_p1 : RG p1 0 99) (g_h0_f1 : RG h0_f1 0 240) (g_h0_f2 : RG h0_f2 0 240) (g_h0_f3 : RG h0_f3 (-1) 240) (a_h0_0c : AI h0_0c 0 255) : Met l yX9_expect wf_c_X9_expect_2 ({ frames := 1, cells := 0, slots := 0, locals := 21 }) (va_Pc [.ref h0, .int p1] (fun U => U.heap.size = sz ∧ va_P (dC, dI) vwCl (wd_c_X9_expect_2 h0 h0_0 h0_f1 h0_f2 h0_f3 h0_0 h0_0k h0_0c) U.heap ∧ va_K (dC, dI) vwCl [(h0_0k, .int)] U ∧ va_D (fun _ => True) (wd_c_X9_expect_2 h0 h0_0 h0_f1 h0_f2 h0_f3 h0_0 h0_0k h0_0c))) (va_Qv (fun (u : (Int32) × (Int32)) => (RG u.1 0 240 ∧ RG u.2 (-1) 240 ∧ h0_f2.toInt + 0 ≤ (u.1).toInt)) (fun (u : (Int32) × (Int32)) t => va_P (dC, dI) vwCl (wd_c_X9_expect_2 h0 h0_0 h0_f1 (u.1) (u.2) h0_0 h0_0k h0_0c) t.heap ∧ va_K (dC, dI) vwCl [] t ∧ va_D (va_A (wd_c_X9_expect_2 h0 h0_0 h0_f1 h0_f2 h0_f3 h0_0 h0_0k h0_0c) sz) (wd_c_X9_expect_2 h0 h0_0 h0_f1 (u.1) (u.2) h0_0 h0_0k h0_0c)) (va_A (wd_c_X9_expect_2 h0 h0_0 h0_f1 h0_f2 h0_f3 h0_0 h0_0k h0_0c) sz)) 0 0 (va_A (wd_c_X9_expect_2 h0 h0_0 h0_f1 h0_f2 h0_f3 h0_0 h0_0k h0_0c) sz) := by
  refine Met.ofW (cc := cX9_expect) (maxL := 2) (ret := none) (by decide +kernel) rfl ?_
  intro p e s m args below meth c s₁ B hml hv
  obtain ⟨rfl, hsz, hP, hK, hD0⟩ := hv
  have hx := B.exec
  have hb := B.bytes
  have hr := B.returns
  have hts := atoms_spec (ws := wf_c_X9_expect_2) B.pre
  have hown : s.vm.findClass RX9 = some m.cls := findClass_of_methodNamed B.named
  have hlocks := B.notSynchronized
  subst hsz
  have hD := hD0.self (sz := s.heap.size)
  generalize hAe : va_A (wd_c_X9_expect_2 h0 h0_0 h0_f1 h0_f2 h0_f3 h0_0 h0_0k h0_0c) s.heap.size = A at hD ⊢
  have hA : ∀ q : Nat, s.heap.size ≤ q → A q := fun q h => by rw [← hAe]; exact Or.inr h
  have hP : va_P (dC, dI) vwCl (wd_c_X9_expect_2 h0 h0_0 h0_f1 h0_f2 h0_f3 h0_0 h0_0k h0_0c) s.heap := hP
  have hl := lv_entry ([.ref h0, .int p1]) (n := 2) (Nat.le_of_ble_eq_true rfl)
  rw [lg_entry_eq]
  generalize (lg_sl ([.ref h0, .int p1]) ++ List.replicate (2 - (lg_sl ([.ref h0, .int p1])).length) Slot.unset).toArray = ls at hl ⊢
  have hl : lv_has ls 2 [(0, .ref h0), (1, .int p1)] := hl
  obtain ⟨H, hHe⟩ : ∃ H : Heap, s.heap = H := ⟨_, rfl⟩
  have hS : va_S A s.heap H [] := by rw [hHe]; exact va_S.rf
  have hP : va_P (dC, dI) vwCl (wd_c_X9_expect_2 h0 h0_0 h0_f1 h0_f2 h0_f3 h0_0 h0_0k h0_0c) H := by rw [← hHe]; exact hP
  rw [hHe]
  refine wj (fun G hG hU => ?_)
  as_aux_lemma =>
  have J29 : ∀ (j29_h0_f2 : Int32) (g_h0_f1 : RG h0_f1 0 240) (g_h0_f2 : RG h0_f2 0 240) (g_h0_f3 : RG h0_f3 (-1) 240) (g_j29_h0_f2 : RG j29_h0_f2 0 240) (g_p1 : RG p1 0 99) (r_h0_f2_j29_h0_f2 : h0_f2.toInt + 0 ≤ j29_h0_f2.toInt) (H : Heap) (locs : List Loc) (ls : Array Slot) (hP : va_P (dC, dI) vwCl (wd_c_X9_expect_2 h0 h0_0 h0_f1 j29_h0_f2 h0_f3 h0_0 h0_0k h0_0c) H) (hD : va_D A (wd_c_X9_expect_2 h0 h0_0 h0_f1 j29_h0_f2 h0_f3 h0_0 h0_0k h0_0c)) (hS : va_S A s.heap H locs) (hl : lv_has ls 2 [(0, .ref h0)]), G H locs (F0 m 29 ls []) := by
    as_aux_lemma =>
    intro j29_h0_f2 g_h0_f1 g_h0_f2 g_h0_f3 g_j29_h0_f2 g_p1 r_h0_f2_j29_h0_f2 H locs ls hP hD hS hl
    refine hG _ _ _ ?_
    refine lv_aload_n hx hb dX9_expect_29 rfl (lv_at hl 0 rfl) ?_
    refine lv_aload_n hx hb dX9_expect_30 rfl (lv_at hl 0 rfl) ?_
    refine va_get (D := (dC, dI)) (ci := 9) (v := .int j29_h0_f2) (C := RX9) (T := TX9) (N := 4) hx hb hts iw_c_X9_expect_2_X9 hown hK hP 0 rfl rfl 2 (by decide +kernel) (hts (.fieldLink RX9 22 "BuoyVote$Tape" "at" "I") (List.mem_of_getElem? (i := 7) rfl)) (fun _ h9 => h9) rfl dX9_expect_31 ?_
    obtain ⟨hPc, hDc, hFc, hqc⟩ := cl_cut (wc := (wd_c_X9_refuse h0 h0_0 h0_f1 j29_h0_f2 h0_f3)) hP hD hS hA [0] (by decide +kernel) rfl
    have hKc := hK.sub (tys' := []) [] rfl
    have hrv := va_recv hKc hPc (ci := 9) (q0 := 0) rfl rfl
    refine va_callv (va_runV (As := [.int j29_h0_f2]) (rest := []) ⟨hx, hb, hml, hown, hts⟩ (c_X9_refuse l dC dI H.size h0 j29_h0_f2 h0_0 h0_f1 j29_h0_f2 h0_f3 g_j29_h0_f2 g_h0_f1 g_j29_h0_f2 g_h0_f3) (cwV 1 hts gf_c_X9_expect_2_c_X9_refuse rfl rfl rfl mdV_X9_refuse ⟨Nat.le_of_ble_eq_true rfl, Nat.le_of_ble_eq_true rfl⟩) ⟨fun a U g mk q => by obtain ⟨q0, q1, qP, qK, qD⟩ := q; exact ⟨q0, q1, qP, va_K.moved (u := U) (U := U.calling g mk a) (Vm.Alike.refl U.vm) qK, qD⟩, hrv, fun U hU hW => ⟨rfl, by rw [hU], by rw [hU]; exact hPc, va_K.moved hW.alike hKc, hDc.weaken (fun _ _ _ _ => trivial)⟩⟩ rfl rfl hl.1 rfl (lv_room (Nat.le_of_ble_eq_true rfl)) dX9_expect_34 ⟨Nat.le_of_ble_eq_true rfl, Nat.le_of_ble_eq_true rfl⟩) hS (fun q _ h => hFc q h) hFc (fun x_2 t H1 locs ht hvm hw hB hz1 hk1 hS => ?_)
    obtain ⟨hP1, hK1, hD1⟩ := hB
    rw [ht] at hP1
    obtain ⟨hP, hD⟩ := cl_put (w1 := (wd_c_X9_refuse h0 h0_0 h0_f1 j29_h0_f2 x_2)) (nw := (wd_c_X9_expect_2 h0 h0_0 h0_f1 j29_h0_f2 x_2 h0_0 h0_0k h0_0c)) hP hD [0] [2, 1] 2 rfl hqc (by decide +kernel) rfl hk1 hFc hP1 hD1
    generalize H1 = H at hP hS ⊢
    as_aux_lemma =>
    have h_3 := hw
    have hK9 := hK.sub (tys' := []) [] rfl
    exact W.vret hx hb hr (fun t ht hW => ⟨⟨(j29_h0_f2, x_2), rfl, ⟨g_j29_h0_f2, (RG_w h_3 (by decide +kernel)), (by have := r_h0_f2_j29_h0_f2; show h0_f2.toInt + 0 ≤ j29_h0_f2.toInt; omega)⟩, by rw [ht]; exact hP, va_K.moved hW.alike hK9, hD⟩, hS.F ht⟩) hS.2.2 dX9_expect_37
  refine hG _ _ _ ?_
  refine lv_aload_n hx hb dX9_expect_0 rfl (lv_at hl 0 rfl) ?_
  refine va_get (D := (dC, dI)) (ci := 9) (v := .int h0_f3) (C := RX9) (T := TX9) (N := 4) hx hb hts iw_c_X9_expect_2_X9 hown hK hP 0 rfl rfl 3 (by decide +kernel) (hts (.fieldLink RX9 15 "BuoyVote$Tape" "wrong" "I") (List.mem_of_getElem? (i := 1) rfl)) (fun _ h9 => h9) rfl dX9_expect_1 ?_
  refine lv_iconst (v := (-1)) hx hb dX9_expect_4 kc_iconst_m1 ?_
  refine lv_icmp_ne (tgt := 29) hx hb dX9_expect_5 rfl (fun c_4 => ?_) (fun c_4 => ?_)
  · have g_5 : RG h0_f3 0 240 := RG_ne1 g_h0_f3 (q := (-1)) rfl c_4 (by decide +kernel)
    exact hU _ _ _ (J29 h0_f2 g_h0_f1 g_h0_f2 (RG_w g_5 (by decide +kernel)) g_h0_f2 g_p1 (by omega) _ _ _ hP hD hS (lv_sub hl [0] rfl))
  · have g_6 : RG h0_f3 (-1) (-1) := RG_eq1 g_h0_f3 (RG_k (-1) (-1) rfl) c_4 (by decide +kernel)
    refine lv_aload_n hx hb dX9_expect_8 rfl (lv_at hl 0 rfl) ?_
    obtain ⟨hPc, hDc, hFc, hqc⟩ := cl_cut (wc := (wd_c_X9_peek h0 h0_0 h0_f1 h0_f2 h0_f3 h0_0 h0_0k h0_0c)) hP hD hS hA [0, 1] (by decide +kernel) rfl
    have hKc := hK.sub (tys' := [(h0_0k, .int)]) [0] rfl
    have hrv := va_recv hKc hPc (ci := 9) (q0 := 0) rfl rfl
    refine va_calli (va_runV (As := []) (rest := []) ⟨hx, hb, hml, hown, hts⟩ (c_X9_peek l dC dI H.size h0 h0_0 h0_f1 h0_f2 h0_f3 h0_0k h0_0c g_h0_f1 g_h0_f2 (RG_w g_6 (by decide +kernel)) a_h0_0c) (cwV 0 hts gf_c_X9_expect_2_c_X9_peek rfl rfl rfl mdV_X9_peek ⟨Nat.le_of_ble_eq_true rfl, Nat.le_of_ble_eq_true rfl⟩) ⟨fun a U g mk q => by obtain ⟨q0, q1, qP, qK, qD⟩ := q; exact ⟨q0, q1, qP, va_K.moved (u := U) (U := U.calling g mk a) (Vm.Alike.refl U.vm) qK, qD⟩, hrv, fun U hU hW => ⟨rfl, by rw [hU], by rw [hU]; exact hPc, va_K.moved hW.alike hKc, hDc.weaken (fun _ _ _ _ => trivial)⟩⟩ rfl rfl hl.1 rfl (lv_room (Nat.le_of_ble_eq_true rfl)) dX9_expect_9 ⟨Nat.le_of_ble_eq_true rfl, Nat.le_of_ble_eq_true rfl⟩) hS (fun q _ h => hFc q h) hFc (fun r_7 x_8 t H1 locs ht hvm hw hB hz1 hk1 hS => ?_)
    as_aux_lemma =>
    obtain ⟨hP1, hK1, hD1⟩ := hB
    rw [ht] at hP1
    obtain ⟨hP, hD⟩ := cl_put (w1 := (wd_c_X9_peek h0 h0_0 h0_f1 x_8 h0_f3 h0_0 h0_0k h0_0c)) (nw := (wd_c_X9_expect_2 h0 h0_0 h0_f1 x_8 h0_f3 h0_0 h0_0k h0_0c)) hP hD [0, 1] [2, 3] 2 rfl hqc (by decide +kernel) rfl hk1 hFc hP1 hD1
    generalize H1 = H at hP hS ⊢
    as_aux_lemma =>
    rcases hw with ⟨h_9, h_10, h_11⟩ | ⟨h_12, h_13, h_14, h_15⟩
    · rw [h_9]
      refine lv_iload_n hx hb dX9_expect_12 rfl (lv_at hl 1 rfl) ?_
      refine lv_icmp_ne (tgt := 29) hx hb dX9_expect_13 rfl (fun c_16 => ?_) (fun c_16 => ?_)
      · exact hU _ _ _ (J29 x_8 g_h0_f1 g_h0_f2 (RG_w g_6 (by decide +kernel)) h_10 g_p1 (by have := h_11; omega) _ _ _ hP hD hS (lv_sub hl [0] rfl))
      · exact RG_dead (RG_eq1 (RG_k (-1) (-1) rfl) g_p1 c_16 (a' := 0) (b' := (-1)) (by decide +kernel)) (by decide +kernel)
    · refine lv_iload_n hx hb dX9_expect_12 rfl (lv_at hl 1 rfl) ?_
      refine lv_icmp_ne (tgt := 29) hx hb dX9_expect_13 rfl (fun c_17 => ?_) (fun c_17 => ?_)
      · exact hU _ _ _ (J29 x_8 (RG_w h_14 (by decide +kernel)) g_h0_f2 (RG_w g_6 (by decide +kernel)) (RG_w h_13 (by decide +kernel)) g_p1 (by have := h_15; omega) _ _ _ hP hD hS (lv_sub hl [0] rfl))
      · have g_18 : RG r_7 0 99 := RG_eq1 h_12 g_p1 c_17 (by decide +kernel)
        refine lv_aload_n hx hb dX9_expect_16 rfl (lv_at hl 0 rfl) ?_
        refine lv_dup hx hb dX9_expect_17 rfl ?_
        refine va_get (D := (dC, dI)) (ci := 9) (v := .int x_8) (C := RX9) (T := TX9) (N := 4) hx hb hts iw_c_X9_expect_2_X9 hown hK hP 0 rfl rfl 2 (by decide +kernel) (hts (.fieldLink RX9 22 "BuoyVote$Tape" "at" "I") (List.mem_of_getElem? (i := 7) rfl)) (fun _ h9 => h9) rfl dX9_expect_18 ?_
        refine lv_iconst (v := 1) hx hb dX9_expect_21 kc_iconst_1 ?_
        as_aux_lemma =>
        refine lv_iadd hx hb dX9_expect_22 ?_
        refine lv_topi (fun x_19 ex_19 => ?_)
        have g_20 : RG x_19 1 240 := RG_add ex_19 h_13 (RG_k 1 1 rfl) (by decide +kernel)
        have q_21 : x_19.toInt = x_8.toInt + 1 := eq_add ex_19 h_13 (q := 1) rfl (by decide +kernel)
        refine va_put (D := (dC, dI)) (ci := 9) (v := .int x_19) (ty := .int) (C := RX9) (T := TX9) (N := 4) hx hb hts iw_c_X9_expect_2_X9 tyX9 tyX9_ok nmX9 hown hK hP hD hS 0 rfl rfl 2 (by decide +kernel) (hts (.fieldLink RX9 22 "BuoyVote$Tape" "at" "I") (List.mem_of_getElem? (i := 7) rfl)) (fun _ h9 => h9) rfl (by decide +kernel) rfl rfl (Nat.le_of_ble_eq_true rfl) dX9_expect_23 (fun H locs hP hD hS => ?_)
        have hP : va_P (dC, dI) vwCl (wd_c_X9_expect_2 h0 h0_0 h0_f1 x_19 h0_f3 h0_0 h0_0k h0_0c) H := hP
        have hD : va_D A (wd_c_X9_expect_2 h0 h0_0 h0_f1 x_19 h0_f3 h0_0 h0_0k h0_0c) := hD
        refine lv_goto (tgt := 37) hx hb dX9_expect_26 rfl ?_
        have hK9 := hK.sub (tys' := []) [] rfl
        exact W.vret hx hb hr (fun t ht hW => ⟨⟨(x_19, h0_f3), rfl, ⟨(RG_w g_20 (by decide +kernel)), (RG_w g_6 (by decide +kernel)), (by have := h_15; have := q_21; show h0_f2.toInt + 0 ≤ x_19.toInt; omega)⟩, by rw [ht]; exact hP, va_K.moved hW.alike hK9, hD⟩, hS.F ht⟩) hS.2.2 dX9_expect_37
noncomputable def wd_c_X4_readAtom_5 (a0 : Nat) (a1 : Nat) (a2 : Int32) (a3 : Int32) (a4 : Int32) (a5 : Nat) (a6 : ClassId) (a7 : Nat → Int32) (a8 : Nat) (a9 : Nat) (a10 : Int32) (a11 : Nat) (a12 : Nat) (a13 : ClassId) (a14 : Nat → Int32) : va_W := [(a0, .inr (9, [.ref a1, .int a2, .int a3, .int a4])), (a5, .inl (a6, 240, .inl a7)), (a8, .inr (4, [.ref a9, .int a10, .ref a11])), (a12, .inl (a13, 240, .inl a14))]
noncomputable def wf_c_X4_readAtom_5 : List Cond := List.cons (.code yX4_readAtom cX4_readAtom 6 none) (@HAppend.hAppend (List Cond) (List Cond) (List Cond) _ (@HAppend.hAppend (List Cond) (List Cond) (List Cond) _ [.methodLink RX4 41 yX9_peek, .instanceMethod yX9_peek, .selects RX9 yX9_peek yX9_peek, .initialized RX9, .code yX9_peek cX9_peek 1 (some .int), .fieldLink RX9 22 "BuoyVote$Tape" "at" "I", .fieldLink RX9 19 "BuoyVote$Tape" "length" "I", .fieldLink RX9 11 "BuoyVote$Tape" "bytes" "[I", .methodLink RX4 93 yJ0_indexOf_0f7a4, .instanceMethod yJ0_indexOf_0f7a4, .selects RJ0 yJ0_indexOf_0f7a4 yJ0_indexOf_0f7a4, .initialized RJ0, .code yJ0_indexOf_0f7a4 cJ0_indexOf_0f7a4 2 (some .int), .methodLink RJ0 633 yJ0_indexOf_7cf53, .instanceMethod yJ0_indexOf_7cf53, .selects RJ0 yJ0_indexOf_7cf53 yJ0_indexOf_7cf53, .code yJ0_indexOf_7cf53 cJ0_indexOf_7cf53 3 (some .int), .methodLink RJ0 492 yJ0_isLatin1_aae02, .instanceMethod yJ0_isLatin1_aae02, .selects RJ0 yJ0_isLatin1_aae02 yJ0_isLatin1_aae02, .code yJ0_isLatin1_aae02 cJ0_isLatin1_aae02 1 (some .boolean), .fieldLink RJ0 38 "java/lang/String" "COMPACT_STRINGS" "Z", .fieldLink RJ0 15 "java/lang/String" "coder" "B", .fieldLink RJ0 9 "java/lang/String" "value" "[B", .methodLink RJ0 505 yJ0_length_8abf5, .instanceMethod yJ0_length_8abf5, .selects RJ0 yJ0_length_8abf5 yJ0_length_8abf5, .code yJ0_length_8abf5 cJ0_length_8abf5 1 (some .int), .methodLink RJ0 335 yJ0_coder_7d493, .instanceMethod yJ0_coder_7d493, .selects RJ0 yJ0_coder_7d493 yJ0_coder_7d493, .code yJ0_coder_7d493 cJ0_coder_7d493 1 (some .byte), .methodLink RJ0 637 yJ1_indexOf_4cfef, .static yJ1_indexOf_4cfef, .initialized RJ1, .code yJ1_indexOf_4cfef cJ1_indexOf_4cfef 4 (some .int), .methodLink RJ1 88 yJ1_canEncode_9a6ad, .static yJ1_canEncode_9a6ad, .code yJ1_canEncode_9a6ad cJ1_canEncode_9a6ad 1 (some .boolean), .methodLink RJ1 92 Lib.Math.max.name, .static Lib.Math.max.name, .initialized "java/lang/Math", .code Lib.Math.max.name Lib.Math.max.code 2 (some .int), .methodLink RJ1 38 Lib.Math.min.name, .static Lib.Math.min.name, .code Lib.Math.min.name Lib.Math.min.code 2 (some .int), .methodLink RJ1 95 yJ1_indexOfChar_4cfef, .static yJ1_indexOfChar_4cfef, .code yJ1_indexOfChar_4cfef cJ1_indexOfChar_4cfef 6 (some .int), .methodLink RX4 99 yX9_number, .instanceMethod yX9_number, .selects RX9 yX9_number yX9_number, .code yX9_number cX9_number 4 (some .int), .methodLink RX4 82 yX9_refuseHere, .instanceMethod yX9_refuseHere, .selects RX9 yX9_refuseHere yX9_refuseHere, .code yX9_refuseHere cX9_refuseHere 1 none, .methodLink RX9 25 yX9_refuse, .instanceMethod yX9_refuse, .selects RX9 yX9_refuse yX9_refuse, .code yX9_refuse cX9_refuse 2 none, .fieldLink RX9 15 "BuoyVote$Tape" "wrong" "I", .methodLink RX4 79 yX9_skip, .instanceMethod yX9_skip, .selects RX9 yX9_skip yX9_skip, .code yX9_skip cX9_skip 1 none, .methodLink RX4 49 yX4_readSum, .instanceMethod yX4_readSum, .selects RX4 yX4_readSum yX4_readSum, .initialized RX4, .code yX4_readSum cX4_readSum 6 none, .methodLink RX4 72 yX9_isRight, .instanceMethod yX9_isRight, .selects RX9 yX9_isRight yX9_isRight, .code yX9_isRight cX9_isRight 1 (some .boolean), .methodLink RX4 85 yX4_readAtom, .instanceMethod yX4_readAtom, .selects RX4 yX4_readAtom yX4_readAtom, .methodLink RX4 60 yX4_emit, .instanceMethod yX4_emit, .selects RX4 yX4_emit yX4_emit, .code yX4_emit cX4_emit 2 none, .fieldLink RX4 20 "BuoyVote$Law" "length" "I", .fieldLink RX4 11 "BuoyVote$Law" "code" "[I", .methodLink RX4 88 yX9_takeEither, .instanceMethod yX9_takeEither, .selects RX9 yX9_takeEither yX9_takeEither, .code yX9_takeEither cX9_takeEither 4 (some .int), .methodLink RX9 29 yX9_peek, .methodLink RX4 37 yX9_expect, .instanceMethod yX9_expect, .selects RX9 yX9_expect yX9_expect, .code yX9_expect cX9_expect 2 none] wsX90) wsX40)
theorem iw_c_X4_readAtom_5_X9 : ∀ w ∈ wsX90, w ∈ wf_c_X4_readAtom_5 := fun w h => List.mem_cons_of_mem _ (List.mem_append_left _ (List.mem_append_right _ h))
theorem iw_c_X4_readAtom_5_X4 : ∀ w ∈ wsX40, w ∈ wf_c_X4_readAtom_5 := fun w h => List.mem_cons_of_mem _ (List.mem_append_right _ h)
set_option maxRecDepth 20000 in
theorem gf_c_X4_readAtom_5_c_X4_emit_1 : GoodIn wf_c_X4_readAtom_5 (wsV RX4 60 RX4 yX4_emit wf_c_X4_emit_1) := goodIn_app (gi_l [79, 80, 81, 70] rfl rfl) (gi_cons (j := 82) rfl rfl (goodIn_app (gi_l [83, 84] rfl rfl) (goodIn_sub iw_c_X4_readAtom_5_X4 gw_X4)))
set_option maxRecDepth 20000 in
theorem gf_c_X4_readAtom_5_c_X9_number_1 : GoodIn wf_c_X4_readAtom_5 (wsV RX4 99 RX9 yX9_number wf_c_X9_number_1) := goodIn_app (gi_l [50, 51, 52, 4] rfl rfl) (gi_cons (j := 53) rfl rfl (goodIn_app (gi_l [6, 7, 8] rfl rfl) (goodIn_sub iw_c_X4_readAtom_5_X9 gw_X9)))
set_option maxRecDepth 20000 in
theorem gf_c_X4_readAtom_5_c_X9_refuseHere : GoodIn wf_c_X4_readAtom_5 (wsV RX4 82 RX9 yX9_refuseHere wf_c_X9_refuseHere) := goodIn_app (gi_l [54, 55, 56, 4] rfl rfl) (gi_cons (j := 57) rfl rfl (goodIn_app (gi_l [6, 58, 59, 60, 4, 61, 62] rfl rfl) (goodIn_sub iw_c_X4_readAtom_5_X9 gw_X9)))
set_option maxRecDepth 20000 in
theorem gf_c_X4_readAtom_5_c_X9_skip : GoodIn wf_c_X4_readAtom_5 (wsV RX4 79 RX9 yX9_skip wf_c_X9_skip) := goodIn_app (gi_l [63, 64, 65, 4] rfl rfl) (gi_cons (j := 66) rfl rfl (goodIn_app (gi_l [6] rfl rfl) (goodIn_sub iw_c_X4_readAtom_5_X9 gw_X9)))
set_option maxRecDepth 20000 in
theorem gf_c_X4_readAtom_5_c_X4_readSum_6 : GoodIn wf_c_X4_readAtom_5 (wsV RX4 49 RX4 yX4_readSum wf_c_X4_readSum_6) := goodIn_app (gi_l [67, 68, 69, 70] rfl rfl) (gi_cons (j := 71) rfl rfl (goodIn_app (goodIn_app (gi_l [72, 73, 74, 4, 75, 62, 76, 77, 78, 70, 0, 1, 2, 3, 5, 6, 7, 8, 9, 10, 11, 12, 13, 14, 15, 16, 17, 18, 19, 20, 21, 22, 23, 24, 25, 26, 27, 28, 29, 30, 31, 32, 33, 34, 35, 36, 37, 38, 39, 40, 41, 42, 43, 44, 45, 46, 47, 48, 49, 50, 51, 52, 53, 54, 55, 56, 57, 58, 59, 60, 61, 63, 64, 65, 66, 79, 80, 81, 82, 83, 84, 85, 86, 87, 88, 89] rfl rfl) (goodIn_sub iw_c_X4_readAtom_5_X9 gw_X9)) (goodIn_sub iw_c_X4_readAtom_5_X4 gw_X4)))
set_option maxRecDepth 20000 in
theorem gf_c_X4_readAtom_5_c_X9_expect_2 : GoodIn wf_c_X4_readAtom_5 (wsV RX4 37 RX9 yX9_expect wf_c_X9_expect_2) := goodIn_app (gi_l [90, 91, 92, 4] rfl rfl) (gi_cons (j := 93) rfl rfl (goodIn_app (gi_l [62, 89, 2, 3, 4, 5, 6, 7, 8, 58, 59, 60, 61] rfl rfl) (goodIn_sub iw_c_X4_readAtom_5_X9 gw_X9)))
set_option maxRecDepth 20000 in
theorem gf_c_X4_readAtom_5_c_X4_emit : GoodIn wf_c_X4_readAtom_5 (wsV RX4 60 RX4 yX4_emit wf_c_X4_emit) := goodIn_app (gi_l [79, 80, 81, 70] rfl rfl) (gi_cons (j := 82) rfl rfl (goodIn_app (gi_l [83, 84] rfl rfl) (goodIn_sub iw_c_X4_readAtom_5_X4 gw_X4)))
set_option maxRecDepth 20000 in
theorem gf_c_X4_readAtom_5_c_X9_peek : GoodIn wf_c_X4_readAtom_5 (wsV RX4 41 RX9 yX9_peek wf_c_X9_peek) := goodIn_app (gi_l [1, 2, 3, 4] rfl rfl) (gi_cons (j := 5) rfl rfl (goodIn_app (gi_l [6, 7, 8] rfl rfl) (goodIn_sub iw_c_X4_readAtom_5_X9 gw_X9)))
set_option maxRecDepth 20000 in
theorem gf_c_X4_readAtom_5_c_J0_indexOf_0f7a4_4 : GoodIn wf_c_X4_readAtom_5 (wsV RX4 93 RJ0 yJ0_indexOf_0f7a4 wf_c_J0_indexOf_0f7a4_4) := goodIn_app (gi_l [9, 10, 11, 12] rfl rfl) (gi_cons (j := 13) rfl rfl (gi_l [14, 15, 16, 12, 17, 18, 19, 20, 21, 22, 23, 24, 25, 26, 27, 28, 29, 30, 31, 32, 33, 34, 35, 36, 37, 38, 39, 40, 41, 42, 43, 44, 45, 46, 47, 48, 49] rfl rfl))
set_option maxHeartbeats 4000000 in
set_option maxRecDepth 100000 in
theorem c_X4_readAtom_5 (l : Launch) (dC : Nat → ClassId) (dI : Nat → Nat → Nat) (sz : Nat) (h0 : Nat) (h1 : Nat) (h1_0 : Nat) (h1_f1 : Int32) (h1_f2 : Int32) (h1_f3 : Int32) (h1_0k : ClassId) (h1_0c : Nat → Int32) (h0_0 : Nat) (h0_f1 : Int32) (h0_2 : Nat) (h0_0k : ClassId) (h0_0c : Nat → Int32) (ts4 : Nat) (tv4 : Nat) (g_h1_f1 : RG h1_f1 0 240) (g_h1_f2 : RG h1_f2 0 240) (g_h1_f3 : RG h1_f3 (-1) 240) (a_h1_0c : AI h1_0c 0 255) (g_h0_f1 : RG h0_f1 0 240) : Met l yX4_readAtom wf_c_X4_readAtom_5 ({ frames := 6, cells := 0, slots := 0, locals := 141 }) (va_Pc [.ref h0, .ref h1, .int 5] (fun U => U.heap.size = sz ∧ va_P (dC, dI) vwCl (wd_c_X4_readAtom_5 h1 h1_0 h1_f1 h1_f2 h1_f3 h1_0 h1_0k h1_0c h0 h0_0 h0_f1 h0_2 h0_0 h0_0k h0_0c) U.heap ∧ va_K (dC, dI) vwCl [(h1_0k, .int), (h0_0k, .int)] U ∧ va_D (fun _ => True) (wd_c_X4_readAtom_5 h1 h1_0 h1_f1 h1_f2 h1_f3 h1_0 h1_0k h1_0c h0 h0_0 h0_f1 h0_2 h0_0 h0_0k h0_0c) ∧ vk_R RX4 91 "vlrdph" ts4 U ∧ va_Z "java/lang/String" "COMPACT_STRINGS" "Z" (.int 1) (va_A (wd_c_X4_readAtom_5 h1 h1_0 h1_f1 h1_f2 h1_f3 h1_0 h1_0k h1_0c h0 h0_0 h0_f1 h0_2 h0_0 h0_0k h0_0c) sz) U U.heap ∧ va_OF "java/lang/String" "coder" "B" (.int 0) ts4 (va_A (wd_c_X4_readAtom_5 h1 h1_0 h1_f1 h1_f2 h1_f3 h1_0 h1_0k h1_0c h0 h0_0 h0_f1 h0_2 h0_0 h0_0k h0_0c) sz) U U.heap ∧ va_O "java/lang/String" ts4 (va_A (wd_c_X4_readAtom_5 h1 h1_0 h1_f1 h1_f2 h1_f3 h1_0 h1_0k h1_0c h0 h0_0 h0_f1 h0_2 h0_0 h0_0k h0_0c) sz) U U.heap ∧ va_OF "java/lang/String" "value" "[B" (.ref tv4) ts4 (va_A (wd_c_X4_readAtom_5 h1 h1_0 h1_f1 h1_f2 h1_f3 h1_0 h1_0k h1_0c h0 h0_0 h0_f1 h0_2 h0_0 h0_0k h0_0c) sz) U U.heap ∧ va_T .byte tv4 6 (fun j => .int ([118, 108, 114, 100, 112, 104].getD j 0)) (va_A (wd_c_X4_readAtom_5 h1 h1_0 h1_f1 h1_f2 h1_f3 h1_0 h1_0k h1_0c h0 h0_0 h0_f1 h0_2 h0_0 h0_0k h0_0c) sz) U U.heap)) (va_Qv (fun (u : (Int32) × (Int32) × (Int32) × (Nat → Int32)) => (RG u.1 0 240 ∧ RG u.2.1 (-1) 240 ∧ RG u.2.2.1 0 240)) (fun (u : (Int32) × (Int32) × (Int32) × (Nat → Int32)) t => va_P (dC, dI) vwCl (wd_c_X4_readAtom_5 h1 h1_0 h1_f1 (u.1) (u.2.1) h1_0 h1_0k h1_0c h0 h0_0 (u.2.2.1) h0_2 h0_0 h0_0k (u.2.2.2)) t.heap ∧ va_K (dC, dI) vwCl [] t ∧ va_D (va_A (wd_c_X4_readAtom_5 h1 h1_0 h1_f1 h1_f2 h1_f3 h1_0 h1_0k h1_0c h0 h0_0 h0_f1 h0_2 h0_0 h0_0k h0_0c) sz) (wd_c_X4_readAtom_5 h1 h1_0 h1_f1 (u.1) (u.2.1) h1_0 h1_0k h1_0c h0 h0_0 (u.2.2.1) h0_2 h0_0 h0_0k (u.2.2.2))) (va_A (wd_c_X4_readAtom_5 h1 h1_0 h1_f1 h1_f2 h1_f3 h1_0 h1_0k h1_0c h0 h0_0 h0_f1 h0_2 h0_0 h0_0k h0_0c) sz)) 0 0 (va_A (wd_c_X4_readAtom_5 h1 h1_0 h1_f1 h1_f2 h1_f3 h1_0 h1_0k h1_0c h0 h0_0 h0_f1 h0_2 h0_0 h0_0k h0_0c) sz) := by
  refine Met.ofW (cc := cX4_readAtom) (maxL := 6) (ret := none) (by decide +kernel) rfl ?_
  intro p e s m args below meth c s₁ B hml hv
  obtain ⟨rfl, hsz, hP, hK, hD0, hE_32, hE_10, hE_34, hE_33, hE_35, hE_36⟩ := hv
  have hx := B.exec
  have hb := B.bytes
  have hr := B.returns
  have hts := atoms_spec (ws := wf_c_X4_readAtom_5) B.pre
  have hown : s.vm.findClass RX4 = some m.cls := findClass_of_methodNamed B.named
  have hlocks := B.notSynchronized
  subst hsz
  have hD := hD0.self (sz := s.heap.size)
  generalize hAe : va_A (wd_c_X4_readAtom_5 h1 h1_0 h1_f1 h1_f2 h1_f3 h1_0 h1_0k h1_0c h0 h0_0 h0_f1 h0_2 h0_0 h0_0k h0_0c) s.heap.size = A at hD hE_10 hE_34 hE_33 hE_35 hE_36 ⊢
  have hA : ∀ q : Nat, s.heap.size ≤ q → A q := fun q h => by rw [← hAe]; exact Or.inr h
  have hP : va_P (dC, dI) vwCl (wd_c_X4_readAtom_5 h1 h1_0 h1_f1 h1_f2 h1_f3 h1_0 h1_0k h1_0c h0 h0_0 h0_f1 h0_2 h0_0 h0_0k h0_0c) s.heap := hP
  have hl := lv_entry ([.ref h0, .ref h1, .int 5]) (n := 6) (Nat.le_of_ble_eq_true rfl)
  rw [lg_entry_eq]
  generalize (lg_sl ([.ref h0, .ref h1, .int 5]) ++ List.replicate (6 - (lg_sl ([.ref h0, .ref h1, .int 5])).length) Slot.unset).toArray = ls at hl ⊢
  have hl : lv_has ls 6 [(0, .ref h0), (1, .ref h1), (2, .int 5)] := hl
  obtain ⟨H, hHe⟩ : ∃ H : Heap, s.heap = H := ⟨_, rfl⟩
  have hS : va_S A s.heap H [] := by rw [hHe]; exact va_S.rf
  have hP : va_P (dC, dI) vwCl (wd_c_X4_readAtom_5 h1 h1_0 h1_f1 h1_f2 h1_f3 h1_0 h1_0k h1_0c h0 h0_0 h0_f1 h0_2 h0_0 h0_0k h0_0c) H := by rw [← hHe]; exact hP
  rw [hHe]
  refine wj (fun G hG hU => ?_)
  as_aux_lemma =>
  have J65 : ∀ (j65_l5 : Int32) (j65_h1_f2 : Int32) (j65_h1_f3 : Int32) (g_h0_f1 : RG h0_f1 0 240) (g_h1_f1 : RG h1_f1 0 240) (g_h1_f2 : RG h1_f2 0 240) (g_h1_f3 : RG h1_f3 (-1) 240) (g_j65_h1_f2 : RG j65_h1_f2 0 240) (g_j65_h1_f3 : RG j65_h1_f3 (-1) 240) (g_j65_l5 : RG j65_l5 (-1) 9999) (H : Heap) (locs : List Loc) (ls : Array Slot) (hP : va_P (dC, dI) vwCl (wd_c_X4_readAtom_5 h1 h1_0 h1_f1 j65_h1_f2 j65_h1_f3 h1_0 h1_0k h1_0c h0 h0_0 h0_f1 h0_2 h0_0 h0_0k h0_0c) H) (hD : va_D A (wd_c_X4_readAtom_5 h1 h1_0 h1_f1 j65_h1_f2 j65_h1_f3 h1_0 h1_0k h1_0c h0 h0_0 h0_f1 h0_2 h0_0 h0_0k h0_0c)) (hS : va_S A s.heap H locs) (hl : lv_has ls 6 [(5, .int j65_l5), (0, .ref h0)]), G H locs (F0 m 65 ls []) := by
    as_aux_lemma =>
    intro j65_l5 j65_h1_f2 j65_h1_f3 g_h0_f1 g_h1_f1 g_h1_f2 g_h1_f3 g_j65_h1_f2 g_j65_h1_f3 g_j65_l5 H locs ls hP hD hS hl
    refine hG _ _ _ ?_
    refine lv_aload_n hx hb dX4_readAtom_65 rfl (lv_at hl 1 rfl) ?_
    refine lv_iload hx hb dX4_readAtom_66 (lv_at hl 0 rfl) ?_
    obtain ⟨hPc, hDc, hFc, hqc⟩ := cl_cut (wc := (wd_c_X4_emit_1 h0 h0_0 h0_f1 h0_2 h0_0 h0_0k h0_0c)) hP hD hS hA [2, 3] (by decide +kernel) rfl
    have hKc := hK.sub (tys' := [(h0_0k, .int)]) [1] rfl
    have hrv := va_recv hKc hPc (ci := 4) (q0 := 0) rfl rfl
    refine va_callv (va_runV (As := [.int j65_l5]) (rest := []) ⟨hx, hb, hml, hown, hts⟩ (c_X4_emit_1 l dC dI H.size h0 j65_l5 h0_0 h0_f1 h0_2 h0_0k h0_0c (RG_w g_j65_l5 (by decide +kernel)) g_h0_f1) (cwV 1 hts gf_c_X4_readAtom_5_c_X4_emit_1 rfl rfl rfl mdV_X4_emit ⟨Nat.le_of_ble_eq_true rfl, Nat.le_of_ble_eq_true rfl⟩) ⟨fun a U g mk q => by obtain ⟨q0, q1, qP, qK, qD⟩ := q; exact ⟨q0, q1, qP, va_K.moved (u := U) (U := U.calling g mk a) (Vm.Alike.refl U.vm) qK, qD⟩, hrv, fun U hU hW => ⟨rfl, by rw [hU], by rw [hU]; exact hPc, va_K.moved hW.alike hKc, hDc.weaken (fun _ _ _ _ => trivial)⟩⟩ rfl rfl hl.1 rfl (lv_room (Nat.le_of_ble_eq_true rfl)) dX4_readAtom_68 ⟨Nat.le_of_ble_eq_true rfl, Nat.le_of_ble_eq_true rfl⟩) hS (fun q _ h => hFc q h) hFc (fun u t H1 locs ht hvm hw hB hz1 hk1 hS => ?_)
    obtain ⟨x_2, w_3⟩ := u
    obtain ⟨hP1, hK1, hD1⟩ := hB
    rw [ht] at hP1
    obtain ⟨hP, hD⟩ := cl_put (w1 := (wd_c_X4_emit_1 h0 h0_0 x_2 h0_2 h0_0 h0_0k w_3)) (nw := (wd_c_X4_readAtom_5 h1 h1_0 h1_f1 j65_h1_f2 j65_h1_f3 h1_0 h1_0k h1_0c h0 h0_0 x_2 h0_2 h0_0 h0_0k w_3)) hP hD [2, 3] [0, 1, 4, 5] 4 rfl hqc (by decide +kernel) rfl hk1 hFc hP1 hD1
    generalize H1 = H at hP hS ⊢
    as_aux_lemma =>
    have h_4 := hw
    refine lv_goto (tgt := 105) hx hb dX4_readAtom_71 rfl ?_
    have hK9 := hK.sub (tys' := []) [] rfl
    exact W.vret hx hb hr (fun t ht hW => ⟨⟨(j65_h1_f2, j65_h1_f3, x_2, w_3), rfl, ⟨g_j65_h1_f2, g_j65_h1_f3, (RG_w h_4 (by decide +kernel))⟩, by rw [ht]; exact hP, va_K.moved hW.alike hK9, hD⟩, hS.F ht⟩) hS.2.2 dX4_readAtom_105
  have J20 : ∀ (j20_h1_f2 : Int32) (g_h0_f1 : RG h0_f1 0 240) (g_h1_f1 : RG h1_f1 0 240) (g_h1_f2 : RG h1_f2 0 240) (g_h1_f3 : RG h1_f3 (-1) 240) (g_j20_h1_f2 : RG j20_h1_f2 0 240) (H : Heap) (locs : List Loc) (ls : Array Slot) (hP : va_P (dC, dI) vwCl (wd_c_X4_readAtom_5 h1 h1_0 h1_f1 j20_h1_f2 h1_f3 h1_0 h1_0k h1_0c h0 h0_0 h0_f1 h0_2 h0_0 h0_0k h0_0c) H) (hD : va_D A (wd_c_X4_readAtom_5 h1 h1_0 h1_f1 j20_h1_f2 h1_f3 h1_0 h1_0k h1_0c h0 h0_0 h0_f1 h0_2 h0_0 h0_0k h0_0c)) (hS : va_S A s.heap H locs) (hl : lv_has ls 6 [(3, .int (-1)), (0, .ref h0), (1, .ref h1), (2, .int 5)]), G H locs (F0 m 20 ls [.int (-1)]) := by
    as_aux_lemma =>
    intro j20_h1_f2 g_h0_f1 g_h1_f1 g_h1_f2 g_h1_f3 g_j20_h1_f2 H locs ls hP hD hS hl
    refine hG _ _ _ ?_
    refine lv_istore (lv' := [(4, .int (-1)), (3, .int (-1)), (0, .ref h0), (1, .ref h1), (2, .int 5)]) hx hb dX4_readAtom_20 hl (Nat.le_of_ble_eq_true rfl) rfl (fun ls hl => ?_)
    refine lv_iload hx hb dX4_readAtom_22 (lv_at hl 0 rfl) ?_
    refine lv_if_lt (tgt := 42) hx hb dX4_readAtom_24 rfl (fun c_5 => ?_) (fun c_5 => absurd c_5 (by decide +kernel))
    refine lv_iload_n hx hb dX4_readAtom_42 rfl (lv_at hl 1 rfl) ?_
    refine lv_bipush (v := 91) hx hb dX4_readAtom_43 kc_bipush_91 ?_
    refine lv_icmp_eq (tgt := 74) hx hb dX4_readAtom_45 rfl (fun c_6 => absurd c_6 (by decide +kernel)) (fun c_6 => ?_)
    refine lv_aload_n hx hb dX4_readAtom_48 rfl (lv_at hl 3 rfl) ?_
    refine lv_iconst (v := 4) hx hb dX4_readAtom_49 kc_iconst_4 ?_
    obtain ⟨hPc, hDc, hFc, hqc⟩ := cl_cut (wc := (wd_c_X9_number_1 h1 h1_0 h1_f1 j20_h1_f2 h1_f3 h1_0 h1_0k h1_0c)) hP hD hS hA [0, 1] (by decide +kernel) rfl
    have hKc := hK.sub (tys' := [(h1_0k, .int)]) [0] rfl
    have hrv := va_recv hKc hPc (ci := 9) (q0 := 0) rfl rfl
    refine va_calli (va_runV (As := [.int 4]) (rest := []) ⟨hx, hb, hml, hown, hts⟩ (c_X9_number_1 l dC dI H.size h1 h1_0 h1_f1 j20_h1_f2 h1_f3 h1_0k h1_0c g_h1_f1 g_j20_h1_f2 g_h1_f3 a_h1_0c) (cwV 1 hts gf_c_X4_readAtom_5_c_X9_number_1 rfl rfl rfl mdV_X9_number ⟨Nat.le_of_ble_eq_true rfl, Nat.le_of_ble_eq_true rfl⟩) ⟨fun a U g mk q => by obtain ⟨q0, q1, qP, qK, qD⟩ := q; exact ⟨q0, q1, qP, va_K.moved (u := U) (U := U.calling g mk a) (Vm.Alike.refl U.vm) qK, qD⟩, hrv, fun U hU hW => ⟨rfl, by rw [hU], by rw [hU]; exact hPc, va_K.moved hW.alike hKc, hDc.weaken (fun _ _ _ _ => trivial)⟩⟩ rfl rfl hl.1 rfl (lv_room (Nat.le_of_ble_eq_true rfl)) dX4_readAtom_50 ⟨Nat.le_of_ble_eq_true rfl, Nat.le_of_ble_eq_true rfl⟩) hS (fun q _ h => hFc q h) hFc (fun r_7 x_8 t H1 locs ht hvm hw hB hz1 hk1 hS => ?_)
    as_aux_lemma =>
    obtain ⟨hP1, hK1, hD1⟩ := hB
    rw [ht] at hP1
    obtain ⟨hP, hD⟩ := cl_put (w1 := (wd_c_X9_number_1 h1 h1_0 h1_f1 x_8 h1_f3 h1_0 h1_0k h1_0c)) (nw := (wd_c_X4_readAtom_5 h1 h1_0 h1_f1 x_8 h1_f3 h1_0 h1_0k h1_0c h0 h0_0 h0_f1 h0_2 h0_0 h0_0k h0_0c)) hP hD [0, 1] [4, 5, 2, 3] 4 rfl hqc (by decide +kernel) rfl hk1 hFc hP1 hD1
    generalize H1 = H at hP hS ⊢
    as_aux_lemma =>
    rcases hw with ⟨h_9, h_10, h_11⟩ | ⟨h_12, h_13, h_14, h_15, h_16⟩
    · rw [h_9]
      refine lv_istore (lv' := [(5, .int (-1)), (4, .int (-1)), (3, .int (-1)), (0, .ref h0), (1, .ref h1), (2, .int 5)]) hx hb dX4_readAtom_53 hl (Nat.le_of_ble_eq_true rfl) rfl (fun ls hl => ?_)
      refine lv_iload hx hb dX4_readAtom_55 (lv_at hl 0 rfl) ?_
      refine lv_iconst (v := (-1)) hx hb dX4_readAtom_57 kc_iconst_m1 ?_
      refine lv_icmp_ne (tgt := 65) hx hb dX4_readAtom_58 rfl (fun c_17 => absurd c_17 (by decide +kernel)) (fun c_17 => ?_)
      refine lv_aload_n hx hb dX4_readAtom_61 rfl (lv_at hl 4 rfl) ?_
      obtain ⟨hPc, hDc, hFc, hqc⟩ := cl_cut (wc := (wd_c_X9_refuseHere h1 h1_0 h1_f1 x_8 h1_f3)) hP hD hS hA [0] (by decide +kernel) rfl
      have hKc := hK.sub (tys' := []) [] rfl
      have hrv := va_recv hKc hPc (ci := 9) (q0 := 0) rfl rfl
      refine va_callv (va_runV (As := []) (rest := []) ⟨hx, hb, hml, hown, hts⟩ (c_X9_refuseHere l dC dI H.size h1 h1_0 h1_f1 x_8 h1_f3 g_h1_f1 h_10 g_h1_f3) (cwV 0 hts gf_c_X4_readAtom_5_c_X9_refuseHere rfl rfl rfl mdV_X9_refuseHere ⟨Nat.le_of_ble_eq_true rfl, Nat.le_of_ble_eq_true rfl⟩) ⟨fun a U g mk q => by obtain ⟨q0, q1, qP, qK, qD⟩ := q; exact ⟨q0, q1, qP, va_K.moved (u := U) (U := U.calling g mk a) (Vm.Alike.refl U.vm) qK, qD⟩, hrv, fun U hU hW => ⟨rfl, by rw [hU], by rw [hU]; exact hPc, va_K.moved hW.alike hKc, hDc.weaken (fun _ _ _ _ => trivial)⟩⟩ rfl rfl hl.1 rfl (lv_room (Nat.le_of_ble_eq_true rfl)) dX4_readAtom_62 ⟨Nat.le_of_ble_eq_true rfl, Nat.le_of_ble_eq_true rfl⟩) hS (fun q _ h => hFc q h) hFc (fun x_19 t H1 locs ht hvm hw hB hz1 hk1 hS => ?_)
      obtain ⟨hP1, hK1, hD1⟩ := hB
      rw [ht] at hP1
      obtain ⟨hP, hD⟩ := cl_put (w1 := (wd_c_X9_refuseHere h1 h1_0 h1_f1 x_8 x_19)) (nw := (wd_c_X4_readAtom_5 h1 h1_0 h1_f1 x_8 x_19 h1_0 h1_0k h1_0c h0 h0_0 h0_f1 h0_2 h0_0 h0_0k h0_0c)) hP hD [0] [4, 1, 2, 3] 4 rfl hqc (by decide +kernel) rfl hk1 hFc hP1 hD1
      generalize H1 = H at hP hS ⊢
      as_aux_lemma =>
      have h_20 := hw
      exact hU _ _ _ (J65 (-1) x_8 x_19 g_h0_f1 g_h1_f1 g_h1_f2 g_h1_f3 h_10 (RG_w h_20 (by decide +kernel)) (RG_w (RG_k (-1) (-1) rfl) (by decide +kernel)) _ _ _ hP hD hS (lv_sub hl [0, 3] rfl))
    · refine lv_istore (lv' := [(5, .int r_7), (4, .int (-1)), (3, .int (-1)), (0, .ref h0), (1, .ref h1), (2, .int 5)]) hx hb dX4_readAtom_53 hl (Nat.le_of_ble_eq_true rfl) rfl (fun ls hl => ?_)
      refine lv_iload hx hb dX4_readAtom_55 (lv_at hl 0 rfl) ?_
      refine lv_iconst (v := (-1)) hx hb dX4_readAtom_57 kc_iconst_m1 ?_
      refine lv_icmp_ne (tgt := 65) hx hb dX4_readAtom_58 rfl (fun c_21 => ?_) (fun c_21 => ?_)
      · exact hU _ _ _ (J65 r_7 x_8 h1_f3 g_h0_f1 (RG_w h_14 (by decide +kernel)) g_h1_f2 g_h1_f3 (RG_w h_13 (by decide +kernel)) g_h1_f3 (RG_w h_12 (by decide +kernel)) _ _ _ hP hD hS (lv_sub hl [0, 3] rfl))
      · exact RG_dead (RG_eq1 h_12 (RG_k (-1) (-1) rfl) c_21 (a' := 0) (b' := (-1)) (by decide +kernel)) (by decide +kernel)
  have J65b : ∀ (j65b_l5 : Int32) (j65b_h1_f2 : Int32) (j65b_h1_f3 : Int32) (g_h0_f1 : RG h0_f1 0 240) (g_h1_f1 : RG h1_f1 1 240) (g_h1_f2 : RG h1_f2 0 240) (g_h1_f3 : RG h1_f3 (-1) 240) (g_j65b_h1_f2 : RG j65b_h1_f2 0 240) (g_j65b_h1_f3 : RG j65b_h1_f3 (-1) 240) (g_j65b_l5 : RG j65b_l5 (-1) 9999) (H : Heap) (locs : List Loc) (ls : Array Slot) (hP : va_P (dC, dI) vwCl (wd_c_X4_readAtom_5 h1 h1_0 h1_f1 j65b_h1_f2 j65b_h1_f3 h1_0 h1_0k h1_0c h0 h0_0 h0_f1 h0_2 h0_0 h0_0k h0_0c) H) (hD : va_D A (wd_c_X4_readAtom_5 h1 h1_0 h1_f1 j65b_h1_f2 j65b_h1_f3 h1_0 h1_0k h1_0c h0 h0_0 h0_f1 h0_2 h0_0 h0_0k h0_0c)) (hS : va_S A s.heap H locs) (hl : lv_has ls 6 [(5, .int j65b_l5), (0, .ref h0)]), G H locs (F0 m 65 ls []) := by
    as_aux_lemma =>
    intro j65b_l5 j65b_h1_f2 j65b_h1_f3 g_h0_f1 g_h1_f1 g_h1_f2 g_h1_f3 g_j65b_h1_f2 g_j65b_h1_f3 g_j65b_l5 H locs ls hP hD hS hl
    refine hG _ _ _ ?_
    refine lv_aload_n hx hb dX4_readAtom_65 rfl (lv_at hl 1 rfl) ?_
    refine lv_iload hx hb dX4_readAtom_66 (lv_at hl 0 rfl) ?_
    obtain ⟨hPc, hDc, hFc, hqc⟩ := cl_cut (wc := (wd_c_X4_emit_1 h0 h0_0 h0_f1 h0_2 h0_0 h0_0k h0_0c)) hP hD hS hA [2, 3] (by decide +kernel) rfl
    have hKc := hK.sub (tys' := [(h0_0k, .int)]) [1] rfl
    have hrv := va_recv hKc hPc (ci := 4) (q0 := 0) rfl rfl
    refine va_callv (va_runV (As := [.int j65b_l5]) (rest := []) ⟨hx, hb, hml, hown, hts⟩ (c_X4_emit_1 l dC dI H.size h0 j65b_l5 h0_0 h0_f1 h0_2 h0_0k h0_0c (RG_w g_j65b_l5 (by decide +kernel)) g_h0_f1) (cwV 1 hts gf_c_X4_readAtom_5_c_X4_emit_1 rfl rfl rfl mdV_X4_emit ⟨Nat.le_of_ble_eq_true rfl, Nat.le_of_ble_eq_true rfl⟩) ⟨fun a U g mk q => by obtain ⟨q0, q1, qP, qK, qD⟩ := q; exact ⟨q0, q1, qP, va_K.moved (u := U) (U := U.calling g mk a) (Vm.Alike.refl U.vm) qK, qD⟩, hrv, fun U hU hW => ⟨rfl, by rw [hU], by rw [hU]; exact hPc, va_K.moved hW.alike hKc, hDc.weaken (fun _ _ _ _ => trivial)⟩⟩ rfl rfl hl.1 rfl (lv_room (Nat.le_of_ble_eq_true rfl)) dX4_readAtom_68 ⟨Nat.le_of_ble_eq_true rfl, Nat.le_of_ble_eq_true rfl⟩) hS (fun q _ h => hFc q h) hFc (fun u t H1 locs ht hvm hw hB hz1 hk1 hS => ?_)
    obtain ⟨x_23, w_24⟩ := u
    obtain ⟨hP1, hK1, hD1⟩ := hB
    rw [ht] at hP1
    obtain ⟨hP, hD⟩ := cl_put (w1 := (wd_c_X4_emit_1 h0 h0_0 x_23 h0_2 h0_0 h0_0k w_24)) (nw := (wd_c_X4_readAtom_5 h1 h1_0 h1_f1 j65b_h1_f2 j65b_h1_f3 h1_0 h1_0k h1_0c h0 h0_0 x_23 h0_2 h0_0 h0_0k w_24)) hP hD [2, 3] [0, 1, 4, 5] 4 rfl hqc (by decide +kernel) rfl hk1 hFc hP1 hD1
    generalize H1 = H at hP hS ⊢
    as_aux_lemma =>
    have h_25 := hw
    refine lv_goto (tgt := 105) hx hb dX4_readAtom_71 rfl ?_
    have hK9 := hK.sub (tys' := []) [] rfl
    exact W.vret hx hb hr (fun t ht hW => ⟨⟨(j65b_h1_f2, j65b_h1_f3, x_23, w_24), rfl, ⟨g_j65b_h1_f2, g_j65b_h1_f3, (RG_w h_25 (by decide +kernel))⟩, by rw [ht]; exact hP, va_K.moved hW.alike hK9, hD⟩, hS.F ht⟩) hS.2.2 dX4_readAtom_105
  have J20b : ∀ (j20b_l3 : Int32) (j20b_h1_f2 : Int32) (g_h0_f1 : RG h0_f1 0 240) (g_h1_f1 : RG h1_f1 1 240) (g_h1_f2 : RG h1_f2 0 240) (g_h1_f3 : RG h1_f3 (-1) 240) (g_j20b_h1_f2 : RG j20b_h1_f2 0 239) (g_j20b_l3 : RG j20b_l3 0 255) (H : Heap) (locs : List Loc) (ls : Array Slot) (hP : va_P (dC, dI) vwCl (wd_c_X4_readAtom_5 h1 h1_0 h1_f1 j20b_h1_f2 h1_f3 h1_0 h1_0k h1_0c h0 h0_0 h0_f1 h0_2 h0_0 h0_0k h0_0c) H) (hD : va_D A (wd_c_X4_readAtom_5 h1 h1_0 h1_f1 j20b_h1_f2 h1_f3 h1_0 h1_0k h1_0c h0 h0_0 h0_f1 h0_2 h0_0 h0_0k h0_0c)) (hS : va_S A s.heap H locs) (hl : lv_has ls 6 [(3, .int j20b_l3), (0, .ref h0), (1, .ref h1), (2, .int 5)]), G H locs (F0 m 20 ls [.int (-1)]) := by
    as_aux_lemma =>
    intro j20b_l3 j20b_h1_f2 g_h0_f1 g_h1_f1 g_h1_f2 g_h1_f3 g_j20b_h1_f2 g_j20b_l3 H locs ls hP hD hS hl
    refine hG _ _ _ ?_
    refine lv_istore (lv' := [(4, .int (-1)), (3, .int j20b_l3), (0, .ref h0), (1, .ref h1), (2, .int 5)]) hx hb dX4_readAtom_20 hl (Nat.le_of_ble_eq_true rfl) rfl (fun ls hl => ?_)
    refine lv_iload hx hb dX4_readAtom_22 (lv_at hl 0 rfl) ?_
    refine lv_if_lt (tgt := 42) hx hb dX4_readAtom_24 rfl (fun c_26 => ?_) (fun c_26 => absurd c_26 (by decide +kernel))
    refine lv_iload_n hx hb dX4_readAtom_42 rfl (lv_at hl 1 rfl) ?_
    refine lv_bipush (v := 91) hx hb dX4_readAtom_43 kc_bipush_91 ?_
    refine lv_icmp_eq (tgt := 74) hx hb dX4_readAtom_45 rfl (fun c_27 => ?_) (fun c_27 => ?_)
    · have g_28 : RG j20b_l3 91 91 := RG_eq1 g_j20b_l3 (RG_k 91 91 rfl) c_27 (by decide +kernel)
      refine lv_iload_n hx hb dX4_readAtom_74 rfl (lv_at hl 4 rfl) ?_
      refine lv_bipush (v := 6) hx hb dX4_readAtom_75 kc_bipush_6 ?_
      refine lv_icmp_lt (tgt := 87) hx hb dX4_readAtom_77 rfl (fun c_29 => ?_) (fun c_29 => absurd c_29 (by decide +kernel))
      refine lv_aload_n hx hb dX4_readAtom_87 rfl (lv_at hl 3 rfl) ?_
      obtain ⟨hPc, hDc, hFc, hqc⟩ := cl_cut (wc := (wd_c_X9_skip h1 h1_0 h1_f1 j20b_h1_f2 h1_f3)) hP hD hS hA [0] (by decide +kernel) rfl
      have hKc := hK.sub (tys' := []) [] rfl
      have hrv := va_recv hKc hPc (ci := 9) (q0 := 0) rfl rfl
      refine va_callv (va_runV (As := []) (rest := []) ⟨hx, hb, hml, hown, hts⟩ (c_X9_skip l dC dI H.size h1 h1_0 h1_f1 j20b_h1_f2 h1_f3 (RG_w g_h1_f1 (by decide +kernel)) g_j20b_h1_f2 g_h1_f3) (cwV 0 hts gf_c_X4_readAtom_5_c_X9_skip rfl rfl rfl mdV_X9_skip ⟨Nat.le_of_ble_eq_true rfl, Nat.le_of_ble_eq_true rfl⟩) ⟨fun a U g mk q => by obtain ⟨q0, q1, qP, qK, qD⟩ := q; exact ⟨q0, q1, qP, va_K.moved (u := U) (U := U.calling g mk a) (Vm.Alike.refl U.vm) qK, qD⟩, hrv, fun U hU hW => ⟨rfl, by rw [hU], by rw [hU]; exact hPc, va_K.moved hW.alike hKc, hDc.weaken (fun _ _ _ _ => trivial)⟩⟩ rfl rfl hl.1 rfl (lv_room (Nat.le_of_ble_eq_true rfl)) dX4_readAtom_88 ⟨Nat.le_of_ble_eq_true rfl, Nat.le_of_ble_eq_true rfl⟩) hS (fun q _ h => hFc q h) hFc (fun x_31 t H1 locs ht hvm hw hB hz1 hk1 hS => ?_)
      as_aux_lemma =>
      obtain ⟨hP1, hK1, hD1⟩ := hB
      rw [ht] at hP1
      obtain ⟨hP, hD⟩ := cl_put (w1 := (wd_c_X9_skip h1 h1_0 h1_f1 x_31 h1_f3)) (nw := (wd_c_X4_readAtom_5 h1 h1_0 h1_f1 x_31 h1_f3 h1_0 h1_0k h1_0c h0 h0_0 h0_f1 h0_2 h0_0 h0_0k h0_0c)) hP hD [0] [4, 1, 2, 3] 4 rfl hqc (by decide +kernel) rfl hk1 hFc hP1 hD1
      generalize H1 = H at hP hS ⊢
      as_aux_lemma =>
      rcases hw with ⟨h_32, h_33, h_34⟩
      refine lv_aload_n hx hb dX4_readAtom_91 rfl (lv_at hl 2 rfl) ?_
      refine lv_aload_n hx hb dX4_readAtom_92 rfl (lv_at hl 3 rfl) ?_
      refine lv_iload_n hx hb dX4_readAtom_93 rfl (lv_at hl 4 rfl) ?_
      refine lv_iconst (v := 1) hx hb dX4_readAtom_94 kc_iconst_1 ?_
      refine lv_iadd hx hb dX4_readAtom_95 ?_
      refine lv_topi (fun x_35 ex_35 => ?_)
      obtain rfl : x_35 = 6 := ex_35.trans (by decide +kernel)
      obtain ⟨hPc, hDc, hFc, hqc⟩ := cl_cut (wc := (wd_c_X4_readSum_6 h1 h1_0 h1_f1 x_31 h1_f3 h1_0 h1_0k h1_0c h0 h0_0 h0_f1 h0_2 h0_0 h0_0k h0_0c)) hP hD hS hA [0, 1, 2, 3] (by decide +kernel) rfl
      have hKc := hK.sub (tys' := [(h1_0k, .int), (h0_0k, .int)]) [0, 1] rfl
      have hrv := va_recv hKc hPc (ci := 4) (q0 := 2) rfl rfl
      refine va_callv (va_runV (As := [.ref h1, .int 6]) (rest := []) ⟨hx, hb, hml, hown, hts⟩ (c_X4_readSum_6 l dC dI H.size h0 h1 h1_0 h1_f1 x_31 h1_f3 h1_0k h1_0c h0_0 h0_f1 h0_2 h0_0k h0_0c ts4 tv4 (RG_w g_h1_f1 (by decide +kernel)) (RG_w h_32 (by decide +kernel)) g_h1_f3 a_h1_0c g_h0_f1) (cwV 2 hts gf_c_X4_readAtom_5_c_X4_readSum_6 rfl rfl rfl mdV_X4_readSum ⟨Nat.le_of_ble_eq_true rfl, Nat.le_of_ble_eq_true rfl⟩) ⟨fun a U g mk q => by obtain ⟨q0, q1, qP, qK, qD, qE0, qE1, qE2, qE3, qE4, qE5⟩ := q; exact ⟨q0, q1, qP, va_K.moved (u := U) (U := U.calling g mk a) (Vm.Alike.refl U.vm) qK, qD, vk_R.same rfl qE0, va_Z.moved (u := U) (U := U.calling g mk a) (Vm.Alike.refl U.vm) qE1, va_OF.moved (u := U) (U := U.calling g mk a) (Vm.Alike.refl U.vm) qE2, va_O.moved (u := U) (U := U.calling g mk a) (Vm.Alike.refl U.vm) qE3, va_OF.moved (u := U) (U := U.calling g mk a) (Vm.Alike.refl U.vm) qE4, va_T.moved (u := U) (U := U.calling g mk a) (Vm.Alike.refl U.vm) qE5⟩, hrv, fun U hU hW => ⟨rfl, by rw [hU], by rw [hU]; exact hPc, va_K.moved hW.alike hKc, hDc.weaken (fun _ _ _ _ => trivial), vk_R.warm hW hE_32, va_Z.moved hW.alike (by rw [hU]; exact (hE_10.kept hS.2.1).narrow hFc), va_OF.moved hW.alike (by rw [hU]; exact (hE_34.kept hS.2.1).narrow hFc), va_O.moved hW.alike (by rw [hU]; exact (hE_33.kept hS.2.1).narrow hFc), va_OF.moved hW.alike (by rw [hU]; exact (hE_35.kept hS.2.1).narrow hFc), va_T.moved hW.alike (by rw [hU]; exact (hE_36.kept hS.2.1).narrow hFc)⟩⟩ rfl rfl hl.1 rfl (lv_room (Nat.le_of_ble_eq_true rfl)) dX4_readAtom_96 ⟨Nat.le_of_ble_eq_true rfl, Nat.le_of_ble_eq_true rfl⟩) hS (fun q _ h => hFc q h) hFc (fun u t H1 locs ht hvm hw hB hz1 hk1 hS => ?_)
      obtain ⟨x_37, x_38, x_39, w_40⟩ := u
      obtain ⟨hP1, hK1, hD1⟩ := hB
      rw [ht] at hP1
      obtain ⟨hP, hD⟩ := cl_put (w1 := (wd_c_X4_readSum_6 h1 h1_0 h1_f1 x_37 x_38 h1_0 h1_0k h1_0c h0 h0_0 x_39 h0_2 h0_0 h0_0k w_40)) (nw := (wd_c_X4_readAtom_5 h1 h1_0 h1_f1 x_37 x_38 h1_0 h1_0k h1_0c h0 h0_0 x_39 h0_2 h0_0 h0_0k w_40)) hP hD [0, 1, 2, 3] [4, 5, 6, 7] 4 rfl hqc (by decide +kernel) rfl hk1 hFc hP1 hD1
      generalize H1 = H at hP hS ⊢
      as_aux_lemma =>
      rcases hw with ⟨h_41, h_42, h_43⟩
      refine lv_aload_n hx hb dX4_readAtom_99 rfl (lv_at hl 3 rfl) ?_
      refine lv_bipush (v := 93) hx hb dX4_readAtom_100 kc_bipush_93 ?_
      obtain ⟨hPc, hDc, hFc, hqc⟩ := cl_cut (wc := (wd_c_X9_expect_2 h1 h1_0 h1_f1 x_37 x_38 h1_0 h1_0k h1_0c)) hP hD hS hA [0, 1] (by decide +kernel) rfl
      have hKc := hK.sub (tys' := [(h1_0k, .int)]) [0] rfl
      have hrv := va_recv hKc hPc (ci := 9) (q0 := 0) rfl rfl
      refine va_callv (va_runV (As := [.int 93]) (rest := []) ⟨hx, hb, hml, hown, hts⟩ (c_X9_expect_2 l dC dI H.size h1 93 h1_0 h1_f1 x_37 x_38 h1_0k h1_0c (RG_w (RG_k 93 93 rfl) (by decide +kernel)) (RG_w g_h1_f1 (by decide +kernel)) h_41 h_42 a_h1_0c) (cwV 1 hts gf_c_X4_readAtom_5_c_X9_expect_2 rfl rfl rfl mdV_X9_expect ⟨Nat.le_of_ble_eq_true rfl, Nat.le_of_ble_eq_true rfl⟩) ⟨fun a U g mk q => by obtain ⟨q0, q1, qP, qK, qD⟩ := q; exact ⟨q0, q1, qP, va_K.moved (u := U) (U := U.calling g mk a) (Vm.Alike.refl U.vm) qK, qD⟩, hrv, fun U hU hW => ⟨rfl, by rw [hU], by rw [hU]; exact hPc, va_K.moved hW.alike hKc, hDc.weaken (fun _ _ _ _ => trivial)⟩⟩ rfl rfl hl.1 rfl (lv_room (Nat.le_of_ble_eq_true rfl)) dX4_readAtom_102 ⟨Nat.le_of_ble_eq_true rfl, Nat.le_of_ble_eq_true rfl⟩) hS (fun q _ h => hFc q h) hFc (fun u t H1 locs ht hvm hw hB hz1 hk1 hS => ?_)
      obtain ⟨x_45, x_46⟩ := u
      obtain ⟨hP1, hK1, hD1⟩ := hB
      rw [ht] at hP1
      obtain ⟨hP, hD⟩ := cl_put (w1 := (wd_c_X9_expect_2 h1 h1_0 h1_f1 x_45 x_46 h1_0 h1_0k h1_0c)) (nw := (wd_c_X4_readAtom_5 h1 h1_0 h1_f1 x_45 x_46 h1_0 h1_0k h1_0c h0 h0_0 x_39 h0_2 h0_0 h0_0k w_40)) hP hD [0, 1] [4, 5, 2, 3] 4 rfl hqc (by decide +kernel) rfl hk1 hFc hP1 hD1
      generalize H1 = H at hP hS ⊢
      as_aux_lemma =>
      rcases hw with ⟨h_47, h_48, h_49⟩
      have hK9 := hK.sub (tys' := []) [] rfl
      exact W.vret hx hb hr (fun t ht hW => ⟨⟨(x_45, x_46, x_39, w_40), rfl, ⟨h_47, h_48, h_43⟩, by rw [ht]; exact hP, va_K.moved hW.alike hK9, hD⟩, hS.F ht⟩) hS.2.2 dX4_readAtom_105
    · refine lv_aload_n hx hb dX4_readAtom_48 rfl (lv_at hl 3 rfl) ?_
      refine lv_iconst (v := 4) hx hb dX4_readAtom_49 kc_iconst_4 ?_
      obtain ⟨hPc, hDc, hFc, hqc⟩ := cl_cut (wc := (wd_c_X9_number_1 h1 h1_0 h1_f1 j20b_h1_f2 h1_f3 h1_0 h1_0k h1_0c)) hP hD hS hA [0, 1] (by decide +kernel) rfl
      have hKc := hK.sub (tys' := [(h1_0k, .int)]) [0] rfl
      have hrv := va_recv hKc hPc (ci := 9) (q0 := 0) rfl rfl
      refine va_calli (va_runV (As := [.int 4]) (rest := []) ⟨hx, hb, hml, hown, hts⟩ (c_X9_number_1 l dC dI H.size h1 h1_0 h1_f1 j20b_h1_f2 h1_f3 h1_0k h1_0c (RG_w g_h1_f1 (by decide +kernel)) (RG_w g_j20b_h1_f2 (by decide +kernel)) g_h1_f3 a_h1_0c) (cwV 1 hts gf_c_X4_readAtom_5_c_X9_number_1 rfl rfl rfl mdV_X9_number ⟨Nat.le_of_ble_eq_true rfl, Nat.le_of_ble_eq_true rfl⟩) ⟨fun a U g mk q => by obtain ⟨q0, q1, qP, qK, qD⟩ := q; exact ⟨q0, q1, qP, va_K.moved (u := U) (U := U.calling g mk a) (Vm.Alike.refl U.vm) qK, qD⟩, hrv, fun U hU hW => ⟨rfl, by rw [hU], by rw [hU]; exact hPc, va_K.moved hW.alike hKc, hDc.weaken (fun _ _ _ _ => trivial)⟩⟩ rfl rfl hl.1 rfl (lv_room (Nat.le_of_ble_eq_true rfl)) dX4_readAtom_50 ⟨Nat.le_of_ble_eq_true rfl, Nat.le_of_ble_eq_true rfl⟩) hS (fun q _ h => hFc q h) hFc (fun r_50 x_51 t H1 locs ht hvm hw hB hz1 hk1 hS => ?_)
      obtain ⟨hP1, hK1, hD1⟩ := hB
      rw [ht] at hP1
      obtain ⟨hP, hD⟩ := cl_put (w1 := (wd_c_X9_number_1 h1 h1_0 h1_f1 x_51 h1_f3 h1_0 h1_0k h1_0c)) (nw := (wd_c_X4_readAtom_5 h1 h1_0 h1_f1 x_51 h1_f3 h1_0 h1_0k h1_0c h0 h0_0 h0_f1 h0_2 h0_0 h0_0k h0_0c)) hP hD [0, 1] [4, 5, 2, 3] 4 rfl hqc (by decide +kernel) rfl hk1 hFc hP1 hD1
      generalize H1 = H at hP hS ⊢
      as_aux_lemma =>
      rcases hw with ⟨h_52, h_53, h_54⟩ | ⟨h_55, h_56, h_57, h_58, h_59⟩
      · rw [h_52]
        refine lv_istore (lv' := [(5, .int (-1)), (4, .int (-1)), (3, .int j20b_l3), (0, .ref h0), (1, .ref h1), (2, .int 5)]) hx hb dX4_readAtom_53 hl (Nat.le_of_ble_eq_true rfl) rfl (fun ls hl => ?_)
        refine lv_iload hx hb dX4_readAtom_55 (lv_at hl 0 rfl) ?_
        refine lv_iconst (v := (-1)) hx hb dX4_readAtom_57 kc_iconst_m1 ?_
        refine lv_icmp_ne (tgt := 65) hx hb dX4_readAtom_58 rfl (fun c_60 => absurd c_60 (by decide +kernel)) (fun c_60 => ?_)
        refine lv_aload_n hx hb dX4_readAtom_61 rfl (lv_at hl 4 rfl) ?_
        obtain ⟨hPc, hDc, hFc, hqc⟩ := cl_cut (wc := (wd_c_X9_refuseHere h1 h1_0 h1_f1 x_51 h1_f3)) hP hD hS hA [0] (by decide +kernel) rfl
        have hKc := hK.sub (tys' := []) [] rfl
        have hrv := va_recv hKc hPc (ci := 9) (q0 := 0) rfl rfl
        refine va_callv (va_runV (As := []) (rest := []) ⟨hx, hb, hml, hown, hts⟩ (c_X9_refuseHere l dC dI H.size h1 h1_0 h1_f1 x_51 h1_f3 (RG_w g_h1_f1 (by decide +kernel)) h_53 g_h1_f3) (cwV 0 hts gf_c_X4_readAtom_5_c_X9_refuseHere rfl rfl rfl mdV_X9_refuseHere ⟨Nat.le_of_ble_eq_true rfl, Nat.le_of_ble_eq_true rfl⟩) ⟨fun a U g mk q => by obtain ⟨q0, q1, qP, qK, qD⟩ := q; exact ⟨q0, q1, qP, va_K.moved (u := U) (U := U.calling g mk a) (Vm.Alike.refl U.vm) qK, qD⟩, hrv, fun U hU hW => ⟨rfl, by rw [hU], by rw [hU]; exact hPc, va_K.moved hW.alike hKc, hDc.weaken (fun _ _ _ _ => trivial)⟩⟩ rfl rfl hl.1 rfl (lv_room (Nat.le_of_ble_eq_true rfl)) dX4_readAtom_62 ⟨Nat.le_of_ble_eq_true rfl, Nat.le_of_ble_eq_true rfl⟩) hS (fun q _ h => hFc q h) hFc (fun x_62 t H1 locs ht hvm hw hB hz1 hk1 hS => ?_)
        obtain ⟨hP1, hK1, hD1⟩ := hB
        rw [ht] at hP1
        obtain ⟨hP, hD⟩ := cl_put (w1 := (wd_c_X9_refuseHere h1 h1_0 h1_f1 x_51 x_62)) (nw := (wd_c_X4_readAtom_5 h1 h1_0 h1_f1 x_51 x_62 h1_0 h1_0k h1_0c h0 h0_0 h0_f1 h0_2 h0_0 h0_0k h0_0c)) hP hD [0] [4, 1, 2, 3] 4 rfl hqc (by decide +kernel) rfl hk1 hFc hP1 hD1
        generalize H1 = H at hP hS ⊢
        as_aux_lemma =>
        have h_63 := hw
        exact hU _ _ _ (J65b (-1) x_51 x_62 g_h0_f1 g_h1_f1 g_h1_f2 g_h1_f3 h_53 (RG_w h_63 (by decide +kernel)) (RG_w (RG_k (-1) (-1) rfl) (by decide +kernel)) _ _ _ hP hD hS (lv_sub hl [0, 3] rfl))
      · refine lv_istore (lv' := [(5, .int r_50), (4, .int (-1)), (3, .int j20b_l3), (0, .ref h0), (1, .ref h1), (2, .int 5)]) hx hb dX4_readAtom_53 hl (Nat.le_of_ble_eq_true rfl) rfl (fun ls hl => ?_)
        refine lv_iload hx hb dX4_readAtom_55 (lv_at hl 0 rfl) ?_
        refine lv_iconst (v := (-1)) hx hb dX4_readAtom_57 kc_iconst_m1 ?_
        refine lv_icmp_ne (tgt := 65) hx hb dX4_readAtom_58 rfl (fun c_64 => ?_) (fun c_64 => ?_)
        · exact hU _ _ _ (J65b r_50 x_51 h1_f3 g_h0_f1 g_h1_f1 g_h1_f2 g_h1_f3 (RG_w h_56 (by decide +kernel)) g_h1_f3 (RG_w h_55 (by decide +kernel)) _ _ _ hP hD hS (lv_sub hl [0, 3] rfl))
        · exact RG_dead (RG_eq1 h_55 (RG_k (-1) (-1) rfl) c_64 (a' := 0) (b' := (-1)) (by decide +kernel)) (by decide +kernel)
  have J20c : ∀ (j20c_l3 : Int32) (j20c_s0 : Int32) (j20c_h1_f2 : Int32) (g_h0_f1 : RG h0_f1 0 240) (g_h1_f1 : RG h1_f1 1 240) (g_h1_f2 : RG h1_f2 0 240) (g_h1_f3 : RG h1_f3 (-1) 240) (g_j20c_h1_f2 : RG j20c_h1_f2 0 239) (g_j20c_l3 : RG j20c_l3 0 255) (g_j20c_s0 : RG j20c_s0 0 5) (H : Heap) (locs : List Loc) (ls : Array Slot) (hP : va_P (dC, dI) vwCl (wd_c_X4_readAtom_5 h1 h1_0 h1_f1 j20c_h1_f2 h1_f3 h1_0 h1_0k h1_0c h0 h0_0 h0_f1 h0_2 h0_0 h0_0k h0_0c) H) (hD : va_D A (wd_c_X4_readAtom_5 h1 h1_0 h1_f1 j20c_h1_f2 h1_f3 h1_0 h1_0k h1_0c h0 h0_0 h0_f1 h0_2 h0_0 h0_0k h0_0c)) (hS : va_S A s.heap H locs) (hl : lv_has ls 6 [(3, .int j20c_l3), (0, .ref h0), (1, .ref h1), (2, .int 5)]), G H locs (F0 m 20 ls [.int j20c_s0]) := by
    as_aux_lemma =>
    intro j20c_l3 j20c_s0 j20c_h1_f2 g_h0_f1 g_h1_f1 g_h1_f2 g_h1_f3 g_j20c_h1_f2 g_j20c_l3 g_j20c_s0 H locs ls hP hD hS hl
    refine hG _ _ _ ?_
    refine lv_istore (lv' := [(4, .int j20c_s0), (3, .int j20c_l3), (0, .ref h0), (1, .ref h1), (2, .int 5)]) hx hb dX4_readAtom_20 hl (Nat.le_of_ble_eq_true rfl) rfl (fun ls hl => ?_)
    refine lv_iload hx hb dX4_readAtom_22 (lv_at hl 0 rfl) ?_
    refine lv_if_lt (tgt := 42) hx hb dX4_readAtom_24 rfl (fun c_65 => ?_) (fun c_65 => ?_)
    · have g_66 : RG j20c_s0 0 (-1) := RG_lt1 g_j20c_s0 (RG_k 0 0 rfl) c_65 (by decide +kernel)
      exact RG_dead (RG_lt1 g_j20c_s0 (RG_k 0 0 rfl) c_65 (b' := (-1)) (by decide +kernel)) (by decide +kernel)
    · have d_67 := Int32.not_lt.mp c_65
      refine lv_aload_n hx hb dX4_readAtom_27 rfl (lv_at hl 3 rfl) ?_
      obtain ⟨hPc, hDc, hFc, hqc⟩ := cl_cut (wc := (wd_c_X9_skip h1 h1_0 h1_f1 j20c_h1_f2 h1_f3)) hP hD hS hA [0] (by decide +kernel) rfl
      have hKc := hK.sub (tys' := []) [] rfl
      have hrv := va_recv hKc hPc (ci := 9) (q0 := 0) rfl rfl
      refine va_callv (va_runV (As := []) (rest := []) ⟨hx, hb, hml, hown, hts⟩ (c_X9_skip l dC dI H.size h1 h1_0 h1_f1 j20c_h1_f2 h1_f3 (RG_w g_h1_f1 (by decide +kernel)) g_j20c_h1_f2 g_h1_f3) (cwV 0 hts gf_c_X4_readAtom_5_c_X9_skip rfl rfl rfl mdV_X9_skip ⟨Nat.le_of_ble_eq_true rfl, Nat.le_of_ble_eq_true rfl⟩) ⟨fun a U g mk q => by obtain ⟨q0, q1, qP, qK, qD⟩ := q; exact ⟨q0, q1, qP, va_K.moved (u := U) (U := U.calling g mk a) (Vm.Alike.refl U.vm) qK, qD⟩, hrv, fun U hU hW => ⟨rfl, by rw [hU], by rw [hU]; exact hPc, va_K.moved hW.alike hKc, hDc.weaken (fun _ _ _ _ => trivial)⟩⟩ rfl rfl hl.1 rfl (lv_room (Nat.le_of_ble_eq_true rfl)) dX4_readAtom_28 ⟨Nat.le_of_ble_eq_true rfl, Nat.le_of_ble_eq_true rfl⟩) hS (fun q _ h => hFc q h) hFc (fun x_69 t H1 locs ht hvm hw hB hz1 hk1 hS => ?_)
      obtain ⟨hP1, hK1, hD1⟩ := hB
      rw [ht] at hP1
      obtain ⟨hP, hD⟩ := cl_put (w1 := (wd_c_X9_skip h1 h1_0 h1_f1 x_69 h1_f3)) (nw := (wd_c_X4_readAtom_5 h1 h1_0 h1_f1 x_69 h1_f3 h1_0 h1_0k h1_0c h0 h0_0 h0_f1 h0_2 h0_0 h0_0k h0_0c)) hP hD [0] [4, 1, 2, 3] 4 rfl hqc (by decide +kernel) rfl hk1 hFc hP1 hD1
      generalize H1 = H at hP hS ⊢
      as_aux_lemma =>
      rcases hw with ⟨h_70, h_71, h_72⟩
      refine lv_aload_n hx hb dX4_readAtom_31 rfl (lv_at hl 2 rfl) ?_
      refine lv_iconst (v := (-1)) hx hb dX4_readAtom_32 kc_iconst_m1 ?_
      refine lv_iload hx hb dX4_readAtom_33 (lv_at hl 0 rfl) ?_
      refine lv_isub hx hb dX4_readAtom_35 ?_
      refine lv_topi (fun x_73 ex_73 => ?_)
      have g_74 : RG x_73 (-6) (-1) := RG_sub ex_73 (RG_k (-1) (-1) rfl) g_j20c_s0 (by decide +kernel)
      obtain ⟨hPc, hDc, hFc, hqc⟩ := cl_cut (wc := (wd_c_X4_emit h0 h0_0 h0_f1 h0_2 h0_0 h0_0k h0_0c)) hP hD hS hA [2, 3] (by decide +kernel) rfl
      have hKc := hK.sub (tys' := [(h0_0k, .int)]) [1] rfl
      have hrv := va_recv hKc hPc (ci := 4) (q0 := 0) rfl rfl
      refine va_callv (va_runV (As := [.int x_73]) (rest := []) ⟨hx, hb, hml, hown, hts⟩ (c_X4_emit l dC dI H.size h0 x_73 h0_0 h0_f1 h0_2 h0_0k h0_0c g_h0_f1) (cwV 1 hts gf_c_X4_readAtom_5_c_X4_emit rfl rfl rfl mdV_X4_emit ⟨Nat.le_of_ble_eq_true rfl, Nat.le_of_ble_eq_true rfl⟩) ⟨fun a U g mk q => by obtain ⟨q0, q1, qP, qK, qD⟩ := q; exact ⟨q0, q1, qP, va_K.moved (u := U) (U := U.calling g mk a) (Vm.Alike.refl U.vm) qK, qD⟩, hrv, fun U hU hW => ⟨rfl, by rw [hU], by rw [hU]; exact hPc, va_K.moved hW.alike hKc, hDc.weaken (fun _ _ _ _ => trivial)⟩⟩ rfl rfl hl.1 rfl (lv_room (Nat.le_of_ble_eq_true rfl)) dX4_readAtom_36 ⟨Nat.le_of_ble_eq_true rfl, Nat.le_of_ble_eq_true rfl⟩) hS (fun q _ h => hFc q h) hFc (fun u t H1 locs ht hvm hw hB hz1 hk1 hS => ?_)
      obtain ⟨x_76, w_77⟩ := u
      obtain ⟨hP1, hK1, hD1⟩ := hB
      rw [ht] at hP1
      obtain ⟨hP, hD⟩ := cl_put (w1 := (wd_c_X4_emit h0 h0_0 x_76 h0_2 h0_0 h0_0k w_77)) (nw := (wd_c_X4_readAtom_5 h1 h1_0 h1_f1 x_69 h1_f3 h1_0 h1_0k h1_0c h0 h0_0 x_76 h0_2 h0_0 h0_0k w_77)) hP hD [2, 3] [0, 1, 4, 5] 4 rfl hqc (by decide +kernel) rfl hk1 hFc hP1 hD1
      generalize H1 = H at hP hS ⊢
      as_aux_lemma =>
      have h_78 := hw
      refine lv_goto (tgt := 105) hx hb dX4_readAtom_39 rfl ?_
      have hK9 := hK.sub (tys' := []) [] rfl
      exact W.vret hx hb hr (fun t ht hW => ⟨⟨(x_69, h1_f3, x_76, w_77), rfl, ⟨(RG_w h_70 (by decide +kernel)), g_h1_f3, (RG_w h_78 (by decide +kernel))⟩, by rw [ht]; exact hP, va_K.moved hW.alike hK9, hD⟩, hS.F ht⟩) hS.2.2 dX4_readAtom_105
  refine hG _ _ _ ?_
  refine lv_aload_n hx hb dX4_readAtom_0 rfl (lv_at hl 1 rfl) ?_
  obtain ⟨hPc, hDc, hFc, hqc⟩ := cl_cut (wc := (wd_c_X9_peek h1 h1_0 h1_f1 h1_f2 h1_f3 h1_0 h1_0k h1_0c)) hP hD hS hA [0, 1] (by decide +kernel) rfl
  have hKc := hK.sub (tys' := [(h1_0k, .int)]) [0] rfl
  have hrv := va_recv hKc hPc (ci := 9) (q0 := 0) rfl rfl
  refine va_calli (va_runV (As := []) (rest := []) ⟨hx, hb, hml, hown, hts⟩ (c_X9_peek l dC dI H.size h1 h1_0 h1_f1 h1_f2 h1_f3 h1_0k h1_0c g_h1_f1 g_h1_f2 g_h1_f3 a_h1_0c) (cwV 0 hts gf_c_X4_readAtom_5_c_X9_peek rfl rfl rfl mdV_X9_peek ⟨Nat.le_of_ble_eq_true rfl, Nat.le_of_ble_eq_true rfl⟩) ⟨fun a U g mk q => by obtain ⟨q0, q1, qP, qK, qD⟩ := q; exact ⟨q0, q1, qP, va_K.moved (u := U) (U := U.calling g mk a) (Vm.Alike.refl U.vm) qK, qD⟩, hrv, fun U hU hW => ⟨rfl, by rw [hU], by rw [hU]; exact hPc, va_K.moved hW.alike hKc, hDc.weaken (fun _ _ _ _ => trivial)⟩⟩ rfl rfl hl.1 rfl (lv_room (Nat.le_of_ble_eq_true rfl)) dX4_readAtom_1 ⟨Nat.le_of_ble_eq_true rfl, Nat.le_of_ble_eq_true rfl⟩) hS (fun q _ h => hFc q h) hFc (fun r_79 x_80 t H1 locs ht hvm hw hB hz1 hk1 hS => ?_)
  obtain ⟨hP1, hK1, hD1⟩ := hB
  rw [ht] at hP1
  obtain ⟨hP, hD⟩ := cl_put (w1 := (wd_c_X9_peek h1 h1_0 h1_f1 x_80 h1_f3 h1_0 h1_0k h1_0c)) (nw := (wd_c_X4_readAtom_5 h1 h1_0 h1_f1 x_80 h1_f3 h1_0 h1_0k h1_0c h0 h0_0 h0_f1 h0_2 h0_0 h0_0k h0_0c)) hP hD [0, 1] [4, 5, 2, 3] 4 rfl hqc (by decide +kernel) rfl hk1 hFc hP1 hD1
  generalize H1 = H at hP hS ⊢
  as_aux_lemma =>
  rcases hw with ⟨h_81, h_82, h_83⟩ | ⟨h_84, h_85, h_86, h_87⟩
  · rw [h_81]
    refine lv_istore_n (lv' := [(3, .int (-1)), (0, .ref h0), (1, .ref h1), (2, .int 5)]) hx hb dX4_readAtom_4 rfl hl (Nat.le_of_ble_eq_true rfl) rfl (fun ls hl => ?_)
    refine lv_iload_n hx hb dX4_readAtom_5 rfl (lv_at hl 0 rfl) ?_
    refine lv_if_ge (tgt := 13) hx hb dX4_readAtom_6 rfl (fun c_88 => absurd c_88 (by decide +kernel)) (fun c_88 => ?_)
    refine lv_iconst (v := (-1)) hx hb dX4_readAtom_9 kc_iconst_m1 ?_
    refine lv_goto (tgt := 20) hx hb dX4_readAtom_10 rfl ?_
    exact hU _ _ _ (J20 x_80 g_h0_f1 g_h1_f1 g_h1_f2 g_h1_f3 h_82 _ _ _ hP hD hS (lv_sub hl [0, 1, 2, 3] rfl))
  · refine lv_istore_n (lv' := [(3, .int r_79), (0, .ref h0), (1, .ref h1), (2, .int 5)]) hx hb dX4_readAtom_4 rfl hl (Nat.le_of_ble_eq_true rfl) rfl (fun ls hl => ?_)
    refine lv_iload_n hx hb dX4_readAtom_5 rfl (lv_at hl 0 rfl) ?_
    refine lv_if_ge (tgt := 13) hx hb dX4_readAtom_6 rfl (fun c_89 => ?_) (fun c_89 => ?_)
    · refine va_ldcS hx hb hown hE_32 dX4_readAtom_13 ?_
      refine lv_iload_n hx hb dX4_readAtom_15 rfl (lv_at hl 0 rfl) ?_
      refine lv_i2c hx hb dX4_readAtom_16 rfl ?_
      as_aux_lemma =>
      refine lv_topi (fun x_90 ex_90 => ?_)
      have g_91 : RG x_90 0 65535 := RG_i2c ex_90
      obtain ⟨hPc, hDc, hFc, hqc⟩ := cl_cut (wc := []) hP hD hS hA [] (by decide +kernel) rfl
      have hKc := hK.sub (tys' := []) [] rfl
      have hrv := bv_Orecv hE_33 hS
      refine va_calli (va_runV (As := [.int x_90]) (rest := []) ⟨hx, hb, hml, hown, hts⟩ (c_J0_indexOf_0f7a4_4 l dC dI H.size ts4 x_90 tv4 g_91) (cwV 1 hts gf_c_X4_readAtom_5_c_J0_indexOf_0f7a4_4 rfl rfl rfl mdV_J0_indexOf_0f7a4 ⟨Nat.le_of_ble_eq_true rfl, Nat.le_of_ble_eq_true rfl⟩) ⟨fun a U g mk q => by obtain ⟨q0, q1, qP, qK, qD, qE0, qE1, qE2, qE3, qE4⟩ := q; exact ⟨q0, q1, qP, va_K.moved (u := U) (U := U.calling g mk a) (Vm.Alike.refl U.vm) qK, qD, va_Z.moved (u := U) (U := U.calling g mk a) (Vm.Alike.refl U.vm) qE0, va_OF.moved (u := U) (U := U.calling g mk a) (Vm.Alike.refl U.vm) qE1, va_O.moved (u := U) (U := U.calling g mk a) (Vm.Alike.refl U.vm) qE2, va_OF.moved (u := U) (U := U.calling g mk a) (Vm.Alike.refl U.vm) qE3, va_T.moved (u := U) (U := U.calling g mk a) (Vm.Alike.refl U.vm) qE4⟩, hrv, fun U hU hW => ⟨rfl, by rw [hU], by rw [hU]; exact hPc, va_K.moved hW.alike hKc, hDc.weaken (fun _ _ _ _ => trivial), va_Z.moved hW.alike (by rw [hU]; exact (hE_10.kept hS.2.1).narrow hFc), va_OF.moved hW.alike (by rw [hU]; exact (hE_34.kept hS.2.1).narrow hFc), va_O.moved hW.alike (by rw [hU]; exact (hE_33.kept hS.2.1).narrow hFc), va_OF.moved hW.alike (by rw [hU]; exact (hE_35.kept hS.2.1).narrow hFc), va_T.moved hW.alike (by rw [hU]; exact (hE_36.kept hS.2.1).narrow hFc)⟩⟩ rfl rfl hl.1 rfl (lv_room (Nat.le_of_ble_eq_true rfl)) dX4_readAtom_17 ⟨Nat.le_of_ble_eq_true rfl, Nat.le_of_ble_eq_true rfl⟩) hS (fun q _ h => hFc q h) hFc (fun r_92 u t H1 locs ht hvm hw hB hz1 hk1 hS => ?_)
      obtain ⟨hP1, hK1, hD1⟩ := hB
      rw [ht] at hP1
      have hP := bv_still hP hk1
      generalize H1 = H at hP hS ⊢
      as_aux_lemma =>
      rcases hw with h_93 | ⟨h_94, h_95⟩
      · rw [h_93]
        exact hU _ _ _ (J20b r_79 x_80 g_h0_f1 h_86 g_h1_f2 g_h1_f3 h_85 h_84 _ _ _ hP hD hS (lv_sub hl [0, 1, 2, 3] rfl))
      · exact hU _ _ _ (J20c r_79 r_92 x_80 g_h0_f1 h_86 g_h1_f2 g_h1_f3 h_85 h_84 h_94 _ _ _ hP hD hS (lv_sub hl [0, 1, 2, 3] rfl))
    · have d_96 := Int32.not_le.mp c_89
      have g_97 : RG r_79 0 (-1) := RG_lt1 h_84 (RG_k 0 0 rfl) d_96 (by decide +kernel)
      exact RG_dead (RG_lt1 h_84 (RG_k 0 0 rfl) d_96 (b' := (-1)) (by decide +kernel)) (by decide +kernel)
noncomputable def wd_c_X4_readSum_5 (a0 : Nat) (a1 : Nat) (a2 : Int32) (a3 : Int32) (a4 : Int32) (a5 : Nat) (a6 : ClassId) (a7 : Nat → Int32) (a8 : Nat) (a9 : Nat) (a10 : Int32) (a11 : Nat) (a12 : Nat) (a13 : ClassId) (a14 : Nat → Int32) : va_W := [(a0, .inr (9, [.ref a1, .int a2, .int a3, .int a4])), (a5, .inl (a6, 240, .inl a7)), (a8, .inr (4, [.ref a9, .int a10, .ref a11])), (a12, .inl (a13, 240, .inl a14))]
noncomputable def wf_c_X4_readSum_5 : List Cond := List.cons (.code yX4_readSum cX4_readSum 6 none) (@HAppend.hAppend (List Cond) (List Cond) (List Cond) _ (@HAppend.hAppend (List Cond) (List Cond) (List Cond) _ [.methodLink RX4 72 yX9_isRight, .instanceMethod yX9_isRight, .selects RX9 yX9_isRight yX9_isRight, .initialized RX9, .code yX9_isRight cX9_isRight 1 (some .boolean), .fieldLink RX9 15 "BuoyVote$Tape" "wrong" "I", .methodLink RX4 85 yX4_readAtom, .instanceMethod yX4_readAtom, .selects RX4 yX4_readAtom yX4_readAtom, .initialized RX4, .code yX4_readAtom cX4_readAtom 6 none, .methodLink RX4 41 yX9_peek, .instanceMethod yX9_peek, .selects RX9 yX9_peek yX9_peek, .code yX9_peek cX9_peek 1 (some .int), .fieldLink RX9 22 "BuoyVote$Tape" "at" "I", .fieldLink RX9 19 "BuoyVote$Tape" "length" "I", .fieldLink RX9 11 "BuoyVote$Tape" "bytes" "[I", .methodLink RX4 93 yJ0_indexOf_0f7a4, .instanceMethod yJ0_indexOf_0f7a4, .selects RJ0 yJ0_indexOf_0f7a4 yJ0_indexOf_0f7a4, .initialized RJ0, .code yJ0_indexOf_0f7a4 cJ0_indexOf_0f7a4 2 (some .int), .methodLink RJ0 633 yJ0_indexOf_7cf53, .instanceMethod yJ0_indexOf_7cf53, .selects RJ0 yJ0_indexOf_7cf53 yJ0_indexOf_7cf53, .code yJ0_indexOf_7cf53 cJ0_indexOf_7cf53 3 (some .int), .methodLink RJ0 492 yJ0_isLatin1_aae02, .instanceMethod yJ0_isLatin1_aae02, .selects RJ0 yJ0_isLatin1_aae02 yJ0_isLatin1_aae02, .code yJ0_isLatin1_aae02 cJ0_isLatin1_aae02 1 (some .boolean), .fieldLink RJ0 38 "java/lang/String" "COMPACT_STRINGS" "Z", .fieldLink RJ0 15 "java/lang/String" "coder" "B", .fieldLink RJ0 9 "java/lang/String" "value" "[B", .methodLink RJ0 505 yJ0_length_8abf5, .instanceMethod yJ0_length_8abf5, .selects RJ0 yJ0_length_8abf5 yJ0_length_8abf5, .code yJ0_length_8abf5 cJ0_length_8abf5 1 (some .int), .methodLink RJ0 335 yJ0_coder_7d493, .instanceMethod yJ0_coder_7d493, .selects RJ0 yJ0_coder_7d493 yJ0_coder_7d493, .code yJ0_coder_7d493 cJ0_coder_7d493 1 (some .byte), .methodLink RJ0 637 yJ1_indexOf_4cfef, .static yJ1_indexOf_4cfef, .initialized RJ1, .code yJ1_indexOf_4cfef cJ1_indexOf_4cfef 4 (some .int), .methodLink RJ1 88 yJ1_canEncode_9a6ad, .static yJ1_canEncode_9a6ad, .code yJ1_canEncode_9a6ad cJ1_canEncode_9a6ad 1 (some .boolean), .methodLink RJ1 92 Lib.Math.max.name, .static Lib.Math.max.name, .initialized "java/lang/Math", .code Lib.Math.max.name Lib.Math.max.code 2 (some .int), .methodLink RJ1 38 Lib.Math.min.name, .static Lib.Math.min.name, .code Lib.Math.min.name Lib.Math.min.code 2 (some .int), .methodLink RJ1 95 yJ1_indexOfChar_4cfef, .static yJ1_indexOfChar_4cfef, .code yJ1_indexOfChar_4cfef cJ1_indexOfChar_4cfef 6 (some .int), .methodLink RX4 99 yX9_number, .instanceMethod yX9_number, .selects RX9 yX9_number yX9_number, .code yX9_number cX9_number 4 (some .int), .methodLink RX4 82 yX9_refuseHere, .instanceMethod yX9_refuseHere, .selects RX9 yX9_refuseHere yX9_refuseHere, .code yX9_refuseHere cX9_refuseHere 1 none, .methodLink RX9 25 yX9_refuse, .instanceMethod yX9_refuse, .selects RX9 yX9_refuse yX9_refuse, .code yX9_refuse cX9_refuse 2 none, .methodLink RX4 79 yX9_skip, .instanceMethod yX9_skip, .selects RX9 yX9_skip yX9_skip, .code yX9_skip cX9_skip 1 none, .methodLink RX4 49 yX4_readSum, .instanceMethod yX4_readSum, .selects RX4 yX4_readSum yX4_readSum, .methodLink RX4 60 yX4_emit, .instanceMethod yX4_emit, .selects RX4 yX4_emit yX4_emit, .code yX4_emit cX4_emit 2 none, .fieldLink RX4 20 "BuoyVote$Law" "length" "I", .fieldLink RX4 11 "BuoyVote$Law" "code" "[I", .methodLink RX4 88 yX9_takeEither, .instanceMethod yX9_takeEither, .selects RX9 yX9_takeEither yX9_takeEither, .code yX9_takeEither cX9_takeEither 4 (some .int), .methodLink RX9 29 yX9_peek, .methodLink RX4 37 yX9_expect, .instanceMethod yX9_expect, .selects RX9 yX9_expect yX9_expect, .code yX9_expect cX9_expect 2 none] wsX90) wsX40)
theorem iw_c_X4_readSum_5_X9 : ∀ w ∈ wsX90, w ∈ wf_c_X4_readSum_5 := fun w h => List.mem_cons_of_mem _ (List.mem_append_left _ (List.mem_append_right _ h))
theorem iw_c_X4_readSum_5_X4 : ∀ w ∈ wsX40, w ∈ wf_c_X4_readSum_5 := fun w h => List.mem_cons_of_mem _ (List.mem_append_right _ h)
set_option maxRecDepth 20000 in
theorem gf_c_X4_readSum_5_c_X9_takeEither : GoodIn wf_c_X4_readSum_5 (wsV RX4 88 RX9 yX9_takeEither wf_c_X9_takeEither) := goodIn_app (gi_l [85, 86, 87, 4] rfl rfl) (gi_cons (j := 88) rfl rfl (goodIn_app (gi_l [89, 13, 14, 4, 15, 16, 17, 18, 6] rfl rfl) (goodIn_sub iw_c_X4_readSum_5_X9 gw_X9)))
set_option maxRecDepth 20000 in
theorem gf_c_X4_readSum_5_c_X4_emit : GoodIn wf_c_X4_readSum_5 (wsV RX4 60 RX4 yX4_emit wf_c_X4_emit) := goodIn_app (gi_l [79, 80, 81, 10] rfl rfl) (gi_cons (j := 82) rfl rfl (goodIn_app (gi_l [83, 84] rfl rfl) (goodIn_sub iw_c_X4_readSum_5_X4 gw_X4)))
set_option maxRecDepth 20000 in
theorem gf_c_X4_readSum_5_c_X9_isRight : GoodIn wf_c_X4_readSum_5 (wsV RX4 72 RX9 yX9_isRight wf_c_X9_isRight) := goodIn_app (gi_l [1, 2, 3, 4] rfl rfl) (gi_cons (j := 5) rfl rfl (goodIn_app (gi_l [6] rfl rfl) (goodIn_sub iw_c_X4_readSum_5_X9 gw_X9)))
set_option maxRecDepth 20000 in
theorem gf_c_X4_readSum_5_c_X4_readAtom_5 : GoodIn wf_c_X4_readSum_5 (wsV RX4 85 RX4 yX4_readAtom wf_c_X4_readAtom_5) := goodIn_app (gi_l [7, 8, 9, 10] rfl rfl) (gi_cons (j := 11) rfl rfl (goodIn_app (goodIn_app (gi_l [12, 13, 14, 4, 15, 16, 17, 18, 19, 20, 21, 22, 23, 24, 25, 26, 27, 28, 29, 30, 31, 32, 33, 34, 35, 36, 37, 38, 39, 40, 41, 42, 43, 44, 45, 46, 47, 48, 49, 50, 51, 52, 53, 54, 55, 56, 57, 58, 59, 60, 61, 62, 63, 64, 65, 66, 67, 68, 69, 70, 71, 6, 72, 73, 74, 75, 76, 77, 78, 10, 0, 1, 2, 3, 5, 7, 8, 9, 79, 80, 81, 82, 83, 84, 85, 86, 87, 88, 89, 90, 91, 92, 93] rfl rfl) (goodIn_sub iw_c_X4_readSum_5_X9 gw_X9)) (goodIn_sub iw_c_X4_readSum_5_X4 gw_X4)))
set_option maxHeartbeats 4000000 in
set_option maxRecDepth 100000 in
theorem c_X4_readSum_5 (l : Launch) (dC : Nat → ClassId) (dI : Nat → Nat → Nat) (sz : Nat) (h0 : Nat) (h1 : Nat) (h1_0 : Nat) (h1_f1 : Int32) (h1_f2 : Int32) (h1_f3 : Int32) (h1_0k : ClassId) (h1_0c : Nat → Int32) (h0_0 : Nat) (h0_f1 : Int32) (h0_2 : Nat) (h0_0k : ClassId) (h0_0c : Nat → Int32) (ts4 : Nat) (tv4 : Nat) (g_h1_f1 : RG h1_f1 0 240) (g_h1_f2 : RG h1_f2 0 240) (g_h1_f3 : RG h1_f3 (-1) 240) (a_h1_0c : AI h1_0c 0 255) (g_h0_f1 : RG h0_f1 0 240) : Met l yX4_readSum wf_c_X4_readSum_5 ({ frames := 7, cells := 0, slots := 0, locals := 166 }) (va_Pc [.ref h0, .ref h1, .int 5] (fun U => U.heap.size = sz ∧ va_P (dC, dI) vwCl (wd_c_X4_readSum_5 h1 h1_0 h1_f1 h1_f2 h1_f3 h1_0 h1_0k h1_0c h0 h0_0 h0_f1 h0_2 h0_0 h0_0k h0_0c) U.heap ∧ va_K (dC, dI) vwCl [(h1_0k, .int), (h0_0k, .int)] U ∧ va_D (fun _ => True) (wd_c_X4_readSum_5 h1 h1_0 h1_f1 h1_f2 h1_f3 h1_0 h1_0k h1_0c h0 h0_0 h0_f1 h0_2 h0_0 h0_0k h0_0c) ∧ vk_R RX4 91 "vlrdph" ts4 U ∧ va_Z "java/lang/String" "COMPACT_STRINGS" "Z" (.int 1) (va_A (wd_c_X4_readSum_5 h1 h1_0 h1_f1 h1_f2 h1_f3 h1_0 h1_0k h1_0c h0 h0_0 h0_f1 h0_2 h0_0 h0_0k h0_0c) sz) U U.heap ∧ va_OF "java/lang/String" "coder" "B" (.int 0) ts4 (va_A (wd_c_X4_readSum_5 h1 h1_0 h1_f1 h1_f2 h1_f3 h1_0 h1_0k h1_0c h0 h0_0 h0_f1 h0_2 h0_0 h0_0k h0_0c) sz) U U.heap ∧ va_O "java/lang/String" ts4 (va_A (wd_c_X4_readSum_5 h1 h1_0 h1_f1 h1_f2 h1_f3 h1_0 h1_0k h1_0c h0 h0_0 h0_f1 h0_2 h0_0 h0_0k h0_0c) sz) U U.heap ∧ va_OF "java/lang/String" "value" "[B" (.ref tv4) ts4 (va_A (wd_c_X4_readSum_5 h1 h1_0 h1_f1 h1_f2 h1_f3 h1_0 h1_0k h1_0c h0 h0_0 h0_f1 h0_2 h0_0 h0_0k h0_0c) sz) U U.heap ∧ va_T .byte tv4 6 (fun j => .int ([118, 108, 114, 100, 112, 104].getD j 0)) (va_A (wd_c_X4_readSum_5 h1 h1_0 h1_f1 h1_f2 h1_f3 h1_0 h1_0k h1_0c h0 h0_0 h0_f1 h0_2 h0_0 h0_0k h0_0c) sz) U U.heap)) (va_Qv (fun (u : (Int32) × (Int32) × (Int32) × (Nat → Int32)) => (RG u.1 0 240 ∧ RG u.2.1 (-1) 240 ∧ RG u.2.2.1 0 240)) (fun (u : (Int32) × (Int32) × (Int32) × (Nat → Int32)) t => va_P (dC, dI) vwCl (wd_c_X4_readSum_5 h1 h1_0 h1_f1 (u.1) (u.2.1) h1_0 h1_0k h1_0c h0 h0_0 (u.2.2.1) h0_2 h0_0 h0_0k (u.2.2.2)) t.heap ∧ va_K (dC, dI) vwCl [] t ∧ va_D (va_A (wd_c_X4_readSum_5 h1 h1_0 h1_f1 h1_f2 h1_f3 h1_0 h1_0k h1_0c h0 h0_0 h0_f1 h0_2 h0_0 h0_0k h0_0c) sz) (wd_c_X4_readSum_5 h1 h1_0 h1_f1 (u.1) (u.2.1) h1_0 h1_0k h1_0c h0 h0_0 (u.2.2.1) h0_2 h0_0 h0_0k (u.2.2.2))) (va_A (wd_c_X4_readSum_5 h1 h1_0 h1_f1 h1_f2 h1_f3 h1_0 h1_0k h1_0c h0 h0_0 h0_f1 h0_2 h0_0 h0_0k h0_0c) sz)) 0 0 (va_A (wd_c_X4_readSum_5 h1 h1_0 h1_f1 h1_f2 h1_f3 h1_0 h1_0k h1_0c h0 h0_0 h0_f1 h0_2 h0_0 h0_0k h0_0c) sz) := by
  refine Met.ofW (cc := cX4_readSum) (maxL := 6) (ret := none) (by decide +kernel) rfl ?_
  intro p e s m args below meth c s₁ B hml hv
  obtain ⟨rfl, hsz, hP, hK, hD0, hE_32, hE_10, hE_34, hE_33, hE_35, hE_36⟩ := hv
  have hx := B.exec
  have hb := B.bytes
  have hr := B.returns
  have hts := atoms_spec (ws := wf_c_X4_readSum_5) B.pre
  have hown : s.vm.findClass RX4 = some m.cls := findClass_of_methodNamed B.named
  have hlocks := B.notSynchronized
  subst hsz
  have hD := hD0.self (sz := s.heap.size)
  generalize hAe : va_A (wd_c_X4_readSum_5 h1 h1_0 h1_f1 h1_f2 h1_f3 h1_0 h1_0k h1_0c h0 h0_0 h0_f1 h0_2 h0_0 h0_0k h0_0c) s.heap.size = A at hD hE_10 hE_34 hE_33 hE_35 hE_36 ⊢
  have hA : ∀ q : Nat, s.heap.size ≤ q → A q := fun q h => by rw [← hAe]; exact Or.inr h
  have hP : va_P (dC, dI) vwCl (wd_c_X4_readSum_5 h1 h1_0 h1_f1 h1_f2 h1_f3 h1_0 h1_0k h1_0c h0 h0_0 h0_f1 h0_2 h0_0 h0_0k h0_0c) s.heap := hP
  have hl := lv_entry ([.ref h0, .ref h1, .int 5]) (n := 6) (Nat.le_of_ble_eq_true rfl)
  rw [lg_entry_eq]
  generalize (lg_sl ([.ref h0, .ref h1, .int 5]) ++ List.replicate (6 - (lg_sl ([.ref h0, .ref h1, .int 5])).length) Slot.unset).toArray = ls at hl ⊢
  have hl : lv_has ls 6 [(0, .ref h0), (1, .ref h1), (2, .int 5)] := hl
  obtain ⟨H, hHe⟩ : ∃ H : Heap, s.heap = H := ⟨_, rfl⟩
  have hS : va_S A s.heap H [] := by rw [hHe]; exact va_S.rf
  have hP : va_P (dC, dI) vwCl (wd_c_X4_readSum_5 h1 h1_0 h1_f1 h1_f2 h1_f3 h1_0 h1_0k h1_0c h0 h0_0 h0_f1 h0_2 h0_0 h0_0k h0_0c) H := by rw [← hHe]; exact hP
  rw [hHe]
  refine wj (fun G hG hU => ?_)
  as_aux_lemma =>
  have J8 : ∀ (n8 : Nat) (j8_l5 : Int32) (j8_l4 : Int32) (j8_l3 : Int32) (j8_h1_f2 : Int32) (j8_h1_f3 : Int32) (j8_h0_f1 : Int32) (j8_h0_0c : Nat → Int32) (hM8 : MU j8_l5 < n8) (g_h0_f1 : RG h0_f1 0 240) (g_h1_f1 : RG h1_f1 0 240) (g_h1_f2 : RG h1_f2 0 240) (g_h1_f3 : RG h1_f3 (-1) 240) (g_j8_h0_f1 : RG j8_h0_f1 0 240) (g_j8_h1_f2 : RG j8_h1_f2 0 240) (g_j8_h1_f3 : RG j8_h1_f3 (-1) 240) (g_j8_l3 : RG j8_l3 0 60) (g_j8_l4 : RG j8_l4 0 60) (g_j8_l5 : RG j8_l5 0 240) (H : Heap) (locs : List Loc) (ls : Array Slot) (hP : va_P (dC, dI) vwCl (wd_c_X4_readSum_5 h1 h1_0 h1_f1 j8_h1_f2 j8_h1_f3 h1_0 h1_0k h1_0c h0 h0_0 j8_h0_f1 h0_2 h0_0 h0_0k j8_h0_0c) H) (hD : va_D A (wd_c_X4_readSum_5 h1 h1_0 h1_f1 j8_h1_f2 j8_h1_f3 h1_0 h1_0k h1_0c h0 h0_0 j8_h0_f1 h0_2 h0_0 h0_0k j8_h0_0c)) (hS : va_S A s.heap H locs) (hl : lv_has ls 6 [(5, .int j8_l5), (4, .int j8_l4), (3, .int j8_l3), (0, .ref h0), (1, .ref h1), (2, .int 5)]), G H locs (F0 m 8 ls []) := by
    as_aux_lemma =>
    intro n8
    induction n8 with
    | zero => intros; exact absurd (by assumption) (Nat.not_lt_zero _)
    | succ n8 ih8 =>
      intro j8_l5 j8_l4 j8_l3 j8_h1_f2 j8_h1_f3 j8_h0_f1 j8_h0_0c hM8 g_h0_f1 g_h1_f1 g_h1_f2 g_h1_f3 g_j8_h0_f1 g_j8_h1_f2 g_j8_h1_f3 g_j8_l3 g_j8_l4 g_j8_l5 H locs ls hP hD hS hl
      have J80 : ∀ (j80_l3 : Int32) (j80_l4 : Int32) (j80_h1_f2 : Int32) (j80_h1_f3 : Int32) (j80_h0_f1 : Int32) (j80_h0_0c : Nat → Int32) (g_h0_f1 : RG h0_f1 0 240) (g_h1_f1 : RG h1_f1 1 240) (g_h1_f2 : RG h1_f2 0 240) (g_h1_f3 : RG h1_f3 (-1) 240) (g_j80_h0_f1 : RG j80_h0_f1 0 240) (g_j80_h1_f2 : RG j80_h1_f2 1 240) (g_j80_h1_f3 : RG j80_h1_f3 (-1) (-1)) (g_j80_l3 : RG j80_l3 0 60) (g_j80_l4 : RG j80_l4 0 60) (g_j8_h0_f1 : RG j8_h0_f1 0 240) (g_j8_h1_f2 : RG j8_h1_f2 0 240) (g_j8_h1_f3 : RG j8_h1_f3 (-1) (-1)) (g_j8_l3 : RG j8_l3 0 60) (g_j8_l4 : RG j8_l4 0 60) (g_j8_l5 : RG j8_l5 0 239) (H : Heap) (locs : List Loc) (ls : Array Slot) (hP : va_P (dC, dI) vwCl (wd_c_X4_readSum_5 h1 h1_0 h1_f1 j80_h1_f2 j80_h1_f3 h1_0 h1_0k h1_0c h0 h0_0 j80_h0_f1 h0_2 h0_0 h0_0k j80_h0_0c) H) (hD : va_D A (wd_c_X4_readSum_5 h1 h1_0 h1_f1 j80_h1_f2 j80_h1_f3 h1_0 h1_0k h1_0c h0 h0_0 j80_h0_f1 h0_2 h0_0 h0_0k j80_h0_0c)) (hS : va_S A s.heap H locs) (hl : lv_has ls 6 [(3, .int j80_l3), (5, .int j8_l5), (4, .int j80_l4), (0, .ref h0), (1, .ref h1), (2, .int 5)]), G H locs (F0 m 80 ls []) := by
        as_aux_lemma =>
        intro j80_l3 j80_l4 j80_h1_f2 j80_h1_f3 j80_h0_f1 j80_h0_0c g_h0_f1 g_h1_f1 g_h1_f2 g_h1_f3 g_j80_h0_f1 g_j80_h1_f2 g_j80_h1_f3 g_j80_l3 g_j80_l4 g_j8_h0_f1 g_j8_h1_f2 g_j8_h1_f3 g_j8_l3 g_j8_l4 g_j8_l5 H locs ls hP hD hS hl
        refine hG _ _ _ ?_
        obtain ⟨x_1, ex_1⟩ : ∃ y : Int32, y = j8_l5 + 1 := ⟨_, rfl⟩
        have g_2 : RG x_1 1 240 := RG_add ex_1 g_j8_l5 (RG_k 1 1 rfl) (by decide +kernel)
        refine lv_iinc (v := x_1) (lv' := [(5, .int x_1), (3, .int j80_l3), (4, .int j80_l4), (0, .ref h0), (1, .ref h1), (2, .int 5)]) hx hb dX4_readSum_80 hl (k := 1) rfl (by rw [ex_1]; rfl) (Nat.le_of_ble_eq_true rfl) rfl (fun ls hl => ?_)
        refine lv_goto (tgt := 8) hx hb dX4_readSum_83 rfl ?_
        exact hU _ _ _ (ih8 x_1 j80_l4 j80_l3 j80_h1_f2 j80_h1_f3 j80_h0_f1 j80_h0_0c (mu_s (MU_add ex_1 g_j8_l5 (q := 1) rfl (by decide +kernel)) hM8) g_h0_f1 (RG_w g_h1_f1 (by decide +kernel)) g_h1_f2 g_h1_f3 g_j80_h0_f1 (RG_w g_j80_h1_f2 (by decide +kernel)) (RG_w g_j80_h1_f3 (by decide +kernel)) g_j80_l3 g_j80_l4 (RG_w g_2 (by decide +kernel)) _ _ _ hP hD hS (lv_sub hl [0, 2, 1, 3, 4, 5] rfl))
      have J64 : ∀ (j64_l3 : Int32) (j64_h1_f2 : Int32) (j64_h1_f3 : Int32) (j64_h0_f1 : Int32) (j64_h0_0c : Nat → Int32) (g_h0_f1 : RG h0_f1 0 240) (g_h1_f1 : RG h1_f1 0 240) (g_h1_f2 : RG h1_f2 0 240) (g_h1_f3 : RG h1_f3 (-1) 240) (g_j64_h0_f1 : RG j64_h0_f1 0 240) (g_j64_h1_f2 : RG j64_h1_f2 0 240) (g_j64_h1_f3 : RG j64_h1_f3 (-1) 240) (g_j64_l3 : RG j64_l3 0 0) (g_j8_h0_f1 : RG j8_h0_f1 0 240) (g_j8_h1_f2 : RG j8_h1_f2 0 240) (g_j8_h1_f3 : RG j8_h1_f3 (-1) (-1)) (g_j8_l3 : RG j8_l3 0 60) (g_j8_l4 : RG j8_l4 0 60) (g_j8_l5 : RG j8_l5 0 239) (H : Heap) (locs : List Loc) (ls : Array Slot) (hP : va_P (dC, dI) vwCl (wd_c_X4_readSum_5 h1 h1_0 h1_f1 j64_h1_f2 j64_h1_f3 h1_0 h1_0k h1_0c h0 h0_0 j64_h0_f1 h0_2 h0_0 h0_0k j64_h0_0c) H) (hD : va_D A (wd_c_X4_readSum_5 h1 h1_0 h1_f1 j64_h1_f2 j64_h1_f3 h1_0 h1_0k h1_0c h0 h0_0 j64_h0_f1 h0_2 h0_0 h0_0k j64_h0_0c)) (hS : va_S A s.heap H locs) (hl : lv_has ls 6 [(3, .int j64_l3), (5, .int j8_l5), (0, .ref h0), (1, .ref h1), (2, .int 5)]), G H locs (F0 m 64 ls []) := by
        as_aux_lemma =>
        intro j64_l3 j64_h1_f2 j64_h1_f3 j64_h0_f1 j64_h0_0c g_h0_f1 g_h1_f1 g_h1_f2 g_h1_f3 g_j64_h0_f1 g_j64_h1_f2 g_j64_h1_f3 g_j64_l3 g_j8_h0_f1 g_j8_h1_f2 g_j8_h1_f3 g_j8_l3 g_j8_l4 g_j8_l5 H locs ls hP hD hS hl
        refine hG _ _ _ ?_
        refine lv_aload_n hx hb dX4_readSum_64 rfl (lv_at hl 3 rfl) ?_
        refine lv_bipush (v := 43) hx hb dX4_readSum_65 kc_bipush_43 ?_
        refine lv_bipush (v := 45) hx hb dX4_readSum_67 kc_bipush_45 ?_
        obtain ⟨hPc, hDc, hFc, hqc⟩ := cl_cut (wc := (wd_c_X9_takeEither h1 h1_0 h1_f1 j64_h1_f2 j64_h1_f3 h1_0 h1_0k h1_0c)) hP hD hS hA [0, 1] (by decide +kernel) rfl
        have hKc := hK.sub (tys' := [(h1_0k, .int)]) [0] rfl
        have hrv := va_recv hKc hPc (ci := 9) (q0 := 0) rfl rfl
        refine va_calli (va_runV (As := [.int 43, .int 45]) (rest := []) ⟨hx, hb, hml, hown, hts⟩ (c_X9_takeEither l dC dI H.size h1 43 45 h1_0 h1_f1 j64_h1_f2 j64_h1_f3 h1_0k h1_0c (RG_w (RG_k 43 43 rfl) (by decide +kernel)) (RG_w (RG_k 45 45 rfl) (by decide +kernel)) g_h1_f1 g_j64_h1_f2 g_j64_h1_f3 a_h1_0c) (cwV 2 hts gf_c_X4_readSum_5_c_X9_takeEither rfl rfl rfl mdV_X9_takeEither ⟨Nat.le_of_ble_eq_true rfl, Nat.le_of_ble_eq_true rfl⟩) ⟨fun a U g mk q => by obtain ⟨q0, q1, qP, qK, qD⟩ := q; exact ⟨q0, q1, qP, va_K.moved (u := U) (U := U.calling g mk a) (Vm.Alike.refl U.vm) qK, qD⟩, hrv, fun U hU hW => ⟨rfl, by rw [hU], by rw [hU]; exact hPc, va_K.moved hW.alike hKc, hDc.weaken (fun _ _ _ _ => trivial)⟩⟩ rfl rfl hl.1 rfl (lv_room (Nat.le_of_ble_eq_true rfl)) dX4_readSum_69 ⟨Nat.le_of_ble_eq_true rfl, Nat.le_of_ble_eq_true rfl⟩) hS (fun q _ h => hFc q h) hFc (fun r_3 x_4 t H1 locs ht hvm hw hB hz1 hk1 hS => ?_)
        obtain ⟨hP1, hK1, hD1⟩ := hB
        rw [ht] at hP1
        obtain ⟨hP, hD⟩ := cl_put (w1 := (wd_c_X9_takeEither h1 h1_0 h1_f1 x_4 j64_h1_f3 h1_0 h1_0k h1_0c)) (nw := (wd_c_X4_readSum_5 h1 h1_0 h1_f1 x_4 j64_h1_f3 h1_0 h1_0k h1_0c h0 h0_0 j64_h0_f1 h0_2 h0_0 h0_0k j64_h0_0c)) hP hD [0, 1] [4, 5, 2, 3] 4 rfl hqc (by decide +kernel) rfl hk1 hFc hP1 hD1
        generalize H1 = H at hP hS ⊢
        as_aux_lemma =>
        rcases hw with ⟨h_5, h_6, h_7⟩ | ⟨h_8, h_9, h_10, h_11, h_12⟩
        · rw [h_5]
          refine lv_istore (lv' := [(4, .int 0), (3, .int j64_l3), (5, .int j8_l5), (0, .ref h0), (1, .ref h1), (2, .int 5)]) hx hb dX4_readSum_72 hl (Nat.le_of_ble_eq_true rfl) rfl (fun ls hl => ?_)
          refine lv_iload hx hb dX4_readSum_74 (lv_at hl 0 rfl) ?_
          refine lv_if_ne (tgt := 80) hx hb dX4_readSum_76 rfl (fun c_13 => absurd c_13 (by decide +kernel)) (fun c_13 => ?_)
          have hK9 := hK.sub (tys' := []) [] rfl
          exact W.vret hx hb hr (fun t ht hW => ⟨⟨(x_4, j64_h1_f3, j64_h0_f1, j64_h0_0c), rfl, ⟨h_6, g_j64_h1_f3, g_j64_h0_f1⟩, by rw [ht]; exact hP, va_K.moved hW.alike hK9, hD⟩, hS.F ht⟩) hS.2.2 dX4_readSum_79
        · refine lv_istore (lv' := [(4, .int r_3), (3, .int j64_l3), (5, .int j8_l5), (0, .ref h0), (1, .ref h1), (2, .int 5)]) hx hb dX4_readSum_72 hl (Nat.le_of_ble_eq_true rfl) rfl (fun ls hl => ?_)
          refine lv_iload hx hb dX4_readSum_74 (lv_at hl 0 rfl) ?_
          refine lv_if_ne (tgt := 80) hx hb dX4_readSum_76 rfl (fun c_14 => ?_) (fun c_14 => ?_)
          · have g_15 : RG r_3 1 60 := RG_ne1 h_8 (q := 0) rfl c_14 (by decide +kernel)
            exact hU _ _ _ (J80 j64_l3 r_3 x_4 j64_h1_f3 j64_h0_f1 j64_h0_0c g_h0_f1 h_10 g_h1_f2 g_h1_f3 g_j64_h0_f1 h_9 h_11 (RG_w g_j64_l3 (by decide +kernel)) (RG_w g_15 (by decide +kernel)) g_j8_h0_f1 g_j8_h1_f2 g_j8_h1_f3 g_j8_l3 g_j8_l4 g_j8_l5 _ _ _ hP hD hS (lv_sub hl [1, 2, 0, 3, 4, 5] rfl))
          · have g_16 : RG r_3 0 0 := RG_eq1 h_8 (RG_k 0 0 rfl) c_14 (by decide +kernel)
            have hK9 := hK.sub (tys' := []) [] rfl
            exact W.vret hx hb hr (fun t ht hW => ⟨⟨(x_4, j64_h1_f3, j64_h0_f1, j64_h0_0c), rfl, ⟨(RG_w h_9 (by decide +kernel)), (RG_w h_11 (by decide +kernel)), g_j64_h0_f1⟩, by rw [ht]; exact hP, va_K.moved hW.alike hK9, hD⟩, hS.F ht⟩) hS.2.2 dX4_readSum_79
      have J39 : ∀ (j39_h1_f2 : Int32) (j39_h1_f3 : Int32) (j39_h0_f1 : Int32) (j39_h0_0c : Nat → Int32) (g_h0_f1 : RG h0_f1 0 240) (g_h1_f1 : RG h1_f1 0 240) (g_h1_f2 : RG h1_f2 0 240) (g_h1_f3 : RG h1_f3 (-1) 240) (g_j39_h0_f1 : RG j39_h0_f1 0 240) (g_j39_h1_f2 : RG j39_h1_f2 0 240) (g_j39_h1_f3 : RG j39_h1_f3 (-1) 240) (g_j8_h0_f1 : RG j8_h0_f1 0 240) (g_j8_h1_f2 : RG j8_h1_f2 0 240) (g_j8_h1_f3 : RG j8_h1_f3 (-1) (-1)) (g_j8_l3 : RG j8_l3 0 60) (g_j8_l4 : RG j8_l4 0 60) (g_j8_l5 : RG j8_l5 0 239) (H : Heap) (locs : List Loc) (ls : Array Slot) (hP : va_P (dC, dI) vwCl (wd_c_X4_readSum_5 h1 h1_0 h1_f1 j39_h1_f2 j39_h1_f3 h1_0 h1_0k h1_0c h0 h0_0 j39_h0_f1 h0_2 h0_0 h0_0k j39_h0_0c) H) (hD : va_D A (wd_c_X4_readSum_5 h1 h1_0 h1_f1 j39_h1_f2 j39_h1_f3 h1_0 h1_0k h1_0c h0 h0_0 j39_h0_f1 h0_2 h0_0 h0_0k j39_h0_0c)) (hS : va_S A s.heap H locs) (hl : lv_has ls 6 [(5, .int j8_l5), (4, .int j8_l4), (0, .ref h0), (1, .ref h1), (2, .int 5)]), G H locs (F0 m 39 ls []) := by
        as_aux_lemma =>
        intro j39_h1_f2 j39_h1_f3 j39_h0_f1 j39_h0_0c g_h0_f1 g_h1_f1 g_h1_f2 g_h1_f3 g_j39_h0_f1 g_j39_h1_f2 g_j39_h1_f3 g_j8_h0_f1 g_j8_h1_f2 g_j8_h1_f3 g_j8_l3 g_j8_l4 g_j8_l5 H locs ls hP hD hS hl
        refine hG _ _ _ ?_
        refine lv_aload_n hx hb dX4_readSum_39 rfl (lv_at hl 3 rfl) ?_
        refine lv_bipush (v := 42) hx hb dX4_readSum_40 kc_bipush_42 ?_
        refine lv_bipush (v := 47) hx hb dX4_readSum_42 kc_bipush_47 ?_
        obtain ⟨hPc, hDc, hFc, hqc⟩ := cl_cut (wc := (wd_c_X9_takeEither h1 h1_0 h1_f1 j39_h1_f2 j39_h1_f3 h1_0 h1_0k h1_0c)) hP hD hS hA [0, 1] (by decide +kernel) rfl
        have hKc := hK.sub (tys' := [(h1_0k, .int)]) [0] rfl
        have hrv := va_recv hKc hPc (ci := 9) (q0 := 0) rfl rfl
        refine va_calli (va_runV (As := [.int 42, .int 47]) (rest := []) ⟨hx, hb, hml, hown, hts⟩ (c_X9_takeEither l dC dI H.size h1 42 47 h1_0 h1_f1 j39_h1_f2 j39_h1_f3 h1_0k h1_0c (RG_w (RG_k 42 42 rfl) (by decide +kernel)) (RG_w (RG_k 47 47 rfl) (by decide +kernel)) g_h1_f1 g_j39_h1_f2 g_j39_h1_f3 a_h1_0c) (cwV 2 hts gf_c_X4_readSum_5_c_X9_takeEither rfl rfl rfl mdV_X9_takeEither ⟨Nat.le_of_ble_eq_true rfl, Nat.le_of_ble_eq_true rfl⟩) ⟨fun a U g mk q => by obtain ⟨q0, q1, qP, qK, qD⟩ := q; exact ⟨q0, q1, qP, va_K.moved (u := U) (U := U.calling g mk a) (Vm.Alike.refl U.vm) qK, qD⟩, hrv, fun U hU hW => ⟨rfl, by rw [hU], by rw [hU]; exact hPc, va_K.moved hW.alike hKc, hDc.weaken (fun _ _ _ _ => trivial)⟩⟩ rfl rfl hl.1 rfl (lv_room (Nat.le_of_ble_eq_true rfl)) dX4_readSum_44 ⟨Nat.le_of_ble_eq_true rfl, Nat.le_of_ble_eq_true rfl⟩) hS (fun q _ h => hFc q h) hFc (fun r_17 x_18 t H1 locs ht hvm hw hB hz1 hk1 hS => ?_)
        obtain ⟨hP1, hK1, hD1⟩ := hB
        rw [ht] at hP1
        obtain ⟨hP, hD⟩ := cl_put (w1 := (wd_c_X9_takeEither h1 h1_0 h1_f1 x_18 j39_h1_f3 h1_0 h1_0k h1_0c)) (nw := (wd_c_X4_readSum_5 h1 h1_0 h1_f1 x_18 j39_h1_f3 h1_0 h1_0k h1_0c h0 h0_0 j39_h0_f1 h0_2 h0_0 h0_0k j39_h0_0c)) hP hD [0, 1] [4, 5, 2, 3] 4 rfl hqc (by decide +kernel) rfl hk1 hFc hP1 hD1
        generalize H1 = H at hP hS ⊢
        as_aux_lemma =>
        rcases hw with ⟨h_19, h_20, h_21⟩ | ⟨h_22, h_23, h_24, h_25, h_26⟩
        · rw [h_19]
          refine lv_istore_n (lv' := [(3, .int 0), (5, .int j8_l5), (4, .int j8_l4), (0, .ref h0), (1, .ref h1), (2, .int 5)]) hx hb dX4_readSum_47 rfl hl (Nat.le_of_ble_eq_true rfl) rfl (fun ls hl => ?_)
          refine lv_iload_n hx hb dX4_readSum_48 rfl (lv_at hl 0 rfl) ?_
          refine lv_if_ne (tgt := 80) hx hb dX4_readSum_49 rfl (fun c_27 => absurd c_27 (by decide +kernel)) (fun c_27 => ?_)
          refine lv_iload hx hb dX4_readSum_52 (lv_at hl 2 rfl) ?_
          refine lv_if_eq (tgt := 64) hx hb dX4_readSum_54 rfl (fun c_28 => ?_) (fun c_28 => ?_)
          · have g_29 : RG j8_l4 0 0 := RG_eq1 g_j8_l4 (RG_k 0 0 rfl) c_28 (by decide +kernel)
            exact hU _ _ _ (J64 0 x_18 j39_h1_f3 j39_h0_f1 j39_h0_0c g_h0_f1 g_h1_f1 g_h1_f2 g_h1_f3 g_j39_h0_f1 h_20 g_j39_h1_f3 (RG_k 0 0 rfl) g_j8_h0_f1 g_j8_h1_f2 g_j8_h1_f3 g_j8_l3 (RG_w g_29 (by decide +kernel)) g_j8_l5 _ _ _ hP hD hS (lv_sub hl [0, 1, 3, 4, 5] rfl))
          · have g_30 : RG j8_l4 1 60 := RG_ne1 g_j8_l4 (q := 0) rfl c_28 (by decide +kernel)
            refine lv_aload_n hx hb dX4_readSum_57 rfl (lv_at hl 3 rfl) ?_
            refine lv_iload hx hb dX4_readSum_58 (lv_at hl 2 rfl) ?_
            refine lv_ineg hx hb dX4_readSum_60 ?_
            refine lv_topi (fun x_31 ex_31 => ?_)
            as_aux_lemma =>
            have g_32 : RG x_31 (-60) (-1) := RG_neg ex_31 g_30 (by decide +kernel)
            obtain ⟨hPc, hDc, hFc, hqc⟩ := cl_cut (wc := (wd_c_X4_emit h0 h0_0 j39_h0_f1 h0_2 h0_0 h0_0k j39_h0_0c)) hP hD hS hA [2, 3] (by decide +kernel) rfl
            have hKc := hK.sub (tys' := [(h0_0k, .int)]) [1] rfl
            have hrv := va_recv hKc hPc (ci := 4) (q0 := 0) rfl rfl
            refine va_callv (va_runV (As := [.int x_31]) (rest := []) ⟨hx, hb, hml, hown, hts⟩ (c_X4_emit l dC dI H.size h0 x_31 h0_0 j39_h0_f1 h0_2 h0_0k j39_h0_0c g_j39_h0_f1) (cwV 1 hts gf_c_X4_readSum_5_c_X4_emit rfl rfl rfl mdV_X4_emit ⟨Nat.le_of_ble_eq_true rfl, Nat.le_of_ble_eq_true rfl⟩) ⟨fun a U g mk q => by obtain ⟨q0, q1, qP, qK, qD⟩ := q; exact ⟨q0, q1, qP, va_K.moved (u := U) (U := U.calling g mk a) (Vm.Alike.refl U.vm) qK, qD⟩, hrv, fun U hU hW => ⟨rfl, by rw [hU], by rw [hU]; exact hPc, va_K.moved hW.alike hKc, hDc.weaken (fun _ _ _ _ => trivial)⟩⟩ rfl rfl hl.1 rfl (lv_room (Nat.le_of_ble_eq_true rfl)) dX4_readSum_61 ⟨Nat.le_of_ble_eq_true rfl, Nat.le_of_ble_eq_true rfl⟩) hS (fun q _ h => hFc q h) hFc (fun u t H1 locs ht hvm hw hB hz1 hk1 hS => ?_)
            obtain ⟨x_34, w_35⟩ := u
            obtain ⟨hP1, hK1, hD1⟩ := hB
            rw [ht] at hP1
            obtain ⟨hP, hD⟩ := cl_put (w1 := (wd_c_X4_emit h0 h0_0 x_34 h0_2 h0_0 h0_0k w_35)) (nw := (wd_c_X4_readSum_5 h1 h1_0 h1_f1 x_18 j39_h1_f3 h1_0 h1_0k h1_0c h0 h0_0 x_34 h0_2 h0_0 h0_0k w_35)) hP hD [2, 3] [0, 1, 4, 5] 4 rfl hqc (by decide +kernel) rfl hk1 hFc hP1 hD1
            generalize H1 = H at hP hS ⊢
            as_aux_lemma =>
            have h_36 := hw
            exact hU _ _ _ (J64 0 x_18 j39_h1_f3 x_34 w_35 g_h0_f1 g_h1_f1 g_h1_f2 g_h1_f3 (RG_w h_36 (by decide +kernel)) h_20 g_j39_h1_f3 (RG_k 0 0 rfl) g_j8_h0_f1 g_j8_h1_f2 g_j8_h1_f3 g_j8_l3 (RG_w g_30 (by decide +kernel)) g_j8_l5 _ _ _ hP hD hS (lv_sub hl [0, 1, 3, 4, 5] rfl))
        · refine lv_istore_n (lv' := [(3, .int r_17), (5, .int j8_l5), (4, .int j8_l4), (0, .ref h0), (1, .ref h1), (2, .int 5)]) hx hb dX4_readSum_47 rfl hl (Nat.le_of_ble_eq_true rfl) rfl (fun ls hl => ?_)
          refine lv_iload_n hx hb dX4_readSum_48 rfl (lv_at hl 0 rfl) ?_
          refine lv_if_ne (tgt := 80) hx hb dX4_readSum_49 rfl (fun c_37 => ?_) (fun c_37 => ?_)
          · have g_38 : RG r_17 1 60 := RG_ne1 h_22 (q := 0) rfl c_37 (by decide +kernel)
            exact hU _ _ _ (J80 r_17 j8_l4 x_18 j39_h1_f3 j39_h0_f1 j39_h0_0c g_h0_f1 h_24 g_h1_f2 g_h1_f3 g_j39_h0_f1 h_23 h_25 (RG_w g_38 (by decide +kernel)) g_j8_l4 g_j8_h0_f1 g_j8_h1_f2 g_j8_h1_f3 g_j8_l3 g_j8_l4 g_j8_l5 _ _ _ hP hD hS (lv_sub hl [0, 1, 2, 3, 4, 5] rfl))
          · have g_39 : RG r_17 0 0 := RG_eq1 h_22 (RG_k 0 0 rfl) c_37 (by decide +kernel)
            refine lv_iload hx hb dX4_readSum_52 (lv_at hl 2 rfl) ?_
            refine lv_if_eq (tgt := 64) hx hb dX4_readSum_54 rfl (fun c_40 => ?_) (fun c_40 => ?_)
            · have g_41 : RG j8_l4 0 0 := RG_eq1 g_j8_l4 (RG_k 0 0 rfl) c_40 (by decide +kernel)
              exact hU _ _ _ (J64 r_17 x_18 j39_h1_f3 j39_h0_f1 j39_h0_0c g_h0_f1 (RG_w h_24 (by decide +kernel)) g_h1_f2 g_h1_f3 g_j39_h0_f1 (RG_w h_23 (by decide +kernel)) (RG_w h_25 (by decide +kernel)) g_39 g_j8_h0_f1 g_j8_h1_f2 g_j8_h1_f3 g_j8_l3 (RG_w g_41 (by decide +kernel)) g_j8_l5 _ _ _ hP hD hS (lv_sub hl [0, 1, 3, 4, 5] rfl))
            · have g_42 : RG j8_l4 1 60 := RG_ne1 g_j8_l4 (q := 0) rfl c_40 (by decide +kernel)
              refine lv_aload_n hx hb dX4_readSum_57 rfl (lv_at hl 3 rfl) ?_
              as_aux_lemma =>
              refine lv_iload hx hb dX4_readSum_58 (lv_at hl 2 rfl) ?_
              refine lv_ineg hx hb dX4_readSum_60 ?_
              refine lv_topi (fun x_43 ex_43 => ?_)
              have g_44 : RG x_43 (-60) (-1) := RG_neg ex_43 g_42 (by decide +kernel)
              obtain ⟨hPc, hDc, hFc, hqc⟩ := cl_cut (wc := (wd_c_X4_emit h0 h0_0 j39_h0_f1 h0_2 h0_0 h0_0k j39_h0_0c)) hP hD hS hA [2, 3] (by decide +kernel) rfl
              have hKc := hK.sub (tys' := [(h0_0k, .int)]) [1] rfl
              have hrv := va_recv hKc hPc (ci := 4) (q0 := 0) rfl rfl
              refine va_callv (va_runV (As := [.int x_43]) (rest := []) ⟨hx, hb, hml, hown, hts⟩ (c_X4_emit l dC dI H.size h0 x_43 h0_0 j39_h0_f1 h0_2 h0_0k j39_h0_0c g_j39_h0_f1) (cwV 1 hts gf_c_X4_readSum_5_c_X4_emit rfl rfl rfl mdV_X4_emit ⟨Nat.le_of_ble_eq_true rfl, Nat.le_of_ble_eq_true rfl⟩) ⟨fun a U g mk q => by obtain ⟨q0, q1, qP, qK, qD⟩ := q; exact ⟨q0, q1, qP, va_K.moved (u := U) (U := U.calling g mk a) (Vm.Alike.refl U.vm) qK, qD⟩, hrv, fun U hU hW => ⟨rfl, by rw [hU], by rw [hU]; exact hPc, va_K.moved hW.alike hKc, hDc.weaken (fun _ _ _ _ => trivial)⟩⟩ rfl rfl hl.1 rfl (lv_room (Nat.le_of_ble_eq_true rfl)) dX4_readSum_61 ⟨Nat.le_of_ble_eq_true rfl, Nat.le_of_ble_eq_true rfl⟩) hS (fun q _ h => hFc q h) hFc (fun u t H1 locs ht hvm hw hB hz1 hk1 hS => ?_)
              obtain ⟨x_46, w_47⟩ := u
              obtain ⟨hP1, hK1, hD1⟩ := hB
              rw [ht] at hP1
              obtain ⟨hP, hD⟩ := cl_put (w1 := (wd_c_X4_emit h0 h0_0 x_46 h0_2 h0_0 h0_0k w_47)) (nw := (wd_c_X4_readSum_5 h1 h1_0 h1_f1 x_18 j39_h1_f3 h1_0 h1_0k h1_0c h0 h0_0 x_46 h0_2 h0_0 h0_0k w_47)) hP hD [2, 3] [0, 1, 4, 5] 4 rfl hqc (by decide +kernel) rfl hk1 hFc hP1 hD1
              generalize H1 = H at hP hS ⊢
              as_aux_lemma =>
              have h_48 := hw
              exact hU _ _ _ (J64 r_17 x_18 j39_h1_f3 x_46 w_47 g_h0_f1 (RG_w h_24 (by decide +kernel)) g_h1_f2 g_h1_f3 (RG_w h_48 (by decide +kernel)) (RG_w h_23 (by decide +kernel)) (RG_w h_25 (by decide +kernel)) g_39 g_j8_h0_f1 g_j8_h1_f2 g_j8_h1_f3 g_j8_l3 (RG_w g_42 (by decide +kernel)) g_j8_l5 _ _ _ hP hD hS (lv_sub hl [0, 1, 3, 4, 5] rfl))
      refine hG _ _ _ ?_
      refine lv_iload hx hb dX4_readSum_8 (lv_at hl 0 rfl) ?_
      refine lv_sipush (v := 240) hx hb dX4_readSum_10 kc_sipush_240 ?_
      refine lv_icmp_ge (tgt := 86) hx hb dX4_readSum_13 rfl (fun c_49 => ?_) (fun c_49 => ?_)
      · have g_50 : RG j8_l5 240 240 := RG_le2 (RG_k 240 240 rfl) g_j8_l5 c_49 (by decide +kernel)
        have hK9 := hK.sub (tys' := []) [] rfl
        exact W.vret hx hb hr (fun t ht hW => ⟨⟨(j8_h1_f2, j8_h1_f3, j8_h0_f1, j8_h0_0c), rfl, ⟨g_j8_h1_f2, g_j8_h1_f3, g_j8_h0_f1⟩, by rw [ht]; exact hP, va_K.moved hW.alike hK9, hD⟩, hS.F ht⟩) hS.2.2 dX4_readSum_86
      · have d_51 := Int32.not_le.mp c_49
        have g_52 : RG j8_l5 0 239 := RG_lt1 g_j8_l5 (RG_k 240 240 rfl) d_51 (by decide +kernel)
        refine lv_aload_n hx hb dX4_readSum_16 rfl (lv_at hl 4 rfl) ?_
        obtain ⟨hPc, hDc, hFc, hqc⟩ := cl_cut (wc := (wd_c_X9_isRight h1 h1_0 h1_f1 j8_h1_f2 j8_h1_f3)) hP hD hS hA [0] (by decide +kernel) rfl
        have hKc := hK.sub (tys' := []) [] rfl
        have hrv := va_recv hKc hPc (ci := 9) (q0 := 0) rfl rfl
        refine va_calli (va_runV (As := []) (rest := []) ⟨hx, hb, hml, hown, hts⟩ (c_X9_isRight l dC dI H.size h1 h1_0 h1_f1 j8_h1_f2 j8_h1_f3 g_h1_f1 g_j8_h1_f2 g_j8_h1_f3) (cwV 0 hts gf_c_X4_readSum_5_c_X9_isRight rfl rfl rfl mdV_X9_isRight ⟨Nat.le_of_ble_eq_true rfl, Nat.le_of_ble_eq_true rfl⟩) ⟨fun a U g mk q => by obtain ⟨q0, q1, qP, qK, qD⟩ := q; exact ⟨q0, q1, qP, va_K.moved (u := U) (U := U.calling g mk a) (Vm.Alike.refl U.vm) qK, qD⟩, hrv, fun U hU hW => ⟨rfl, by rw [hU], by rw [hU]; exact hPc, va_K.moved hW.alike hKc, hDc.weaken (fun _ _ _ _ => trivial)⟩⟩ rfl rfl hl.1 rfl (lv_room (Nat.le_of_ble_eq_true rfl)) dX4_readSum_17 ⟨Nat.le_of_ble_eq_true rfl, Nat.le_of_ble_eq_true rfl⟩) hS (fun q _ h => hFc q h) hFc (fun r_53 u t H1 locs ht hvm hw hB hz1 hk1 hS => ?_)
        as_aux_lemma =>
        obtain ⟨hP1, hK1, hD1⟩ := hB
        rw [ht] at hP1
        obtain ⟨hP, hD⟩ := cl_put (w1 := (wd_c_X9_isRight h1 h1_0 h1_f1 j8_h1_f2 j8_h1_f3)) (nw := (wd_c_X4_readSum_5 h1 h1_0 h1_f1 j8_h1_f2 j8_h1_f3 h1_0 h1_0k h1_0c h0 h0_0 j8_h0_f1 h0_2 h0_0 h0_0k j8_h0_0c)) hP hD [0] [4, 1, 2, 3] 4 rfl hqc (by decide +kernel) rfl hk1 hFc hP1 hD1
        generalize H1 = H at hP hS ⊢
        as_aux_lemma =>
        rcases hw with ⟨h_54, h_55⟩ | ⟨h_56, h_57⟩
        · rw [h_54]
          refine lv_if_eq (tgt := 86) hx hb dX4_readSum_20 rfl (fun c_58 => ?_) (fun c_58 => absurd c_58 (by decide +kernel))
          have hK9 := hK.sub (tys' := []) [] rfl
          exact W.vret hx hb hr (fun t ht hW => ⟨⟨(j8_h1_f2, j8_h1_f3, j8_h0_f1, j8_h0_0c), rfl, ⟨g_j8_h1_f2, (RG_w h_55 (by decide +kernel)), g_j8_h0_f1⟩, by rw [ht]; exact hP, va_K.moved hW.alike hK9, hD⟩, hS.F ht⟩) hS.2.2 dX4_readSum_86
        · rw [h_56]
          refine lv_if_eq (tgt := 86) hx hb dX4_readSum_20 rfl (fun c_59 => absurd c_59 (by decide +kernel)) (fun c_59 => ?_)
          refine lv_aload_n hx hb dX4_readSum_23 rfl (lv_at hl 3 rfl) ?_
          refine lv_aload_n hx hb dX4_readSum_24 rfl (lv_at hl 4 rfl) ?_
          refine lv_iload_n hx hb dX4_readSum_25 rfl (lv_at hl 5 rfl) ?_
          obtain ⟨hPc, hDc, hFc, hqc⟩ := cl_cut (wc := (wd_c_X4_readAtom_5 h1 h1_0 h1_f1 j8_h1_f2 j8_h1_f3 h1_0 h1_0k h1_0c h0 h0_0 j8_h0_f1 h0_2 h0_0 h0_0k j8_h0_0c)) hP hD hS hA [0, 1, 2, 3] (by decide +kernel) rfl
          have hKc := hK.sub (tys' := [(h1_0k, .int), (h0_0k, .int)]) [0, 1] rfl
          have hrv := va_recv hKc hPc (ci := 4) (q0 := 2) rfl rfl
          refine va_callv (va_runV (As := [.ref h1, .int 5]) (rest := []) ⟨hx, hb, hml, hown, hts⟩ (c_X4_readAtom_5 l dC dI H.size h0 h1 h1_0 h1_f1 j8_h1_f2 j8_h1_f3 h1_0k h1_0c h0_0 j8_h0_f1 h0_2 h0_0k j8_h0_0c ts4 tv4 g_h1_f1 g_j8_h1_f2 (RG_w h_57 (by decide +kernel)) a_h1_0c g_j8_h0_f1) (cwV 2 hts gf_c_X4_readSum_5_c_X4_readAtom_5 rfl rfl rfl mdV_X4_readAtom ⟨Nat.le_of_ble_eq_true rfl, Nat.le_of_ble_eq_true rfl⟩) ⟨fun a U g mk q => by obtain ⟨q0, q1, qP, qK, qD, qE0, qE1, qE2, qE3, qE4, qE5⟩ := q; exact ⟨q0, q1, qP, va_K.moved (u := U) (U := U.calling g mk a) (Vm.Alike.refl U.vm) qK, qD, vk_R.same rfl qE0, va_Z.moved (u := U) (U := U.calling g mk a) (Vm.Alike.refl U.vm) qE1, va_OF.moved (u := U) (U := U.calling g mk a) (Vm.Alike.refl U.vm) qE2, va_O.moved (u := U) (U := U.calling g mk a) (Vm.Alike.refl U.vm) qE3, va_OF.moved (u := U) (U := U.calling g mk a) (Vm.Alike.refl U.vm) qE4, va_T.moved (u := U) (U := U.calling g mk a) (Vm.Alike.refl U.vm) qE5⟩, hrv, fun U hU hW => ⟨rfl, by rw [hU], by rw [hU]; exact hPc, va_K.moved hW.alike hKc, hDc.weaken (fun _ _ _ _ => trivial), vk_R.warm hW hE_32, va_Z.moved hW.alike (by rw [hU]; exact (hE_10.kept hS.2.1).narrow hFc), va_OF.moved hW.alike (by rw [hU]; exact (hE_34.kept hS.2.1).narrow hFc), va_O.moved hW.alike (by rw [hU]; exact (hE_33.kept hS.2.1).narrow hFc), va_OF.moved hW.alike (by rw [hU]; exact (hE_35.kept hS.2.1).narrow hFc), va_T.moved hW.alike (by rw [hU]; exact (hE_36.kept hS.2.1).narrow hFc)⟩⟩ rfl rfl hl.1 rfl (lv_room (Nat.le_of_ble_eq_true rfl)) dX4_readSum_26 ⟨Nat.le_of_ble_eq_true rfl, Nat.le_of_ble_eq_true rfl⟩) hS (fun q _ h => hFc q h) hFc (fun u t H1 locs ht hvm hw hB hz1 hk1 hS => ?_)
          as_aux_lemma =>
          obtain ⟨x_61, x_62, x_63, w_64⟩ := u
          obtain ⟨hP1, hK1, hD1⟩ := hB
          rw [ht] at hP1
          obtain ⟨hP, hD⟩ := cl_put (w1 := (wd_c_X4_readAtom_5 h1 h1_0 h1_f1 x_61 x_62 h1_0 h1_0k h1_0c h0 h0_0 x_63 h0_2 h0_0 h0_0k w_64)) (nw := (wd_c_X4_readSum_5 h1 h1_0 h1_f1 x_61 x_62 h1_0 h1_0k h1_0c h0 h0_0 x_63 h0_2 h0_0 h0_0k w_64)) hP hD [0, 1, 2, 3] [4, 5, 6, 7] 4 rfl hqc (by decide +kernel) rfl hk1 hFc hP1 hD1
          generalize H1 = H at hP hS ⊢
          as_aux_lemma =>
          rcases hw with ⟨h_65, h_66, h_67⟩
          refine lv_iload_n hx hb dX4_readSum_29 rfl (lv_at hl 2 rfl) ?_
          refine lv_if_eq (tgt := 39) hx hb dX4_readSum_30 rfl (fun c_68 => ?_) (fun c_68 => ?_)
          · have g_69 : RG j8_l3 0 0 := RG_eq1 g_j8_l3 (RG_k 0 0 rfl) c_68 (by decide +kernel)
            exact hU _ _ _ (J39 x_61 x_62 x_63 w_64 g_h0_f1 g_h1_f1 g_h1_f2 g_h1_f3 h_67 h_65 h_66 g_j8_h0_f1 g_j8_h1_f2 h_57 (RG_w g_69 (by decide +kernel)) g_j8_l4 g_52 _ _ _ hP hD hS (lv_sub hl [0, 1, 3, 4, 5] rfl))
          · have g_70 : RG j8_l3 1 60 := RG_ne1 g_j8_l3 (q := 0) rfl c_68 (by decide +kernel)
            refine lv_aload_n hx hb dX4_readSum_33 rfl (lv_at hl 3 rfl) ?_
            refine lv_iload_n hx hb dX4_readSum_34 rfl (lv_at hl 2 rfl) ?_
            refine lv_ineg hx hb dX4_readSum_35 ?_
            refine lv_topi (fun x_71 ex_71 => ?_)
            have g_72 : RG x_71 (-60) (-1) := RG_neg ex_71 g_70 (by decide +kernel)
            obtain ⟨hPc, hDc, hFc, hqc⟩ := cl_cut (wc := (wd_c_X4_emit h0 h0_0 x_63 h0_2 h0_0 h0_0k w_64)) hP hD hS hA [2, 3] (by decide +kernel) rfl
            have hKc := hK.sub (tys' := [(h0_0k, .int)]) [1] rfl
            have hrv := va_recv hKc hPc (ci := 4) (q0 := 0) rfl rfl
            refine va_callv (va_runV (As := [.int x_71]) (rest := []) ⟨hx, hb, hml, hown, hts⟩ (c_X4_emit l dC dI H.size h0 x_71 h0_0 x_63 h0_2 h0_0k w_64 h_67) (cwV 1 hts gf_c_X4_readSum_5_c_X4_emit rfl rfl rfl mdV_X4_emit ⟨Nat.le_of_ble_eq_true rfl, Nat.le_of_ble_eq_true rfl⟩) ⟨fun a U g mk q => by obtain ⟨q0, q1, qP, qK, qD⟩ := q; exact ⟨q0, q1, qP, va_K.moved (u := U) (U := U.calling g mk a) (Vm.Alike.refl U.vm) qK, qD⟩, hrv, fun U hU hW => ⟨rfl, by rw [hU], by rw [hU]; exact hPc, va_K.moved hW.alike hKc, hDc.weaken (fun _ _ _ _ => trivial)⟩⟩ rfl rfl hl.1 rfl (lv_room (Nat.le_of_ble_eq_true rfl)) dX4_readSum_36 ⟨Nat.le_of_ble_eq_true rfl, Nat.le_of_ble_eq_true rfl⟩) hS (fun q _ h => hFc q h) hFc (fun u t H1 locs ht hvm hw hB hz1 hk1 hS => ?_)
            as_aux_lemma =>
            obtain ⟨x_74, w_75⟩ := u
            obtain ⟨hP1, hK1, hD1⟩ := hB
            rw [ht] at hP1
            obtain ⟨hP, hD⟩ := cl_put (w1 := (wd_c_X4_emit h0 h0_0 x_74 h0_2 h0_0 h0_0k w_75)) (nw := (wd_c_X4_readSum_5 h1 h1_0 h1_f1 x_61 x_62 h1_0 h1_0k h1_0c h0 h0_0 x_74 h0_2 h0_0 h0_0k w_75)) hP hD [2, 3] [0, 1, 4, 5] 4 rfl hqc (by decide +kernel) rfl hk1 hFc hP1 hD1
            generalize H1 = H at hP hS ⊢
            as_aux_lemma =>
            have h_76 := hw
            exact hU _ _ _ (J39 x_61 x_62 x_74 w_75 g_h0_f1 g_h1_f1 g_h1_f2 g_h1_f3 (RG_w h_76 (by decide +kernel)) h_65 h_66 g_j8_h0_f1 g_j8_h1_f2 h_57 (RG_w g_70 (by decide +kernel)) g_j8_l4 g_52 _ _ _ hP hD hS (lv_sub hl [0, 1, 3, 4, 5] rfl))
  refine hG _ _ _ ?_
  refine lv_iconst (v := 0) hx hb dX4_readSum_0 kc_iconst_0 ?_
  refine lv_istore_n (lv' := [(3, .int 0), (0, .ref h0), (1, .ref h1), (2, .int 5)]) hx hb dX4_readSum_1 rfl hl (Nat.le_of_ble_eq_true rfl) rfl (fun ls hl => ?_)
  refine lv_iconst (v := 0) hx hb dX4_readSum_2 kc_iconst_0 ?_
  refine lv_istore (lv' := [(4, .int 0), (3, .int 0), (0, .ref h0), (1, .ref h1), (2, .int 5)]) hx hb dX4_readSum_3 hl (Nat.le_of_ble_eq_true rfl) rfl (fun ls hl => ?_)
  refine lv_iconst (v := 0) hx hb dX4_readSum_5 kc_iconst_0 ?_
  refine lv_istore (lv' := [(5, .int 0), (4, .int 0), (3, .int 0), (0, .ref h0), (1, .ref h1), (2, .int 5)]) hx hb dX4_readSum_6 hl (Nat.le_of_ble_eq_true rfl) rfl (fun ls hl => ?_)
  exact hU _ _ _ (J8 _ 0 0 0 h1_f2 h1_f3 h0_f1 h0_0c (Nat.lt_succ_self _) g_h0_f1 g_h1_f1 g_h1_f2 g_h1_f3 g_h0_f1 g_h1_f2 g_h1_f3 (RG_w (RG_k 0 0 rfl) (by decide +kernel)) (RG_w (RG_k 0 0 rfl) (by decide +kernel)) (RG_w (RG_k 0 0 rfl) (by decide +kernel)) _ _ _ hP hD hS (lv_sub hl [0, 1, 2, 3, 4, 5] rfl))
noncomputable def wd_c_X4_readAtom_4 (a0 : Nat) (a1 : Nat) (a2 : Int32) (a3 : Int32) (a4 : Int32) (a5 : Nat) (a6 : ClassId) (a7 : Nat → Int32) (a8 : Nat) (a9 : Nat) (a10 : Int32) (a11 : Nat) (a12 : Nat) (a13 : ClassId) (a14 : Nat → Int32) : va_W := [(a0, .inr (9, [.ref a1, .int a2, .int a3, .int a4])), (a5, .inl (a6, 240, .inl a7)), (a8, .inr (4, [.ref a9, .int a10, .ref a11])), (a12, .inl (a13, 240, .inl a14))]
noncomputable def wf_c_X4_readAtom_4 : List Cond := List.cons (.code yX4_readAtom cX4_readAtom 6 none) (@HAppend.hAppend (List Cond) (List Cond) (List Cond) _ (@HAppend.hAppend (List Cond) (List Cond) (List Cond) _ [.methodLink RX4 41 yX9_peek, .instanceMethod yX9_peek, .selects RX9 yX9_peek yX9_peek, .initialized RX9, .code yX9_peek cX9_peek 1 (some .int), .fieldLink RX9 22 "BuoyVote$Tape" "at" "I", .fieldLink RX9 19 "BuoyVote$Tape" "length" "I", .fieldLink RX9 11 "BuoyVote$Tape" "bytes" "[I", .methodLink RX4 93 yJ0_indexOf_0f7a4, .instanceMethod yJ0_indexOf_0f7a4, .selects RJ0 yJ0_indexOf_0f7a4 yJ0_indexOf_0f7a4, .initialized RJ0, .code yJ0_indexOf_0f7a4 cJ0_indexOf_0f7a4 2 (some .int), .methodLink RJ0 633 yJ0_indexOf_7cf53, .instanceMethod yJ0_indexOf_7cf53, .selects RJ0 yJ0_indexOf_7cf53 yJ0_indexOf_7cf53, .code yJ0_indexOf_7cf53 cJ0_indexOf_7cf53 3 (some .int), .methodLink RJ0 492 yJ0_isLatin1_aae02, .instanceMethod yJ0_isLatin1_aae02, .selects RJ0 yJ0_isLatin1_aae02 yJ0_isLatin1_aae02, .code yJ0_isLatin1_aae02 cJ0_isLatin1_aae02 1 (some .boolean), .fieldLink RJ0 38 "java/lang/String" "COMPACT_STRINGS" "Z", .fieldLink RJ0 15 "java/lang/String" "coder" "B", .fieldLink RJ0 9 "java/lang/String" "value" "[B", .methodLink RJ0 505 yJ0_length_8abf5, .instanceMethod yJ0_length_8abf5, .selects RJ0 yJ0_length_8abf5 yJ0_length_8abf5, .code yJ0_length_8abf5 cJ0_length_8abf5 1 (some .int), .methodLink RJ0 335 yJ0_coder_7d493, .instanceMethod yJ0_coder_7d493, .selects RJ0 yJ0_coder_7d493 yJ0_coder_7d493, .code yJ0_coder_7d493 cJ0_coder_7d493 1 (some .byte), .methodLink RJ0 637 yJ1_indexOf_4cfef, .static yJ1_indexOf_4cfef, .initialized RJ1, .code yJ1_indexOf_4cfef cJ1_indexOf_4cfef 4 (some .int), .methodLink RJ1 88 yJ1_canEncode_9a6ad, .static yJ1_canEncode_9a6ad, .code yJ1_canEncode_9a6ad cJ1_canEncode_9a6ad 1 (some .boolean), .methodLink RJ1 92 Lib.Math.max.name, .static Lib.Math.max.name, .initialized "java/lang/Math", .code Lib.Math.max.name Lib.Math.max.code 2 (some .int), .methodLink RJ1 38 Lib.Math.min.name, .static Lib.Math.min.name, .code Lib.Math.min.name Lib.Math.min.code 2 (some .int), .methodLink RJ1 95 yJ1_indexOfChar_4cfef, .static yJ1_indexOfChar_4cfef, .code yJ1_indexOfChar_4cfef cJ1_indexOfChar_4cfef 6 (some .int), .methodLink RX4 99 yX9_number, .instanceMethod yX9_number, .selects RX9 yX9_number yX9_number, .code yX9_number cX9_number 4 (some .int), .methodLink RX4 82 yX9_refuseHere, .instanceMethod yX9_refuseHere, .selects RX9 yX9_refuseHere yX9_refuseHere, .code yX9_refuseHere cX9_refuseHere 1 none, .methodLink RX9 25 yX9_refuse, .instanceMethod yX9_refuse, .selects RX9 yX9_refuse yX9_refuse, .code yX9_refuse cX9_refuse 2 none, .fieldLink RX9 15 "BuoyVote$Tape" "wrong" "I", .methodLink RX4 79 yX9_skip, .instanceMethod yX9_skip, .selects RX9 yX9_skip yX9_skip, .code yX9_skip cX9_skip 1 none, .methodLink RX4 49 yX4_readSum, .instanceMethod yX4_readSum, .selects RX4 yX4_readSum yX4_readSum, .initialized RX4, .code yX4_readSum cX4_readSum 6 none, .methodLink RX4 72 yX9_isRight, .instanceMethod yX9_isRight, .selects RX9 yX9_isRight yX9_isRight, .code yX9_isRight cX9_isRight 1 (some .boolean), .methodLink RX4 85 yX4_readAtom, .instanceMethod yX4_readAtom, .selects RX4 yX4_readAtom yX4_readAtom, .methodLink RX4 60 yX4_emit, .instanceMethod yX4_emit, .selects RX4 yX4_emit yX4_emit, .code yX4_emit cX4_emit 2 none, .fieldLink RX4 20 "BuoyVote$Law" "length" "I", .fieldLink RX4 11 "BuoyVote$Law" "code" "[I", .methodLink RX4 88 yX9_takeEither, .instanceMethod yX9_takeEither, .selects RX9 yX9_takeEither yX9_takeEither, .code yX9_takeEither cX9_takeEither 4 (some .int), .methodLink RX9 29 yX9_peek, .methodLink RX4 37 yX9_expect, .instanceMethod yX9_expect, .selects RX9 yX9_expect yX9_expect, .code yX9_expect cX9_expect 2 none] wsX90) wsX40)
theorem iw_c_X4_readAtom_4_X9 : ∀ w ∈ wsX90, w ∈ wf_c_X4_readAtom_4 := fun w h => List.mem_cons_of_mem _ (List.mem_append_left _ (List.mem_append_right _ h))
theorem iw_c_X4_readAtom_4_X4 : ∀ w ∈ wsX40, w ∈ wf_c_X4_readAtom_4 := fun w h => List.mem_cons_of_mem _ (List.mem_append_right _ h)
set_option maxRecDepth 20000 in
theorem gf_c_X4_readAtom_4_c_X4_emit_1 : GoodIn wf_c_X4_readAtom_4 (wsV RX4 60 RX4 yX4_emit wf_c_X4_emit_1) := goodIn_app (gi_l [79, 80, 81, 70] rfl rfl) (gi_cons (j := 82) rfl rfl (goodIn_app (gi_l [83, 84] rfl rfl) (goodIn_sub iw_c_X4_readAtom_4_X4 gw_X4)))
set_option maxRecDepth 20000 in
theorem gf_c_X4_readAtom_4_c_X9_number_1 : GoodIn wf_c_X4_readAtom_4 (wsV RX4 99 RX9 yX9_number wf_c_X9_number_1) := goodIn_app (gi_l [50, 51, 52, 4] rfl rfl) (gi_cons (j := 53) rfl rfl (goodIn_app (gi_l [6, 7, 8] rfl rfl) (goodIn_sub iw_c_X4_readAtom_4_X9 gw_X9)))
set_option maxRecDepth 20000 in
theorem gf_c_X4_readAtom_4_c_X9_refuseHere : GoodIn wf_c_X4_readAtom_4 (wsV RX4 82 RX9 yX9_refuseHere wf_c_X9_refuseHere) := goodIn_app (gi_l [54, 55, 56, 4] rfl rfl) (gi_cons (j := 57) rfl rfl (goodIn_app (gi_l [6, 58, 59, 60, 4, 61, 62] rfl rfl) (goodIn_sub iw_c_X4_readAtom_4_X9 gw_X9)))
set_option maxRecDepth 20000 in
theorem gf_c_X4_readAtom_4_c_X9_skip : GoodIn wf_c_X4_readAtom_4 (wsV RX4 79 RX9 yX9_skip wf_c_X9_skip) := goodIn_app (gi_l [63, 64, 65, 4] rfl rfl) (gi_cons (j := 66) rfl rfl (goodIn_app (gi_l [6] rfl rfl) (goodIn_sub iw_c_X4_readAtom_4_X9 gw_X9)))
set_option maxRecDepth 20000 in
theorem gf_c_X4_readAtom_4_c_X4_readSum_5 : GoodIn wf_c_X4_readAtom_4 (wsV RX4 49 RX4 yX4_readSum wf_c_X4_readSum_5) := goodIn_app (gi_l [67, 68, 69, 70] rfl rfl) (gi_cons (j := 71) rfl rfl (goodIn_app (goodIn_app (gi_l [72, 73, 74, 4, 75, 62, 76, 77, 78, 70, 0, 1, 2, 3, 5, 6, 7, 8, 9, 10, 11, 12, 13, 14, 15, 16, 17, 18, 19, 20, 21, 22, 23, 24, 25, 26, 27, 28, 29, 30, 31, 32, 33, 34, 35, 36, 37, 38, 39, 40, 41, 42, 43, 44, 45, 46, 47, 48, 49, 50, 51, 52, 53, 54, 55, 56, 57, 58, 59, 60, 61, 63, 64, 65, 66, 67, 68, 69, 79, 80, 81, 82, 83, 84, 85, 86, 87, 88, 89, 90, 91, 92, 93] rfl rfl) (goodIn_sub iw_c_X4_readAtom_4_X9 gw_X9)) (goodIn_sub iw_c_X4_readAtom_4_X4 gw_X4)))
set_option maxRecDepth 20000 in
theorem gf_c_X4_readAtom_4_c_X9_expect_2 : GoodIn wf_c_X4_readAtom_4 (wsV RX4 37 RX9 yX9_expect wf_c_X9_expect_2) := goodIn_app (gi_l [90, 91, 92, 4] rfl rfl) (gi_cons (j := 93) rfl rfl (goodIn_app (gi_l [62, 89, 2, 3, 4, 5, 6, 7, 8, 58, 59, 60, 61] rfl rfl) (goodIn_sub iw_c_X4_readAtom_4_X9 gw_X9)))
set_option maxRecDepth 20000 in
theorem gf_c_X4_readAtom_4_c_X4_emit : GoodIn wf_c_X4_readAtom_4 (wsV RX4 60 RX4 yX4_emit wf_c_X4_emit) := goodIn_app (gi_l [79, 80, 81, 70] rfl rfl) (gi_cons (j := 82) rfl rfl (goodIn_app (gi_l [83, 84] rfl rfl) (goodIn_sub iw_c_X4_readAtom_4_X4 gw_X4)))
set_option maxRecDepth 20000 in
theorem gf_c_X4_readAtom_4_c_X9_peek : GoodIn wf_c_X4_readAtom_4 (wsV RX4 41 RX9 yX9_peek wf_c_X9_peek) := goodIn_app (gi_l [1, 2, 3, 4] rfl rfl) (gi_cons (j := 5) rfl rfl (goodIn_app (gi_l [6, 7, 8] rfl rfl) (goodIn_sub iw_c_X4_readAtom_4_X9 gw_X9)))
set_option maxRecDepth 20000 in
theorem gf_c_X4_readAtom_4_c_J0_indexOf_0f7a4_4 : GoodIn wf_c_X4_readAtom_4 (wsV RX4 93 RJ0 yJ0_indexOf_0f7a4 wf_c_J0_indexOf_0f7a4_4) := goodIn_app (gi_l [9, 10, 11, 12] rfl rfl) (gi_cons (j := 13) rfl rfl (gi_l [14, 15, 16, 12, 17, 18, 19, 20, 21, 22, 23, 24, 25, 26, 27, 28, 29, 30, 31, 32, 33, 34, 35, 36, 37, 38, 39, 40, 41, 42, 43, 44, 45, 46, 47, 48, 49] rfl rfl))
set_option maxHeartbeats 4000000 in
set_option maxRecDepth 100000 in
theorem c_X4_readAtom_4 (l : Launch) (dC : Nat → ClassId) (dI : Nat → Nat → Nat) (sz : Nat) (h0 : Nat) (h1 : Nat) (h1_0 : Nat) (h1_f1 : Int32) (h1_f2 : Int32) (h1_f3 : Int32) (h1_0k : ClassId) (h1_0c : Nat → Int32) (h0_0 : Nat) (h0_f1 : Int32) (h0_2 : Nat) (h0_0k : ClassId) (h0_0c : Nat → Int32) (ts4 : Nat) (tv4 : Nat) (g_h1_f1 : RG h1_f1 0 240) (g_h1_f2 : RG h1_f2 0 240) (g_h1_f3 : RG h1_f3 (-1) 240) (a_h1_0c : AI h1_0c 0 255) (g_h0_f1 : RG h0_f1 0 240) : Met l yX4_readAtom wf_c_X4_readAtom_4 ({ frames := 8, cells := 0, slots := 0, locals := 191 }) (va_Pc [.ref h0, .ref h1, .int 4] (fun U => U.heap.size = sz ∧ va_P (dC, dI) vwCl (wd_c_X4_readAtom_4 h1 h1_0 h1_f1 h1_f2 h1_f3 h1_0 h1_0k h1_0c h0 h0_0 h0_f1 h0_2 h0_0 h0_0k h0_0c) U.heap ∧ va_K (dC, dI) vwCl [(h1_0k, .int), (h0_0k, .int)] U ∧ va_D (fun _ => True) (wd_c_X4_readAtom_4 h1 h1_0 h1_f1 h1_f2 h1_f3 h1_0 h1_0k h1_0c h0 h0_0 h0_f1 h0_2 h0_0 h0_0k h0_0c) ∧ vk_R RX4 91 "vlrdph" ts4 U ∧ va_Z "java/lang/String" "COMPACT_STRINGS" "Z" (.int 1) (va_A (wd_c_X4_readAtom_4 h1 h1_0 h1_f1 h1_f2 h1_f3 h1_0 h1_0k h1_0c h0 h0_0 h0_f1 h0_2 h0_0 h0_0k h0_0c) sz) U U.heap ∧ va_OF "java/lang/String" "coder" "B" (.int 0) ts4 (va_A (wd_c_X4_readAtom_4 h1 h1_0 h1_f1 h1_f2 h1_f3 h1_0 h1_0k h1_0c h0 h0_0 h0_f1 h0_2 h0_0 h0_0k h0_0c) sz) U U.heap ∧ va_O "java/lang/String" ts4 (va_A (wd_c_X4_readAtom_4 h1 h1_0 h1_f1 h1_f2 h1_f3 h1_0 h1_0k h1_0c h0 h0_0 h0_f1 h0_2 h0_0 h0_0k h0_0c) sz) U U.heap ∧ va_OF "java/lang/String" "value" "[B" (.ref tv4) ts4 (va_A (wd_c_X4_readAtom_4 h1 h1_0 h1_f1 h1_f2 h1_f3 h1_0 h1_0k h1_0c h0 h0_0 h0_f1 h0_2 h0_0 h0_0k h0_0c) sz) U U.heap ∧ va_T .byte tv4 6 (fun j => .int ([118, 108, 114, 100, 112, 104].getD j 0)) (va_A (wd_c_X4_readAtom_4 h1 h1_0 h1_f1 h1_f2 h1_f3 h1_0 h1_0k h1_0c h0 h0_0 h0_f1 h0_2 h0_0 h0_0k h0_0c) sz) U U.heap)) (va_Qv (fun (u : (Int32) × (Int32) × (Int32) × (Nat → Int32)) => (RG u.1 0 240 ∧ RG u.2.1 (-1) 240 ∧ RG u.2.2.1 0 240)) (fun (u : (Int32) × (Int32) × (Int32) × (Nat → Int32)) t => va_P (dC, dI) vwCl (wd_c_X4_readAtom_4 h1 h1_0 h1_f1 (u.1) (u.2.1) h1_0 h1_0k h1_0c h0 h0_0 (u.2.2.1) h0_2 h0_0 h0_0k (u.2.2.2)) t.heap ∧ va_K (dC, dI) vwCl [] t ∧ va_D (va_A (wd_c_X4_readAtom_4 h1 h1_0 h1_f1 h1_f2 h1_f3 h1_0 h1_0k h1_0c h0 h0_0 h0_f1 h0_2 h0_0 h0_0k h0_0c) sz) (wd_c_X4_readAtom_4 h1 h1_0 h1_f1 (u.1) (u.2.1) h1_0 h1_0k h1_0c h0 h0_0 (u.2.2.1) h0_2 h0_0 h0_0k (u.2.2.2))) (va_A (wd_c_X4_readAtom_4 h1 h1_0 h1_f1 h1_f2 h1_f3 h1_0 h1_0k h1_0c h0 h0_0 h0_f1 h0_2 h0_0 h0_0k h0_0c) sz)) 0 0 (va_A (wd_c_X4_readAtom_4 h1 h1_0 h1_f1 h1_f2 h1_f3 h1_0 h1_0k h1_0c h0 h0_0 h0_f1 h0_2 h0_0 h0_0k h0_0c) sz) := by
  refine Met.ofW (cc := cX4_readAtom) (maxL := 6) (ret := none) (by decide +kernel) rfl ?_
  intro p e s m args below meth c s₁ B hml hv
  obtain ⟨rfl, hsz, hP, hK, hD0, hE_32, hE_10, hE_34, hE_33, hE_35, hE_36⟩ := hv
  have hx := B.exec
  have hb := B.bytes
  have hr := B.returns
  have hts := atoms_spec (ws := wf_c_X4_readAtom_4) B.pre
  have hown : s.vm.findClass RX4 = some m.cls := findClass_of_methodNamed B.named
  have hlocks := B.notSynchronized
  subst hsz
  have hD := hD0.self (sz := s.heap.size)
  generalize hAe : va_A (wd_c_X4_readAtom_4 h1 h1_0 h1_f1 h1_f2 h1_f3 h1_0 h1_0k h1_0c h0 h0_0 h0_f1 h0_2 h0_0 h0_0k h0_0c) s.heap.size = A at hD hE_10 hE_34 hE_33 hE_35 hE_36 ⊢
  have hA : ∀ q : Nat, s.heap.size ≤ q → A q := fun q h => by rw [← hAe]; exact Or.inr h
  have hP : va_P (dC, dI) vwCl (wd_c_X4_readAtom_4 h1 h1_0 h1_f1 h1_f2 h1_f3 h1_0 h1_0k h1_0c h0 h0_0 h0_f1 h0_2 h0_0 h0_0k h0_0c) s.heap := hP
  have hl := lv_entry ([.ref h0, .ref h1, .int 4]) (n := 6) (Nat.le_of_ble_eq_true rfl)
  rw [lg_entry_eq]
  generalize (lg_sl ([.ref h0, .ref h1, .int 4]) ++ List.replicate (6 - (lg_sl ([.ref h0, .ref h1, .int 4])).length) Slot.unset).toArray = ls at hl ⊢
  have hl : lv_has ls 6 [(0, .ref h0), (1, .ref h1), (2, .int 4)] := hl
  obtain ⟨H, hHe⟩ : ∃ H : Heap, s.heap = H := ⟨_, rfl⟩
  have hS : va_S A s.heap H [] := by rw [hHe]; exact va_S.rf
  have hP : va_P (dC, dI) vwCl (wd_c_X4_readAtom_4 h1 h1_0 h1_f1 h1_f2 h1_f3 h1_0 h1_0k h1_0c h0 h0_0 h0_f1 h0_2 h0_0 h0_0k h0_0c) H := by rw [← hHe]; exact hP
  rw [hHe]
  refine wj (fun G hG hU => ?_)
  as_aux_lemma =>
  have J65 : ∀ (j65_l5 : Int32) (j65_h1_f2 : Int32) (j65_h1_f3 : Int32) (g_h0_f1 : RG h0_f1 0 240) (g_h1_f1 : RG h1_f1 0 240) (g_h1_f2 : RG h1_f2 0 240) (g_h1_f3 : RG h1_f3 (-1) 240) (g_j65_h1_f2 : RG j65_h1_f2 0 240) (g_j65_h1_f3 : RG j65_h1_f3 (-1) 240) (g_j65_l5 : RG j65_l5 (-1) 9999) (H : Heap) (locs : List Loc) (ls : Array Slot) (hP : va_P (dC, dI) vwCl (wd_c_X4_readAtom_4 h1 h1_0 h1_f1 j65_h1_f2 j65_h1_f3 h1_0 h1_0k h1_0c h0 h0_0 h0_f1 h0_2 h0_0 h0_0k h0_0c) H) (hD : va_D A (wd_c_X4_readAtom_4 h1 h1_0 h1_f1 j65_h1_f2 j65_h1_f3 h1_0 h1_0k h1_0c h0 h0_0 h0_f1 h0_2 h0_0 h0_0k h0_0c)) (hS : va_S A s.heap H locs) (hl : lv_has ls 6 [(5, .int j65_l5), (0, .ref h0)]), G H locs (F0 m 65 ls []) := by
    as_aux_lemma =>
    intro j65_l5 j65_h1_f2 j65_h1_f3 g_h0_f1 g_h1_f1 g_h1_f2 g_h1_f3 g_j65_h1_f2 g_j65_h1_f3 g_j65_l5 H locs ls hP hD hS hl
    refine hG _ _ _ ?_
    refine lv_aload_n hx hb dX4_readAtom_65 rfl (lv_at hl 1 rfl) ?_
    refine lv_iload hx hb dX4_readAtom_66 (lv_at hl 0 rfl) ?_
    obtain ⟨hPc, hDc, hFc, hqc⟩ := cl_cut (wc := (wd_c_X4_emit_1 h0 h0_0 h0_f1 h0_2 h0_0 h0_0k h0_0c)) hP hD hS hA [2, 3] (by decide +kernel) rfl
    have hKc := hK.sub (tys' := [(h0_0k, .int)]) [1] rfl
    have hrv := va_recv hKc hPc (ci := 4) (q0 := 0) rfl rfl
    refine va_callv (va_runV (As := [.int j65_l5]) (rest := []) ⟨hx, hb, hml, hown, hts⟩ (c_X4_emit_1 l dC dI H.size h0 j65_l5 h0_0 h0_f1 h0_2 h0_0k h0_0c (RG_w g_j65_l5 (by decide +kernel)) g_h0_f1) (cwV 1 hts gf_c_X4_readAtom_4_c_X4_emit_1 rfl rfl rfl mdV_X4_emit ⟨Nat.le_of_ble_eq_true rfl, Nat.le_of_ble_eq_true rfl⟩) ⟨fun a U g mk q => by obtain ⟨q0, q1, qP, qK, qD⟩ := q; exact ⟨q0, q1, qP, va_K.moved (u := U) (U := U.calling g mk a) (Vm.Alike.refl U.vm) qK, qD⟩, hrv, fun U hU hW => ⟨rfl, by rw [hU], by rw [hU]; exact hPc, va_K.moved hW.alike hKc, hDc.weaken (fun _ _ _ _ => trivial)⟩⟩ rfl rfl hl.1 rfl (lv_room (Nat.le_of_ble_eq_true rfl)) dX4_readAtom_68 ⟨Nat.le_of_ble_eq_true rfl, Nat.le_of_ble_eq_true rfl⟩) hS (fun q _ h => hFc q h) hFc (fun u t H1 locs ht hvm hw hB hz1 hk1 hS => ?_)
    obtain ⟨x_2, w_3⟩ := u
    obtain ⟨hP1, hK1, hD1⟩ := hB
    rw [ht] at hP1
    obtain ⟨hP, hD⟩ := cl_put (w1 := (wd_c_X4_emit_1 h0 h0_0 x_2 h0_2 h0_0 h0_0k w_3)) (nw := (wd_c_X4_readAtom_4 h1 h1_0 h1_f1 j65_h1_f2 j65_h1_f3 h1_0 h1_0k h1_0c h0 h0_0 x_2 h0_2 h0_0 h0_0k w_3)) hP hD [2, 3] [0, 1, 4, 5] 4 rfl hqc (by decide +kernel) rfl hk1 hFc hP1 hD1
    generalize H1 = H at hP hS ⊢
    as_aux_lemma =>
    have h_4 := hw
    refine lv_goto (tgt := 105) hx hb dX4_readAtom_71 rfl ?_
    have hK9 := hK.sub (tys' := []) [] rfl
    exact W.vret hx hb hr (fun t ht hW => ⟨⟨(j65_h1_f2, j65_h1_f3, x_2, w_3), rfl, ⟨g_j65_h1_f2, g_j65_h1_f3, (RG_w h_4 (by decide +kernel))⟩, by rw [ht]; exact hP, va_K.moved hW.alike hK9, hD⟩, hS.F ht⟩) hS.2.2 dX4_readAtom_105
  have J20 : ∀ (j20_h1_f2 : Int32) (g_h0_f1 : RG h0_f1 0 240) (g_h1_f1 : RG h1_f1 0 240) (g_h1_f2 : RG h1_f2 0 240) (g_h1_f3 : RG h1_f3 (-1) 240) (g_j20_h1_f2 : RG j20_h1_f2 0 240) (H : Heap) (locs : List Loc) (ls : Array Slot) (hP : va_P (dC, dI) vwCl (wd_c_X4_readAtom_4 h1 h1_0 h1_f1 j20_h1_f2 h1_f3 h1_0 h1_0k h1_0c h0 h0_0 h0_f1 h0_2 h0_0 h0_0k h0_0c) H) (hD : va_D A (wd_c_X4_readAtom_4 h1 h1_0 h1_f1 j20_h1_f2 h1_f3 h1_0 h1_0k h1_0c h0 h0_0 h0_f1 h0_2 h0_0 h0_0k h0_0c)) (hS : va_S A s.heap H locs) (hl : lv_has ls 6 [(3, .int (-1)), (0, .ref h0), (1, .ref h1), (2, .int 4)]), G H locs (F0 m 20 ls [.int (-1)]) := by
    as_aux_lemma =>
    intro j20_h1_f2 g_h0_f1 g_h1_f1 g_h1_f2 g_h1_f3 g_j20_h1_f2 H locs ls hP hD hS hl
    refine hG _ _ _ ?_
    refine lv_istore (lv' := [(4, .int (-1)), (3, .int (-1)), (0, .ref h0), (1, .ref h1), (2, .int 4)]) hx hb dX4_readAtom_20 hl (Nat.le_of_ble_eq_true rfl) rfl (fun ls hl => ?_)
    refine lv_iload hx hb dX4_readAtom_22 (lv_at hl 0 rfl) ?_
    refine lv_if_lt (tgt := 42) hx hb dX4_readAtom_24 rfl (fun c_5 => ?_) (fun c_5 => absurd c_5 (by decide +kernel))
    refine lv_iload_n hx hb dX4_readAtom_42 rfl (lv_at hl 1 rfl) ?_
    refine lv_bipush (v := 91) hx hb dX4_readAtom_43 kc_bipush_91 ?_
    refine lv_icmp_eq (tgt := 74) hx hb dX4_readAtom_45 rfl (fun c_6 => absurd c_6 (by decide +kernel)) (fun c_6 => ?_)
    refine lv_aload_n hx hb dX4_readAtom_48 rfl (lv_at hl 3 rfl) ?_
    refine lv_iconst (v := 4) hx hb dX4_readAtom_49 kc_iconst_4 ?_
    obtain ⟨hPc, hDc, hFc, hqc⟩ := cl_cut (wc := (wd_c_X9_number_1 h1 h1_0 h1_f1 j20_h1_f2 h1_f3 h1_0 h1_0k h1_0c)) hP hD hS hA [0, 1] (by decide +kernel) rfl
    have hKc := hK.sub (tys' := [(h1_0k, .int)]) [0] rfl
    have hrv := va_recv hKc hPc (ci := 9) (q0 := 0) rfl rfl
    refine va_calli (va_runV (As := [.int 4]) (rest := []) ⟨hx, hb, hml, hown, hts⟩ (c_X9_number_1 l dC dI H.size h1 h1_0 h1_f1 j20_h1_f2 h1_f3 h1_0k h1_0c g_h1_f1 g_j20_h1_f2 g_h1_f3 a_h1_0c) (cwV 1 hts gf_c_X4_readAtom_4_c_X9_number_1 rfl rfl rfl mdV_X9_number ⟨Nat.le_of_ble_eq_true rfl, Nat.le_of_ble_eq_true rfl⟩) ⟨fun a U g mk q => by obtain ⟨q0, q1, qP, qK, qD⟩ := q; exact ⟨q0, q1, qP, va_K.moved (u := U) (U := U.calling g mk a) (Vm.Alike.refl U.vm) qK, qD⟩, hrv, fun U hU hW => ⟨rfl, by rw [hU], by rw [hU]; exact hPc, va_K.moved hW.alike hKc, hDc.weaken (fun _ _ _ _ => trivial)⟩⟩ rfl rfl hl.1 rfl (lv_room (Nat.le_of_ble_eq_true rfl)) dX4_readAtom_50 ⟨Nat.le_of_ble_eq_true rfl, Nat.le_of_ble_eq_true rfl⟩) hS (fun q _ h => hFc q h) hFc (fun r_7 x_8 t H1 locs ht hvm hw hB hz1 hk1 hS => ?_)
    as_aux_lemma =>
    obtain ⟨hP1, hK1, hD1⟩ := hB
    rw [ht] at hP1
    obtain ⟨hP, hD⟩ := cl_put (w1 := (wd_c_X9_number_1 h1 h1_0 h1_f1 x_8 h1_f3 h1_0 h1_0k h1_0c)) (nw := (wd_c_X4_readAtom_4 h1 h1_0 h1_f1 x_8 h1_f3 h1_0 h1_0k h1_0c h0 h0_0 h0_f1 h0_2 h0_0 h0_0k h0_0c)) hP hD [0, 1] [4, 5, 2, 3] 4 rfl hqc (by decide +kernel) rfl hk1 hFc hP1 hD1
    generalize H1 = H at hP hS ⊢
    as_aux_lemma =>
    rcases hw with ⟨h_9, h_10, h_11⟩ | ⟨h_12, h_13, h_14, h_15, h_16⟩
    · rw [h_9]
      refine lv_istore (lv' := [(5, .int (-1)), (4, .int (-1)), (3, .int (-1)), (0, .ref h0), (1, .ref h1), (2, .int 4)]) hx hb dX4_readAtom_53 hl (Nat.le_of_ble_eq_true rfl) rfl (fun ls hl => ?_)
      refine lv_iload hx hb dX4_readAtom_55 (lv_at hl 0 rfl) ?_
      refine lv_iconst (v := (-1)) hx hb dX4_readAtom_57 kc_iconst_m1 ?_
      refine lv_icmp_ne (tgt := 65) hx hb dX4_readAtom_58 rfl (fun c_17 => absurd c_17 (by decide +kernel)) (fun c_17 => ?_)
      refine lv_aload_n hx hb dX4_readAtom_61 rfl (lv_at hl 4 rfl) ?_
      obtain ⟨hPc, hDc, hFc, hqc⟩ := cl_cut (wc := (wd_c_X9_refuseHere h1 h1_0 h1_f1 x_8 h1_f3)) hP hD hS hA [0] (by decide +kernel) rfl
      have hKc := hK.sub (tys' := []) [] rfl
      have hrv := va_recv hKc hPc (ci := 9) (q0 := 0) rfl rfl
      refine va_callv (va_runV (As := []) (rest := []) ⟨hx, hb, hml, hown, hts⟩ (c_X9_refuseHere l dC dI H.size h1 h1_0 h1_f1 x_8 h1_f3 g_h1_f1 h_10 g_h1_f3) (cwV 0 hts gf_c_X4_readAtom_4_c_X9_refuseHere rfl rfl rfl mdV_X9_refuseHere ⟨Nat.le_of_ble_eq_true rfl, Nat.le_of_ble_eq_true rfl⟩) ⟨fun a U g mk q => by obtain ⟨q0, q1, qP, qK, qD⟩ := q; exact ⟨q0, q1, qP, va_K.moved (u := U) (U := U.calling g mk a) (Vm.Alike.refl U.vm) qK, qD⟩, hrv, fun U hU hW => ⟨rfl, by rw [hU], by rw [hU]; exact hPc, va_K.moved hW.alike hKc, hDc.weaken (fun _ _ _ _ => trivial)⟩⟩ rfl rfl hl.1 rfl (lv_room (Nat.le_of_ble_eq_true rfl)) dX4_readAtom_62 ⟨Nat.le_of_ble_eq_true rfl, Nat.le_of_ble_eq_true rfl⟩) hS (fun q _ h => hFc q h) hFc (fun x_19 t H1 locs ht hvm hw hB hz1 hk1 hS => ?_)
      obtain ⟨hP1, hK1, hD1⟩ := hB
      rw [ht] at hP1
      obtain ⟨hP, hD⟩ := cl_put (w1 := (wd_c_X9_refuseHere h1 h1_0 h1_f1 x_8 x_19)) (nw := (wd_c_X4_readAtom_4 h1 h1_0 h1_f1 x_8 x_19 h1_0 h1_0k h1_0c h0 h0_0 h0_f1 h0_2 h0_0 h0_0k h0_0c)) hP hD [0] [4, 1, 2, 3] 4 rfl hqc (by decide +kernel) rfl hk1 hFc hP1 hD1
      generalize H1 = H at hP hS ⊢
      as_aux_lemma =>
      have h_20 := hw
      exact hU _ _ _ (J65 (-1) x_8 x_19 g_h0_f1 g_h1_f1 g_h1_f2 g_h1_f3 h_10 (RG_w h_20 (by decide +kernel)) (RG_w (RG_k (-1) (-1) rfl) (by decide +kernel)) _ _ _ hP hD hS (lv_sub hl [0, 3] rfl))
    · refine lv_istore (lv' := [(5, .int r_7), (4, .int (-1)), (3, .int (-1)), (0, .ref h0), (1, .ref h1), (2, .int 4)]) hx hb dX4_readAtom_53 hl (Nat.le_of_ble_eq_true rfl) rfl (fun ls hl => ?_)
      refine lv_iload hx hb dX4_readAtom_55 (lv_at hl 0 rfl) ?_
      refine lv_iconst (v := (-1)) hx hb dX4_readAtom_57 kc_iconst_m1 ?_
      refine lv_icmp_ne (tgt := 65) hx hb dX4_readAtom_58 rfl (fun c_21 => ?_) (fun c_21 => ?_)
      · exact hU _ _ _ (J65 r_7 x_8 h1_f3 g_h0_f1 (RG_w h_14 (by decide +kernel)) g_h1_f2 g_h1_f3 (RG_w h_13 (by decide +kernel)) g_h1_f3 (RG_w h_12 (by decide +kernel)) _ _ _ hP hD hS (lv_sub hl [0, 3] rfl))
      · exact RG_dead (RG_eq1 h_12 (RG_k (-1) (-1) rfl) c_21 (a' := 0) (b' := (-1)) (by decide +kernel)) (by decide +kernel)
  have J65b : ∀ (j65b_l5 : Int32) (j65b_h1_f2 : Int32) (j65b_h1_f3 : Int32) (g_h0_f1 : RG h0_f1 0 240) (g_h1_f1 : RG h1_f1 1 240) (g_h1_f2 : RG h1_f2 0 240) (g_h1_f3 : RG h1_f3 (-1) 240) (g_j65b_h1_f2 : RG j65b_h1_f2 0 240) (g_j65b_h1_f3 : RG j65b_h1_f3 (-1) 240) (g_j65b_l5 : RG j65b_l5 (-1) 9999) (H : Heap) (locs : List Loc) (ls : Array Slot) (hP : va_P (dC, dI) vwCl (wd_c_X4_readAtom_4 h1 h1_0 h1_f1 j65b_h1_f2 j65b_h1_f3 h1_0 h1_0k h1_0c h0 h0_0 h0_f1 h0_2 h0_0 h0_0k h0_0c) H) (hD : va_D A (wd_c_X4_readAtom_4 h1 h1_0 h1_f1 j65b_h1_f2 j65b_h1_f3 h1_0 h1_0k h1_0c h0 h0_0 h0_f1 h0_2 h0_0 h0_0k h0_0c)) (hS : va_S A s.heap H locs) (hl : lv_has ls 6 [(5, .int j65b_l5), (0, .ref h0)]), G H locs (F0 m 65 ls []) := by
    as_aux_lemma =>
    intro j65b_l5 j65b_h1_f2 j65b_h1_f3 g_h0_f1 g_h1_f1 g_h1_f2 g_h1_f3 g_j65b_h1_f2 g_j65b_h1_f3 g_j65b_l5 H locs ls hP hD hS hl
    refine hG _ _ _ ?_
    refine lv_aload_n hx hb dX4_readAtom_65 rfl (lv_at hl 1 rfl) ?_
    refine lv_iload hx hb dX4_readAtom_66 (lv_at hl 0 rfl) ?_
    obtain ⟨hPc, hDc, hFc, hqc⟩ := cl_cut (wc := (wd_c_X4_emit_1 h0 h0_0 h0_f1 h0_2 h0_0 h0_0k h0_0c)) hP hD hS hA [2, 3] (by decide +kernel) rfl
    have hKc := hK.sub (tys' := [(h0_0k, .int)]) [1] rfl
    have hrv := va_recv hKc hPc (ci := 4) (q0 := 0) rfl rfl
    refine va_callv (va_runV (As := [.int j65b_l5]) (rest := []) ⟨hx, hb, hml, hown, hts⟩ (c_X4_emit_1 l dC dI H.size h0 j65b_l5 h0_0 h0_f1 h0_2 h0_0k h0_0c (RG_w g_j65b_l5 (by decide +kernel)) g_h0_f1) (cwV 1 hts gf_c_X4_readAtom_4_c_X4_emit_1 rfl rfl rfl mdV_X4_emit ⟨Nat.le_of_ble_eq_true rfl, Nat.le_of_ble_eq_true rfl⟩) ⟨fun a U g mk q => by obtain ⟨q0, q1, qP, qK, qD⟩ := q; exact ⟨q0, q1, qP, va_K.moved (u := U) (U := U.calling g mk a) (Vm.Alike.refl U.vm) qK, qD⟩, hrv, fun U hU hW => ⟨rfl, by rw [hU], by rw [hU]; exact hPc, va_K.moved hW.alike hKc, hDc.weaken (fun _ _ _ _ => trivial)⟩⟩ rfl rfl hl.1 rfl (lv_room (Nat.le_of_ble_eq_true rfl)) dX4_readAtom_68 ⟨Nat.le_of_ble_eq_true rfl, Nat.le_of_ble_eq_true rfl⟩) hS (fun q _ h => hFc q h) hFc (fun u t H1 locs ht hvm hw hB hz1 hk1 hS => ?_)
    obtain ⟨x_23, w_24⟩ := u
    obtain ⟨hP1, hK1, hD1⟩ := hB
    rw [ht] at hP1
    obtain ⟨hP, hD⟩ := cl_put (w1 := (wd_c_X4_emit_1 h0 h0_0 x_23 h0_2 h0_0 h0_0k w_24)) (nw := (wd_c_X4_readAtom_4 h1 h1_0 h1_f1 j65b_h1_f2 j65b_h1_f3 h1_0 h1_0k h1_0c h0 h0_0 x_23 h0_2 h0_0 h0_0k w_24)) hP hD [2, 3] [0, 1, 4, 5] 4 rfl hqc (by decide +kernel) rfl hk1 hFc hP1 hD1
    generalize H1 = H at hP hS ⊢
    as_aux_lemma =>
    have h_25 := hw
    refine lv_goto (tgt := 105) hx hb dX4_readAtom_71 rfl ?_
    have hK9 := hK.sub (tys' := []) [] rfl
    exact W.vret hx hb hr (fun t ht hW => ⟨⟨(j65b_h1_f2, j65b_h1_f3, x_23, w_24), rfl, ⟨g_j65b_h1_f2, g_j65b_h1_f3, (RG_w h_25 (by decide +kernel))⟩, by rw [ht]; exact hP, va_K.moved hW.alike hK9, hD⟩, hS.F ht⟩) hS.2.2 dX4_readAtom_105
  have J20b : ∀ (j20b_l3 : Int32) (j20b_h1_f2 : Int32) (g_h0_f1 : RG h0_f1 0 240) (g_h1_f1 : RG h1_f1 1 240) (g_h1_f2 : RG h1_f2 0 240) (g_h1_f3 : RG h1_f3 (-1) 240) (g_j20b_h1_f2 : RG j20b_h1_f2 0 239) (g_j20b_l3 : RG j20b_l3 0 255) (H : Heap) (locs : List Loc) (ls : Array Slot) (hP : va_P (dC, dI) vwCl (wd_c_X4_readAtom_4 h1 h1_0 h1_f1 j20b_h1_f2 h1_f3 h1_0 h1_0k h1_0c h0 h0_0 h0_f1 h0_2 h0_0 h0_0k h0_0c) H) (hD : va_D A (wd_c_X4_readAtom_4 h1 h1_0 h1_f1 j20b_h1_f2 h1_f3 h1_0 h1_0k h1_0c h0 h0_0 h0_f1 h0_2 h0_0 h0_0k h0_0c)) (hS : va_S A s.heap H locs) (hl : lv_has ls 6 [(3, .int j20b_l3), (0, .ref h0), (1, .ref h1), (2, .int 4)]), G H locs (F0 m 20 ls [.int (-1)]) := by
    as_aux_lemma =>
    intro j20b_l3 j20b_h1_f2 g_h0_f1 g_h1_f1 g_h1_f2 g_h1_f3 g_j20b_h1_f2 g_j20b_l3 H locs ls hP hD hS hl
    refine hG _ _ _ ?_
    refine lv_istore (lv' := [(4, .int (-1)), (3, .int j20b_l3), (0, .ref h0), (1, .ref h1), (2, .int 4)]) hx hb dX4_readAtom_20 hl (Nat.le_of_ble_eq_true rfl) rfl (fun ls hl => ?_)
    refine lv_iload hx hb dX4_readAtom_22 (lv_at hl 0 rfl) ?_
    refine lv_if_lt (tgt := 42) hx hb dX4_readAtom_24 rfl (fun c_26 => ?_) (fun c_26 => absurd c_26 (by decide +kernel))
    refine lv_iload_n hx hb dX4_readAtom_42 rfl (lv_at hl 1 rfl) ?_
    refine lv_bipush (v := 91) hx hb dX4_readAtom_43 kc_bipush_91 ?_
    refine lv_icmp_eq (tgt := 74) hx hb dX4_readAtom_45 rfl (fun c_27 => ?_) (fun c_27 => ?_)
    · have g_28 : RG j20b_l3 91 91 := RG_eq1 g_j20b_l3 (RG_k 91 91 rfl) c_27 (by decide +kernel)
      refine lv_iload_n hx hb dX4_readAtom_74 rfl (lv_at hl 4 rfl) ?_
      refine lv_bipush (v := 6) hx hb dX4_readAtom_75 kc_bipush_6 ?_
      refine lv_icmp_lt (tgt := 87) hx hb dX4_readAtom_77 rfl (fun c_29 => ?_) (fun c_29 => absurd c_29 (by decide +kernel))
      refine lv_aload_n hx hb dX4_readAtom_87 rfl (lv_at hl 3 rfl) ?_
      obtain ⟨hPc, hDc, hFc, hqc⟩ := cl_cut (wc := (wd_c_X9_skip h1 h1_0 h1_f1 j20b_h1_f2 h1_f3)) hP hD hS hA [0] (by decide +kernel) rfl
      have hKc := hK.sub (tys' := []) [] rfl
      have hrv := va_recv hKc hPc (ci := 9) (q0 := 0) rfl rfl
      refine va_callv (va_runV (As := []) (rest := []) ⟨hx, hb, hml, hown, hts⟩ (c_X9_skip l dC dI H.size h1 h1_0 h1_f1 j20b_h1_f2 h1_f3 (RG_w g_h1_f1 (by decide +kernel)) g_j20b_h1_f2 g_h1_f3) (cwV 0 hts gf_c_X4_readAtom_4_c_X9_skip rfl rfl rfl mdV_X9_skip ⟨Nat.le_of_ble_eq_true rfl, Nat.le_of_ble_eq_true rfl⟩) ⟨fun a U g mk q => by obtain ⟨q0, q1, qP, qK, qD⟩ := q; exact ⟨q0, q1, qP, va_K.moved (u := U) (U := U.calling g mk a) (Vm.Alike.refl U.vm) qK, qD⟩, hrv, fun U hU hW => ⟨rfl, by rw [hU], by rw [hU]; exact hPc, va_K.moved hW.alike hKc, hDc.weaken (fun _ _ _ _ => trivial)⟩⟩ rfl rfl hl.1 rfl (lv_room (Nat.le_of_ble_eq_true rfl)) dX4_readAtom_88 ⟨Nat.le_of_ble_eq_true rfl, Nat.le_of_ble_eq_true rfl⟩) hS (fun q _ h => hFc q h) hFc (fun x_31 t H1 locs ht hvm hw hB hz1 hk1 hS => ?_)
      as_aux_lemma =>
      obtain ⟨hP1, hK1, hD1⟩ := hB
      rw [ht] at hP1
      obtain ⟨hP, hD⟩ := cl_put (w1 := (wd_c_X9_skip h1 h1_0 h1_f1 x_31 h1_f3)) (nw := (wd_c_X4_readAtom_4 h1 h1_0 h1_f1 x_31 h1_f3 h1_0 h1_0k h1_0c h0 h0_0 h0_f1 h0_2 h0_0 h0_0k h0_0c)) hP hD [0] [4, 1, 2, 3] 4 rfl hqc (by decide +kernel) rfl hk1 hFc hP1 hD1
      generalize H1 = H at hP hS ⊢
      as_aux_lemma =>
      rcases hw with ⟨h_32, h_33, h_34⟩
      refine lv_aload_n hx hb dX4_readAtom_91 rfl (lv_at hl 2 rfl) ?_
      refine lv_aload_n hx hb dX4_readAtom_92 rfl (lv_at hl 3 rfl) ?_
      refine lv_iload_n hx hb dX4_readAtom_93 rfl (lv_at hl 4 rfl) ?_
      refine lv_iconst (v := 1) hx hb dX4_readAtom_94 kc_iconst_1 ?_
      refine lv_iadd hx hb dX4_readAtom_95 ?_
      refine lv_topi (fun x_35 ex_35 => ?_)
      obtain rfl : x_35 = 5 := ex_35.trans (by decide +kernel)
      obtain ⟨hPc, hDc, hFc, hqc⟩ := cl_cut (wc := (wd_c_X4_readSum_5 h1 h1_0 h1_f1 x_31 h1_f3 h1_0 h1_0k h1_0c h0 h0_0 h0_f1 h0_2 h0_0 h0_0k h0_0c)) hP hD hS hA [0, 1, 2, 3] (by decide +kernel) rfl
      have hKc := hK.sub (tys' := [(h1_0k, .int), (h0_0k, .int)]) [0, 1] rfl
      have hrv := va_recv hKc hPc (ci := 4) (q0 := 2) rfl rfl
      refine va_callv (va_runV (As := [.ref h1, .int 5]) (rest := []) ⟨hx, hb, hml, hown, hts⟩ (c_X4_readSum_5 l dC dI H.size h0 h1 h1_0 h1_f1 x_31 h1_f3 h1_0k h1_0c h0_0 h0_f1 h0_2 h0_0k h0_0c ts4 tv4 (RG_w g_h1_f1 (by decide +kernel)) (RG_w h_32 (by decide +kernel)) g_h1_f3 a_h1_0c g_h0_f1) (cwV 2 hts gf_c_X4_readAtom_4_c_X4_readSum_5 rfl rfl rfl mdV_X4_readSum ⟨Nat.le_of_ble_eq_true rfl, Nat.le_of_ble_eq_true rfl⟩) ⟨fun a U g mk q => by obtain ⟨q0, q1, qP, qK, qD, qE0, qE1, qE2, qE3, qE4, qE5⟩ := q; exact ⟨q0, q1, qP, va_K.moved (u := U) (U := U.calling g mk a) (Vm.Alike.refl U.vm) qK, qD, vk_R.same rfl qE0, va_Z.moved (u := U) (U := U.calling g mk a) (Vm.Alike.refl U.vm) qE1, va_OF.moved (u := U) (U := U.calling g mk a) (Vm.Alike.refl U.vm) qE2, va_O.moved (u := U) (U := U.calling g mk a) (Vm.Alike.refl U.vm) qE3, va_OF.moved (u := U) (U := U.calling g mk a) (Vm.Alike.refl U.vm) qE4, va_T.moved (u := U) (U := U.calling g mk a) (Vm.Alike.refl U.vm) qE5⟩, hrv, fun U hU hW => ⟨rfl, by rw [hU], by rw [hU]; exact hPc, va_K.moved hW.alike hKc, hDc.weaken (fun _ _ _ _ => trivial), vk_R.warm hW hE_32, va_Z.moved hW.alike (by rw [hU]; exact (hE_10.kept hS.2.1).narrow hFc), va_OF.moved hW.alike (by rw [hU]; exact (hE_34.kept hS.2.1).narrow hFc), va_O.moved hW.alike (by rw [hU]; exact (hE_33.kept hS.2.1).narrow hFc), va_OF.moved hW.alike (by rw [hU]; exact (hE_35.kept hS.2.1).narrow hFc), va_T.moved hW.alike (by rw [hU]; exact (hE_36.kept hS.2.1).narrow hFc)⟩⟩ rfl rfl hl.1 rfl (lv_room (Nat.le_of_ble_eq_true rfl)) dX4_readAtom_96 ⟨Nat.le_of_ble_eq_true rfl, Nat.le_of_ble_eq_true rfl⟩) hS (fun q _ h => hFc q h) hFc (fun u t H1 locs ht hvm hw hB hz1 hk1 hS => ?_)
      obtain ⟨x_37, x_38, x_39, w_40⟩ := u
      obtain ⟨hP1, hK1, hD1⟩ := hB
      rw [ht] at hP1
      obtain ⟨hP, hD⟩ := cl_put (w1 := (wd_c_X4_readSum_5 h1 h1_0 h1_f1 x_37 x_38 h1_0 h1_0k h1_0c h0 h0_0 x_39 h0_2 h0_0 h0_0k w_40)) (nw := (wd_c_X4_readAtom_4 h1 h1_0 h1_f1 x_37 x_38 h1_0 h1_0k h1_0c h0 h0_0 x_39 h0_2 h0_0 h0_0k w_40)) hP hD [0, 1, 2, 3] [4, 5, 6, 7] 4 rfl hqc (by decide +kernel) rfl hk1 hFc hP1 hD1
      generalize H1 = H at hP hS ⊢
      as_aux_lemma =>
      rcases hw with ⟨h_41, h_42, h_43⟩
      refine lv_aload_n hx hb dX4_readAtom_99 rfl (lv_at hl 3 rfl) ?_
      refine lv_bipush (v := 93) hx hb dX4_readAtom_100 kc_bipush_93 ?_
      obtain ⟨hPc, hDc, hFc, hqc⟩ := cl_cut (wc := (wd_c_X9_expect_2 h1 h1_0 h1_f1 x_37 x_38 h1_0 h1_0k h1_0c)) hP hD hS hA [0, 1] (by decide +kernel) rfl
      have hKc := hK.sub (tys' := [(h1_0k, .int)]) [0] rfl
      have hrv := va_recv hKc hPc (ci := 9) (q0 := 0) rfl rfl
      refine va_callv (va_runV (As := [.int 93]) (rest := []) ⟨hx, hb, hml, hown, hts⟩ (c_X9_expect_2 l dC dI H.size h1 93 h1_0 h1_f1 x_37 x_38 h1_0k h1_0c (RG_w (RG_k 93 93 rfl) (by decide +kernel)) (RG_w g_h1_f1 (by decide +kernel)) h_41 h_42 a_h1_0c) (cwV 1 hts gf_c_X4_readAtom_4_c_X9_expect_2 rfl rfl rfl mdV_X9_expect ⟨Nat.le_of_ble_eq_true rfl, Nat.le_of_ble_eq_true rfl⟩) ⟨fun a U g mk q => by obtain ⟨q0, q1, qP, qK, qD⟩ := q; exact ⟨q0, q1, qP, va_K.moved (u := U) (U := U.calling g mk a) (Vm.Alike.refl U.vm) qK, qD⟩, hrv, fun U hU hW => ⟨rfl, by rw [hU], by rw [hU]; exact hPc, va_K.moved hW.alike hKc, hDc.weaken (fun _ _ _ _ => trivial)⟩⟩ rfl rfl hl.1 rfl (lv_room (Nat.le_of_ble_eq_true rfl)) dX4_readAtom_102 ⟨Nat.le_of_ble_eq_true rfl, Nat.le_of_ble_eq_true rfl⟩) hS (fun q _ h => hFc q h) hFc (fun u t H1 locs ht hvm hw hB hz1 hk1 hS => ?_)
      obtain ⟨x_45, x_46⟩ := u
      obtain ⟨hP1, hK1, hD1⟩ := hB
      rw [ht] at hP1
      obtain ⟨hP, hD⟩ := cl_put (w1 := (wd_c_X9_expect_2 h1 h1_0 h1_f1 x_45 x_46 h1_0 h1_0k h1_0c)) (nw := (wd_c_X4_readAtom_4 h1 h1_0 h1_f1 x_45 x_46 h1_0 h1_0k h1_0c h0 h0_0 x_39 h0_2 h0_0 h0_0k w_40)) hP hD [0, 1] [4, 5, 2, 3] 4 rfl hqc (by decide +kernel) rfl hk1 hFc hP1 hD1
      generalize H1 = H at hP hS ⊢
      as_aux_lemma =>
      rcases hw with ⟨h_47, h_48, h_49⟩
      have hK9 := hK.sub (tys' := []) [] rfl
      exact W.vret hx hb hr (fun t ht hW => ⟨⟨(x_45, x_46, x_39, w_40), rfl, ⟨h_47, h_48, h_43⟩, by rw [ht]; exact hP, va_K.moved hW.alike hK9, hD⟩, hS.F ht⟩) hS.2.2 dX4_readAtom_105
    · refine lv_aload_n hx hb dX4_readAtom_48 rfl (lv_at hl 3 rfl) ?_
      refine lv_iconst (v := 4) hx hb dX4_readAtom_49 kc_iconst_4 ?_
      obtain ⟨hPc, hDc, hFc, hqc⟩ := cl_cut (wc := (wd_c_X9_number_1 h1 h1_0 h1_f1 j20b_h1_f2 h1_f3 h1_0 h1_0k h1_0c)) hP hD hS hA [0, 1] (by decide +kernel) rfl
      have hKc := hK.sub (tys' := [(h1_0k, .int)]) [0] rfl
      have hrv := va_recv hKc hPc (ci := 9) (q0 := 0) rfl rfl
      refine va_calli (va_runV (As := [.int 4]) (rest := []) ⟨hx, hb, hml, hown, hts⟩ (c_X9_number_1 l dC dI H.size h1 h1_0 h1_f1 j20b_h1_f2 h1_f3 h1_0k h1_0c (RG_w g_h1_f1 (by decide +kernel)) (RG_w g_j20b_h1_f2 (by decide +kernel)) g_h1_f3 a_h1_0c) (cwV 1 hts gf_c_X4_readAtom_4_c_X9_number_1 rfl rfl rfl mdV_X9_number ⟨Nat.le_of_ble_eq_true rfl, Nat.le_of_ble_eq_true rfl⟩) ⟨fun a U g mk q => by obtain ⟨q0, q1, qP, qK, qD⟩ := q; exact ⟨q0, q1, qP, va_K.moved (u := U) (U := U.calling g mk a) (Vm.Alike.refl U.vm) qK, qD⟩, hrv, fun U hU hW => ⟨rfl, by rw [hU], by rw [hU]; exact hPc, va_K.moved hW.alike hKc, hDc.weaken (fun _ _ _ _ => trivial)⟩⟩ rfl rfl hl.1 rfl (lv_room (Nat.le_of_ble_eq_true rfl)) dX4_readAtom_50 ⟨Nat.le_of_ble_eq_true rfl, Nat.le_of_ble_eq_true rfl⟩) hS (fun q _ h => hFc q h) hFc (fun r_50 x_51 t H1 locs ht hvm hw hB hz1 hk1 hS => ?_)
      obtain ⟨hP1, hK1, hD1⟩ := hB
      rw [ht] at hP1
      obtain ⟨hP, hD⟩ := cl_put (w1 := (wd_c_X9_number_1 h1 h1_0 h1_f1 x_51 h1_f3 h1_0 h1_0k h1_0c)) (nw := (wd_c_X4_readAtom_4 h1 h1_0 h1_f1 x_51 h1_f3 h1_0 h1_0k h1_0c h0 h0_0 h0_f1 h0_2 h0_0 h0_0k h0_0c)) hP hD [0, 1] [4, 5, 2, 3] 4 rfl hqc (by decide +kernel) rfl hk1 hFc hP1 hD1
      generalize H1 = H at hP hS ⊢
      as_aux_lemma =>
      rcases hw with ⟨h_52, h_53, h_54⟩ | ⟨h_55, h_56, h_57, h_58, h_59⟩
      · rw [h_52]
        refine lv_istore (lv' := [(5, .int (-1)), (4, .int (-1)), (3, .int j20b_l3), (0, .ref h0), (1, .ref h1), (2, .int 4)]) hx hb dX4_readAtom_53 hl (Nat.le_of_ble_eq_true rfl) rfl (fun ls hl => ?_)
        refine lv_iload hx hb dX4_readAtom_55 (lv_at hl 0 rfl) ?_
        refine lv_iconst (v := (-1)) hx hb dX4_readAtom_57 kc_iconst_m1 ?_
        refine lv_icmp_ne (tgt := 65) hx hb dX4_readAtom_58 rfl (fun c_60 => absurd c_60 (by decide +kernel)) (fun c_60 => ?_)
        refine lv_aload_n hx hb dX4_readAtom_61 rfl (lv_at hl 4 rfl) ?_
        obtain ⟨hPc, hDc, hFc, hqc⟩ := cl_cut (wc := (wd_c_X9_refuseHere h1 h1_0 h1_f1 x_51 h1_f3)) hP hD hS hA [0] (by decide +kernel) rfl
        have hKc := hK.sub (tys' := []) [] rfl
        have hrv := va_recv hKc hPc (ci := 9) (q0 := 0) rfl rfl
        refine va_callv (va_runV (As := []) (rest := []) ⟨hx, hb, hml, hown, hts⟩ (c_X9_refuseHere l dC dI H.size h1 h1_0 h1_f1 x_51 h1_f3 (RG_w g_h1_f1 (by decide +kernel)) h_53 g_h1_f3) (cwV 0 hts gf_c_X4_readAtom_4_c_X9_refuseHere rfl rfl rfl mdV_X9_refuseHere ⟨Nat.le_of_ble_eq_true rfl, Nat.le_of_ble_eq_true rfl⟩) ⟨fun a U g mk q => by obtain ⟨q0, q1, qP, qK, qD⟩ := q; exact ⟨q0, q1, qP, va_K.moved (u := U) (U := U.calling g mk a) (Vm.Alike.refl U.vm) qK, qD⟩, hrv, fun U hU hW => ⟨rfl, by rw [hU], by rw [hU]; exact hPc, va_K.moved hW.alike hKc, hDc.weaken (fun _ _ _ _ => trivial)⟩⟩ rfl rfl hl.1 rfl (lv_room (Nat.le_of_ble_eq_true rfl)) dX4_readAtom_62 ⟨Nat.le_of_ble_eq_true rfl, Nat.le_of_ble_eq_true rfl⟩) hS (fun q _ h => hFc q h) hFc (fun x_62 t H1 locs ht hvm hw hB hz1 hk1 hS => ?_)
        obtain ⟨hP1, hK1, hD1⟩ := hB
        rw [ht] at hP1
        obtain ⟨hP, hD⟩ := cl_put (w1 := (wd_c_X9_refuseHere h1 h1_0 h1_f1 x_51 x_62)) (nw := (wd_c_X4_readAtom_4 h1 h1_0 h1_f1 x_51 x_62 h1_0 h1_0k h1_0c h0 h0_0 h0_f1 h0_2 h0_0 h0_0k h0_0c)) hP hD [0] [4, 1, 2, 3] 4 rfl hqc (by decide +kernel) rfl hk1 hFc hP1 hD1
        generalize H1 = H at hP hS ⊢
        as_aux_lemma =>
        have h_63 := hw
        exact hU _ _ _ (J65b (-1) x_51 x_62 g_h0_f1 g_h1_f1 g_h1_f2 g_h1_f3 h_53 (RG_w h_63 (by decide +kernel)) (RG_w (RG_k (-1) (-1) rfl) (by decide +kernel)) _ _ _ hP hD hS (lv_sub hl [0, 3] rfl))
      · refine lv_istore (lv' := [(5, .int r_50), (4, .int (-1)), (3, .int j20b_l3), (0, .ref h0), (1, .ref h1), (2, .int 4)]) hx hb dX4_readAtom_53 hl (Nat.le_of_ble_eq_true rfl) rfl (fun ls hl => ?_)
        refine lv_iload hx hb dX4_readAtom_55 (lv_at hl 0 rfl) ?_
        refine lv_iconst (v := (-1)) hx hb dX4_readAtom_57 kc_iconst_m1 ?_
        refine lv_icmp_ne (tgt := 65) hx hb dX4_readAtom_58 rfl (fun c_64 => ?_) (fun c_64 => ?_)
        · exact hU _ _ _ (J65b r_50 x_51 h1_f3 g_h0_f1 g_h1_f1 g_h1_f2 g_h1_f3 (RG_w h_56 (by decide +kernel)) g_h1_f3 (RG_w h_55 (by decide +kernel)) _ _ _ hP hD hS (lv_sub hl [0, 3] rfl))
        · exact RG_dead (RG_eq1 h_55 (RG_k (-1) (-1) rfl) c_64 (a' := 0) (b' := (-1)) (by decide +kernel)) (by decide +kernel)
  have J20c : ∀ (j20c_l3 : Int32) (j20c_s0 : Int32) (j20c_h1_f2 : Int32) (g_h0_f1 : RG h0_f1 0 240) (g_h1_f1 : RG h1_f1 1 240) (g_h1_f2 : RG h1_f2 0 240) (g_h1_f3 : RG h1_f3 (-1) 240) (g_j20c_h1_f2 : RG j20c_h1_f2 0 239) (g_j20c_l3 : RG j20c_l3 0 255) (g_j20c_s0 : RG j20c_s0 0 5) (H : Heap) (locs : List Loc) (ls : Array Slot) (hP : va_P (dC, dI) vwCl (wd_c_X4_readAtom_4 h1 h1_0 h1_f1 j20c_h1_f2 h1_f3 h1_0 h1_0k h1_0c h0 h0_0 h0_f1 h0_2 h0_0 h0_0k h0_0c) H) (hD : va_D A (wd_c_X4_readAtom_4 h1 h1_0 h1_f1 j20c_h1_f2 h1_f3 h1_0 h1_0k h1_0c h0 h0_0 h0_f1 h0_2 h0_0 h0_0k h0_0c)) (hS : va_S A s.heap H locs) (hl : lv_has ls 6 [(3, .int j20c_l3), (0, .ref h0), (1, .ref h1), (2, .int 4)]), G H locs (F0 m 20 ls [.int j20c_s0]) := by
    as_aux_lemma =>
    intro j20c_l3 j20c_s0 j20c_h1_f2 g_h0_f1 g_h1_f1 g_h1_f2 g_h1_f3 g_j20c_h1_f2 g_j20c_l3 g_j20c_s0 H locs ls hP hD hS hl
    refine hG _ _ _ ?_
    refine lv_istore (lv' := [(4, .int j20c_s0), (3, .int j20c_l3), (0, .ref h0), (1, .ref h1), (2, .int 4)]) hx hb dX4_readAtom_20 hl (Nat.le_of_ble_eq_true rfl) rfl (fun ls hl => ?_)
    refine lv_iload hx hb dX4_readAtom_22 (lv_at hl 0 rfl) ?_
    refine lv_if_lt (tgt := 42) hx hb dX4_readAtom_24 rfl (fun c_65 => ?_) (fun c_65 => ?_)
    · have g_66 : RG j20c_s0 0 (-1) := RG_lt1 g_j20c_s0 (RG_k 0 0 rfl) c_65 (by decide +kernel)
      exact RG_dead (RG_lt1 g_j20c_s0 (RG_k 0 0 rfl) c_65 (b' := (-1)) (by decide +kernel)) (by decide +kernel)
    · have d_67 := Int32.not_lt.mp c_65
      refine lv_aload_n hx hb dX4_readAtom_27 rfl (lv_at hl 3 rfl) ?_
      obtain ⟨hPc, hDc, hFc, hqc⟩ := cl_cut (wc := (wd_c_X9_skip h1 h1_0 h1_f1 j20c_h1_f2 h1_f3)) hP hD hS hA [0] (by decide +kernel) rfl
      have hKc := hK.sub (tys' := []) [] rfl
      have hrv := va_recv hKc hPc (ci := 9) (q0 := 0) rfl rfl
      refine va_callv (va_runV (As := []) (rest := []) ⟨hx, hb, hml, hown, hts⟩ (c_X9_skip l dC dI H.size h1 h1_0 h1_f1 j20c_h1_f2 h1_f3 (RG_w g_h1_f1 (by decide +kernel)) g_j20c_h1_f2 g_h1_f3) (cwV 0 hts gf_c_X4_readAtom_4_c_X9_skip rfl rfl rfl mdV_X9_skip ⟨Nat.le_of_ble_eq_true rfl, Nat.le_of_ble_eq_true rfl⟩) ⟨fun a U g mk q => by obtain ⟨q0, q1, qP, qK, qD⟩ := q; exact ⟨q0, q1, qP, va_K.moved (u := U) (U := U.calling g mk a) (Vm.Alike.refl U.vm) qK, qD⟩, hrv, fun U hU hW => ⟨rfl, by rw [hU], by rw [hU]; exact hPc, va_K.moved hW.alike hKc, hDc.weaken (fun _ _ _ _ => trivial)⟩⟩ rfl rfl hl.1 rfl (lv_room (Nat.le_of_ble_eq_true rfl)) dX4_readAtom_28 ⟨Nat.le_of_ble_eq_true rfl, Nat.le_of_ble_eq_true rfl⟩) hS (fun q _ h => hFc q h) hFc (fun x_69 t H1 locs ht hvm hw hB hz1 hk1 hS => ?_)
      obtain ⟨hP1, hK1, hD1⟩ := hB
      rw [ht] at hP1
      obtain ⟨hP, hD⟩ := cl_put (w1 := (wd_c_X9_skip h1 h1_0 h1_f1 x_69 h1_f3)) (nw := (wd_c_X4_readAtom_4 h1 h1_0 h1_f1 x_69 h1_f3 h1_0 h1_0k h1_0c h0 h0_0 h0_f1 h0_2 h0_0 h0_0k h0_0c)) hP hD [0] [4, 1, 2, 3] 4 rfl hqc (by decide +kernel) rfl hk1 hFc hP1 hD1
      generalize H1 = H at hP hS ⊢
      as_aux_lemma =>
      rcases hw with ⟨h_70, h_71, h_72⟩
      refine lv_aload_n hx hb dX4_readAtom_31 rfl (lv_at hl 2 rfl) ?_
      refine lv_iconst (v := (-1)) hx hb dX4_readAtom_32 kc_iconst_m1 ?_
      refine lv_iload hx hb dX4_readAtom_33 (lv_at hl 0 rfl) ?_
      refine lv_isub hx hb dX4_readAtom_35 ?_
      refine lv_topi (fun x_73 ex_73 => ?_)
      have g_74 : RG x_73 (-6) (-1) := RG_sub ex_73 (RG_k (-1) (-1) rfl) g_j20c_s0 (by decide +kernel)
      obtain ⟨hPc, hDc, hFc, hqc⟩ := cl_cut (wc := (wd_c_X4_emit h0 h0_0 h0_f1 h0_2 h0_0 h0_0k h0_0c)) hP hD hS hA [2, 3] (by decide +kernel) rfl
      have hKc := hK.sub (tys' := [(h0_0k, .int)]) [1] rfl
      have hrv := va_recv hKc hPc (ci := 4) (q0 := 0) rfl rfl
      refine va_callv (va_runV (As := [.int x_73]) (rest := []) ⟨hx, hb, hml, hown, hts⟩ (c_X4_emit l dC dI H.size h0 x_73 h0_0 h0_f1 h0_2 h0_0k h0_0c g_h0_f1) (cwV 1 hts gf_c_X4_readAtom_4_c_X4_emit rfl rfl rfl mdV_X4_emit ⟨Nat.le_of_ble_eq_true rfl, Nat.le_of_ble_eq_true rfl⟩) ⟨fun a U g mk q => by obtain ⟨q0, q1, qP, qK, qD⟩ := q; exact ⟨q0, q1, qP, va_K.moved (u := U) (U := U.calling g mk a) (Vm.Alike.refl U.vm) qK, qD⟩, hrv, fun U hU hW => ⟨rfl, by rw [hU], by rw [hU]; exact hPc, va_K.moved hW.alike hKc, hDc.weaken (fun _ _ _ _ => trivial)⟩⟩ rfl rfl hl.1 rfl (lv_room (Nat.le_of_ble_eq_true rfl)) dX4_readAtom_36 ⟨Nat.le_of_ble_eq_true rfl, Nat.le_of_ble_eq_true rfl⟩) hS (fun q _ h => hFc q h) hFc (fun u t H1 locs ht hvm hw hB hz1 hk1 hS => ?_)
      obtain ⟨x_76, w_77⟩ := u
      obtain ⟨hP1, hK1, hD1⟩ := hB
      rw [ht] at hP1
      obtain ⟨hP, hD⟩ := cl_put (w1 := (wd_c_X4_emit h0 h0_0 x_76 h0_2 h0_0 h0_0k w_77)) (nw := (wd_c_X4_readAtom_4 h1 h1_0 h1_f1 x_69 h1_f3 h1_0 h1_0k h1_0c h0 h0_0 x_76 h0_2 h0_0 h0_0k w_77)) hP hD [2, 3] [0, 1, 4, 5] 4 rfl hqc (by decide +kernel) rfl hk1 hFc hP1 hD1
      generalize H1 = H at hP hS ⊢
      as_aux_lemma =>
      have h_78 := hw
      refine lv_goto (tgt := 105) hx hb dX4_readAtom_39 rfl ?_
      have hK9 := hK.sub (tys' := []) [] rfl
      exact W.vret hx hb hr (fun t ht hW => ⟨⟨(x_69, h1_f3, x_76, w_77), rfl, ⟨(RG_w h_70 (by decide +kernel)), g_h1_f3, (RG_w h_78 (by decide +kernel))⟩, by rw [ht]; exact hP, va_K.moved hW.alike hK9, hD⟩, hS.F ht⟩) hS.2.2 dX4_readAtom_105
  refine hG _ _ _ ?_
  refine lv_aload_n hx hb dX4_readAtom_0 rfl (lv_at hl 1 rfl) ?_
  obtain ⟨hPc, hDc, hFc, hqc⟩ := cl_cut (wc := (wd_c_X9_peek h1 h1_0 h1_f1 h1_f2 h1_f3 h1_0 h1_0k h1_0c)) hP hD hS hA [0, 1] (by decide +kernel) rfl
  have hKc := hK.sub (tys' := [(h1_0k, .int)]) [0] rfl
  have hrv := va_recv hKc hPc (ci := 9) (q0 := 0) rfl rfl
  refine va_calli (va_runV (As := []) (rest := []) ⟨hx, hb, hml, hown, hts⟩ (c_X9_peek l dC dI H.size h1 h1_0 h1_f1 h1_f2 h1_f3 h1_0k h1_0c g_h1_f1 g_h1_f2 g_h1_f3 a_h1_0c) (cwV 0 hts gf_c_X4_readAtom_4_c_X9_peek rfl rfl rfl mdV_X9_peek ⟨Nat.le_of_ble_eq_true rfl, Nat.le_of_ble_eq_true rfl⟩) ⟨fun a U g mk q => by obtain ⟨q0, q1, qP, qK, qD⟩ := q; exact ⟨q0, q1, qP, va_K.moved (u := U) (U := U.calling g mk a) (Vm.Alike.refl U.vm) qK, qD⟩, hrv, fun U hU hW => ⟨rfl, by rw [hU], by rw [hU]; exact hPc, va_K.moved hW.alike hKc, hDc.weaken (fun _ _ _ _ => trivial)⟩⟩ rfl rfl hl.1 rfl (lv_room (Nat.le_of_ble_eq_true rfl)) dX4_readAtom_1 ⟨Nat.le_of_ble_eq_true rfl, Nat.le_of_ble_eq_true rfl⟩) hS (fun q _ h => hFc q h) hFc (fun r_79 x_80 t H1 locs ht hvm hw hB hz1 hk1 hS => ?_)
  obtain ⟨hP1, hK1, hD1⟩ := hB
  rw [ht] at hP1
  obtain ⟨hP, hD⟩ := cl_put (w1 := (wd_c_X9_peek h1 h1_0 h1_f1 x_80 h1_f3 h1_0 h1_0k h1_0c)) (nw := (wd_c_X4_readAtom_4 h1 h1_0 h1_f1 x_80 h1_f3 h1_0 h1_0k h1_0c h0 h0_0 h0_f1 h0_2 h0_0 h0_0k h0_0c)) hP hD [0, 1] [4, 5, 2, 3] 4 rfl hqc (by decide +kernel) rfl hk1 hFc hP1 hD1
  generalize H1 = H at hP hS ⊢
  as_aux_lemma =>
  rcases hw with ⟨h_81, h_82, h_83⟩ | ⟨h_84, h_85, h_86, h_87⟩
  · rw [h_81]
    refine lv_istore_n (lv' := [(3, .int (-1)), (0, .ref h0), (1, .ref h1), (2, .int 4)]) hx hb dX4_readAtom_4 rfl hl (Nat.le_of_ble_eq_true rfl) rfl (fun ls hl => ?_)
    refine lv_iload_n hx hb dX4_readAtom_5 rfl (lv_at hl 0 rfl) ?_
    refine lv_if_ge (tgt := 13) hx hb dX4_readAtom_6 rfl (fun c_88 => absurd c_88 (by decide +kernel)) (fun c_88 => ?_)
    refine lv_iconst (v := (-1)) hx hb dX4_readAtom_9 kc_iconst_m1 ?_
    refine lv_goto (tgt := 20) hx hb dX4_readAtom_10 rfl ?_
    exact hU _ _ _ (J20 x_80 g_h0_f1 g_h1_f1 g_h1_f2 g_h1_f3 h_82 _ _ _ hP hD hS (lv_sub hl [0, 1, 2, 3] rfl))
  · refine lv_istore_n (lv' := [(3, .int r_79), (0, .ref h0), (1, .ref h1), (2, .int 4)]) hx hb dX4_readAtom_4 rfl hl (Nat.le_of_ble_eq_true rfl) rfl (fun ls hl => ?_)
    refine lv_iload_n hx hb dX4_readAtom_5 rfl (lv_at hl 0 rfl) ?_
    refine lv_if_ge (tgt := 13) hx hb dX4_readAtom_6 rfl (fun c_89 => ?_) (fun c_89 => ?_)
    · refine va_ldcS hx hb hown hE_32 dX4_readAtom_13 ?_
      refine lv_iload_n hx hb dX4_readAtom_15 rfl (lv_at hl 0 rfl) ?_
      refine lv_i2c hx hb dX4_readAtom_16 rfl ?_
      as_aux_lemma =>
      refine lv_topi (fun x_90 ex_90 => ?_)
      have g_91 : RG x_90 0 65535 := RG_i2c ex_90
      obtain ⟨hPc, hDc, hFc, hqc⟩ := cl_cut (wc := []) hP hD hS hA [] (by decide +kernel) rfl
      have hKc := hK.sub (tys' := []) [] rfl
      have hrv := bv_Orecv hE_33 hS
      refine va_calli (va_runV (As := [.int x_90]) (rest := []) ⟨hx, hb, hml, hown, hts⟩ (c_J0_indexOf_0f7a4_4 l dC dI H.size ts4 x_90 tv4 g_91) (cwV 1 hts gf_c_X4_readAtom_4_c_J0_indexOf_0f7a4_4 rfl rfl rfl mdV_J0_indexOf_0f7a4 ⟨Nat.le_of_ble_eq_true rfl, Nat.le_of_ble_eq_true rfl⟩) ⟨fun a U g mk q => by obtain ⟨q0, q1, qP, qK, qD, qE0, qE1, qE2, qE3, qE4⟩ := q; exact ⟨q0, q1, qP, va_K.moved (u := U) (U := U.calling g mk a) (Vm.Alike.refl U.vm) qK, qD, va_Z.moved (u := U) (U := U.calling g mk a) (Vm.Alike.refl U.vm) qE0, va_OF.moved (u := U) (U := U.calling g mk a) (Vm.Alike.refl U.vm) qE1, va_O.moved (u := U) (U := U.calling g mk a) (Vm.Alike.refl U.vm) qE2, va_OF.moved (u := U) (U := U.calling g mk a) (Vm.Alike.refl U.vm) qE3, va_T.moved (u := U) (U := U.calling g mk a) (Vm.Alike.refl U.vm) qE4⟩, hrv, fun U hU hW => ⟨rfl, by rw [hU], by rw [hU]; exact hPc, va_K.moved hW.alike hKc, hDc.weaken (fun _ _ _ _ => trivial), va_Z.moved hW.alike (by rw [hU]; exact (hE_10.kept hS.2.1).narrow hFc), va_OF.moved hW.alike (by rw [hU]; exact (hE_34.kept hS.2.1).narrow hFc), va_O.moved hW.alike (by rw [hU]; exact (hE_33.kept hS.2.1).narrow hFc), va_OF.moved hW.alike (by rw [hU]; exact (hE_35.kept hS.2.1).narrow hFc), va_T.moved hW.alike (by rw [hU]; exact (hE_36.kept hS.2.1).narrow hFc)⟩⟩ rfl rfl hl.1 rfl (lv_room (Nat.le_of_ble_eq_true rfl)) dX4_readAtom_17 ⟨Nat.le_of_ble_eq_true rfl, Nat.le_of_ble_eq_true rfl⟩) hS (fun q _ h => hFc q h) hFc (fun r_92 u t H1 locs ht hvm hw hB hz1 hk1 hS => ?_)
      obtain ⟨hP1, hK1, hD1⟩ := hB
      rw [ht] at hP1
      have hP := bv_still hP hk1
      generalize H1 = H at hP hS ⊢
      as_aux_lemma =>
      rcases hw with h_93 | ⟨h_94, h_95⟩
      · rw [h_93]
        exact hU _ _ _ (J20b r_79 x_80 g_h0_f1 h_86 g_h1_f2 g_h1_f3 h_85 h_84 _ _ _ hP hD hS (lv_sub hl [0, 1, 2, 3] rfl))
      · exact hU _ _ _ (J20c r_79 r_92 x_80 g_h0_f1 h_86 g_h1_f2 g_h1_f3 h_85 h_84 h_94 _ _ _ hP hD hS (lv_sub hl [0, 1, 2, 3] rfl))
    · have d_96 := Int32.not_le.mp c_89
      have g_97 : RG r_79 0 (-1) := RG_lt1 h_84 (RG_k 0 0 rfl) d_96 (by decide +kernel)
      exact RG_dead (RG_lt1 h_84 (RG_k 0 0 rfl) d_96 (b' := (-1)) (by decide +kernel)) (by decide +kernel)
noncomputable def wd_c_X4_readSum_4 (a0 : Nat) (a1 : Nat) (a2 : Int32) (a3 : Int32) (a4 : Int32) (a5 : Nat) (a6 : ClassId) (a7 : Nat → Int32) (a8 : Nat) (a9 : Nat) (a10 : Int32) (a11 : Nat) (a12 : Nat) (a13 : ClassId) (a14 : Nat → Int32) : va_W := [(a0, .inr (9, [.ref a1, .int a2, .int a3, .int a4])), (a5, .inl (a6, 240, .inl a7)), (a8, .inr (4, [.ref a9, .int a10, .ref a11])), (a12, .inl (a13, 240, .inl a14))]
noncomputable def wf_c_X4_readSum_4 : List Cond := List.cons (.code yX4_readSum cX4_readSum 6 none) (@HAppend.hAppend (List Cond) (List Cond) (List Cond) _ (@HAppend.hAppend (List Cond) (List Cond) (List Cond) _ [.methodLink RX4 72 yX9_isRight, .instanceMethod yX9_isRight, .selects RX9 yX9_isRight yX9_isRight, .initialized RX9, .code yX9_isRight cX9_isRight 1 (some .boolean), .fieldLink RX9 15 "BuoyVote$Tape" "wrong" "I", .methodLink RX4 85 yX4_readAtom, .instanceMethod yX4_readAtom, .selects RX4 yX4_readAtom yX4_readAtom, .initialized RX4, .code yX4_readAtom cX4_readAtom 6 none, .methodLink RX4 41 yX9_peek, .instanceMethod yX9_peek, .selects RX9 yX9_peek yX9_peek, .code yX9_peek cX9_peek 1 (some .int), .fieldLink RX9 22 "BuoyVote$Tape" "at" "I", .fieldLink RX9 19 "BuoyVote$Tape" "length" "I", .fieldLink RX9 11 "BuoyVote$Tape" "bytes" "[I", .methodLink RX4 93 yJ0_indexOf_0f7a4, .instanceMethod yJ0_indexOf_0f7a4, .selects RJ0 yJ0_indexOf_0f7a4 yJ0_indexOf_0f7a4, .initialized RJ0, .code yJ0_indexOf_0f7a4 cJ0_indexOf_0f7a4 2 (some .int), .methodLink RJ0 633 yJ0_indexOf_7cf53, .instanceMethod yJ0_indexOf_7cf53, .selects RJ0 yJ0_indexOf_7cf53 yJ0_indexOf_7cf53, .code yJ0_indexOf_7cf53 cJ0_indexOf_7cf53 3 (some .int), .methodLink RJ0 492 yJ0_isLatin1_aae02, .instanceMethod yJ0_isLatin1_aae02, .selects RJ0 yJ0_isLatin1_aae02 yJ0_isLatin1_aae02, .code yJ0_isLatin1_aae02 cJ0_isLatin1_aae02 1 (some .boolean), .fieldLink RJ0 38 "java/lang/String" "COMPACT_STRINGS" "Z", .fieldLink RJ0 15 "java/lang/String" "coder" "B", .fieldLink RJ0 9 "java/lang/String" "value" "[B", .methodLink RJ0 505 yJ0_length_8abf5, .instanceMethod yJ0_length_8abf5, .selects RJ0 yJ0_length_8abf5 yJ0_length_8abf5, .code yJ0_length_8abf5 cJ0_length_8abf5 1 (some .int), .methodLink RJ0 335 yJ0_coder_7d493, .instanceMethod yJ0_coder_7d493, .selects RJ0 yJ0_coder_7d493 yJ0_coder_7d493, .code yJ0_coder_7d493 cJ0_coder_7d493 1 (some .byte), .methodLink RJ0 637 yJ1_indexOf_4cfef, .static yJ1_indexOf_4cfef, .initialized RJ1, .code yJ1_indexOf_4cfef cJ1_indexOf_4cfef 4 (some .int), .methodLink RJ1 88 yJ1_canEncode_9a6ad, .static yJ1_canEncode_9a6ad, .code yJ1_canEncode_9a6ad cJ1_canEncode_9a6ad 1 (some .boolean), .methodLink RJ1 92 Lib.Math.max.name, .static Lib.Math.max.name, .initialized "java/lang/Math", .code Lib.Math.max.name Lib.Math.max.code 2 (some .int), .methodLink RJ1 38 Lib.Math.min.name, .static Lib.Math.min.name, .code Lib.Math.min.name Lib.Math.min.code 2 (some .int), .methodLink RJ1 95 yJ1_indexOfChar_4cfef, .static yJ1_indexOfChar_4cfef, .code yJ1_indexOfChar_4cfef cJ1_indexOfChar_4cfef 6 (some .int), .methodLink RX4 99 yX9_number, .instanceMethod yX9_number, .selects RX9 yX9_number yX9_number, .code yX9_number cX9_number 4 (some .int), .methodLink RX4 82 yX9_refuseHere, .instanceMethod yX9_refuseHere, .selects RX9 yX9_refuseHere yX9_refuseHere, .code yX9_refuseHere cX9_refuseHere 1 none, .methodLink RX9 25 yX9_refuse, .instanceMethod yX9_refuse, .selects RX9 yX9_refuse yX9_refuse, .code yX9_refuse cX9_refuse 2 none, .methodLink RX4 79 yX9_skip, .instanceMethod yX9_skip, .selects RX9 yX9_skip yX9_skip, .code yX9_skip cX9_skip 1 none, .methodLink RX4 49 yX4_readSum, .instanceMethod yX4_readSum, .selects RX4 yX4_readSum yX4_readSum, .methodLink RX4 60 yX4_emit, .instanceMethod yX4_emit, .selects RX4 yX4_emit yX4_emit, .code yX4_emit cX4_emit 2 none, .fieldLink RX4 20 "BuoyVote$Law" "length" "I", .fieldLink RX4 11 "BuoyVote$Law" "code" "[I", .methodLink RX4 88 yX9_takeEither, .instanceMethod yX9_takeEither, .selects RX9 yX9_takeEither yX9_takeEither, .code yX9_takeEither cX9_takeEither 4 (some .int), .methodLink RX9 29 yX9_peek, .methodLink RX4 37 yX9_expect, .instanceMethod yX9_expect, .selects RX9 yX9_expect yX9_expect, .code yX9_expect cX9_expect 2 none] wsX90) wsX40)
theorem iw_c_X4_readSum_4_X9 : ∀ w ∈ wsX90, w ∈ wf_c_X4_readSum_4 := fun w h => List.mem_cons_of_mem _ (List.mem_append_left _ (List.mem_append_right _ h))
theorem iw_c_X4_readSum_4_X4 : ∀ w ∈ wsX40, w ∈ wf_c_X4_readSum_4 := fun w h => List.mem_cons_of_mem _ (List.mem_append_right _ h)
set_option maxRecDepth 20000 in
theorem gf_c_X4_readSum_4_c_X9_takeEither : GoodIn wf_c_X4_readSum_4 (wsV RX4 88 RX9 yX9_takeEither wf_c_X9_takeEither) := goodIn_app (gi_l [85, 86, 87, 4] rfl rfl) (gi_cons (j := 88) rfl rfl (goodIn_app (gi_l [89, 13, 14, 4, 15, 16, 17, 18, 6] rfl rfl) (goodIn_sub iw_c_X4_readSum_4_X9 gw_X9)))
set_option maxRecDepth 20000 in
theorem gf_c_X4_readSum_4_c_X4_emit : GoodIn wf_c_X4_readSum_4 (wsV RX4 60 RX4 yX4_emit wf_c_X4_emit) := goodIn_app (gi_l [79, 80, 81, 10] rfl rfl) (gi_cons (j := 82) rfl rfl (goodIn_app (gi_l [83, 84] rfl rfl) (goodIn_sub iw_c_X4_readSum_4_X4 gw_X4)))
set_option maxRecDepth 20000 in
theorem gf_c_X4_readSum_4_c_X9_isRight : GoodIn wf_c_X4_readSum_4 (wsV RX4 72 RX9 yX9_isRight wf_c_X9_isRight) := goodIn_app (gi_l [1, 2, 3, 4] rfl rfl) (gi_cons (j := 5) rfl rfl (goodIn_app (gi_l [6] rfl rfl) (goodIn_sub iw_c_X4_readSum_4_X9 gw_X9)))
set_option maxRecDepth 20000 in
theorem gf_c_X4_readSum_4_c_X4_readAtom_4 : GoodIn wf_c_X4_readSum_4 (wsV RX4 85 RX4 yX4_readAtom wf_c_X4_readAtom_4) := goodIn_app (gi_l [7, 8, 9, 10] rfl rfl) (gi_cons (j := 11) rfl rfl (goodIn_app (goodIn_app (gi_l [12, 13, 14, 4, 15, 16, 17, 18, 19, 20, 21, 22, 23, 24, 25, 26, 27, 28, 29, 30, 31, 32, 33, 34, 35, 36, 37, 38, 39, 40, 41, 42, 43, 44, 45, 46, 47, 48, 49, 50, 51, 52, 53, 54, 55, 56, 57, 58, 59, 60, 61, 62, 63, 64, 65, 66, 67, 68, 69, 70, 71, 6, 72, 73, 74, 75, 76, 77, 78, 10, 0, 1, 2, 3, 5, 7, 8, 9, 79, 80, 81, 82, 83, 84, 85, 86, 87, 88, 89, 90, 91, 92, 93] rfl rfl) (goodIn_sub iw_c_X4_readSum_4_X9 gw_X9)) (goodIn_sub iw_c_X4_readSum_4_X4 gw_X4)))
set_option maxHeartbeats 4000000 in
set_option maxRecDepth 100000 in
theorem c_X4_readSum_4 (l : Launch) (dC : Nat → ClassId) (dI : Nat → Nat → Nat) (sz : Nat) (h0 : Nat) (h1 : Nat) (h1_0 : Nat) (h1_f1 : Int32) (h1_f2 : Int32) (h1_f3 : Int32) (h1_0k : ClassId) (h1_0c : Nat → Int32) (h0_0 : Nat) (h0_f1 : Int32) (h0_2 : Nat) (h0_0k : ClassId) (h0_0c : Nat → Int32) (ts4 : Nat) (tv4 : Nat) (g_h1_f1 : RG h1_f1 0 240) (g_h1_f2 : RG h1_f2 0 240) (g_h1_f3 : RG h1_f3 (-1) 240) (a_h1_0c : AI h1_0c 0 255) (g_h0_f1 : RG h0_f1 0 240) : Met l yX4_readSum wf_c_X4_readSum_4 ({ frames := 9, cells := 0, slots := 0, locals := 216 }) (va_Pc [.ref h0, .ref h1, .int 4] (fun U => U.heap.size = sz ∧ va_P (dC, dI) vwCl (wd_c_X4_readSum_4 h1 h1_0 h1_f1 h1_f2 h1_f3 h1_0 h1_0k h1_0c h0 h0_0 h0_f1 h0_2 h0_0 h0_0k h0_0c) U.heap ∧ va_K (dC, dI) vwCl [(h1_0k, .int), (h0_0k, .int)] U ∧ va_D (fun _ => True) (wd_c_X4_readSum_4 h1 h1_0 h1_f1 h1_f2 h1_f3 h1_0 h1_0k h1_0c h0 h0_0 h0_f1 h0_2 h0_0 h0_0k h0_0c) ∧ vk_R RX4 91 "vlrdph" ts4 U ∧ va_Z "java/lang/String" "COMPACT_STRINGS" "Z" (.int 1) (va_A (wd_c_X4_readSum_4 h1 h1_0 h1_f1 h1_f2 h1_f3 h1_0 h1_0k h1_0c h0 h0_0 h0_f1 h0_2 h0_0 h0_0k h0_0c) sz) U U.heap ∧ va_OF "java/lang/String" "coder" "B" (.int 0) ts4 (va_A (wd_c_X4_readSum_4 h1 h1_0 h1_f1 h1_f2 h1_f3 h1_0 h1_0k h1_0c h0 h0_0 h0_f1 h0_2 h0_0 h0_0k h0_0c) sz) U U.heap ∧ va_O "java/lang/String" ts4 (va_A (wd_c_X4_readSum_4 h1 h1_0 h1_f1 h1_f2 h1_f3 h1_0 h1_0k h1_0c h0 h0_0 h0_f1 h0_2 h0_0 h0_0k h0_0c) sz) U U.heap ∧ va_OF "java/lang/String" "value" "[B" (.ref tv4) ts4 (va_A (wd_c_X4_readSum_4 h1 h1_0 h1_f1 h1_f2 h1_f3 h1_0 h1_0k h1_0c h0 h0_0 h0_f1 h0_2 h0_0 h0_0k h0_0c) sz) U U.heap ∧ va_T .byte tv4 6 (fun j => .int ([118, 108, 114, 100, 112, 104].getD j 0)) (va_A (wd_c_X4_readSum_4 h1 h1_0 h1_f1 h1_f2 h1_f3 h1_0 h1_0k h1_0c h0 h0_0 h0_f1 h0_2 h0_0 h0_0k h0_0c) sz) U U.heap)) (va_Qv (fun (u : (Int32) × (Int32) × (Int32) × (Nat → Int32)) => (RG u.1 0 240 ∧ RG u.2.1 (-1) 240 ∧ RG u.2.2.1 0 240)) (fun (u : (Int32) × (Int32) × (Int32) × (Nat → Int32)) t => va_P (dC, dI) vwCl (wd_c_X4_readSum_4 h1 h1_0 h1_f1 (u.1) (u.2.1) h1_0 h1_0k h1_0c h0 h0_0 (u.2.2.1) h0_2 h0_0 h0_0k (u.2.2.2)) t.heap ∧ va_K (dC, dI) vwCl [] t ∧ va_D (va_A (wd_c_X4_readSum_4 h1 h1_0 h1_f1 h1_f2 h1_f3 h1_0 h1_0k h1_0c h0 h0_0 h0_f1 h0_2 h0_0 h0_0k h0_0c) sz) (wd_c_X4_readSum_4 h1 h1_0 h1_f1 (u.1) (u.2.1) h1_0 h1_0k h1_0c h0 h0_0 (u.2.2.1) h0_2 h0_0 h0_0k (u.2.2.2))) (va_A (wd_c_X4_readSum_4 h1 h1_0 h1_f1 h1_f2 h1_f3 h1_0 h1_0k h1_0c h0 h0_0 h0_f1 h0_2 h0_0 h0_0k h0_0c) sz)) 0 0 (va_A (wd_c_X4_readSum_4 h1 h1_0 h1_f1 h1_f2 h1_f3 h1_0 h1_0k h1_0c h0 h0_0 h0_f1 h0_2 h0_0 h0_0k h0_0c) sz) := by
  refine Met.ofW (cc := cX4_readSum) (maxL := 6) (ret := none) (by decide +kernel) rfl ?_
  intro p e s m args below meth c s₁ B hml hv
  obtain ⟨rfl, hsz, hP, hK, hD0, hE_32, hE_10, hE_34, hE_33, hE_35, hE_36⟩ := hv
  have hx := B.exec
  have hb := B.bytes
  have hr := B.returns
  have hts := atoms_spec (ws := wf_c_X4_readSum_4) B.pre
  have hown : s.vm.findClass RX4 = some m.cls := findClass_of_methodNamed B.named
  have hlocks := B.notSynchronized
  subst hsz
  have hD := hD0.self (sz := s.heap.size)
  generalize hAe : va_A (wd_c_X4_readSum_4 h1 h1_0 h1_f1 h1_f2 h1_f3 h1_0 h1_0k h1_0c h0 h0_0 h0_f1 h0_2 h0_0 h0_0k h0_0c) s.heap.size = A at hD hE_10 hE_34 hE_33 hE_35 hE_36 ⊢
  have hA : ∀ q : Nat, s.heap.size ≤ q → A q := fun q h => by rw [← hAe]; exact Or.inr h
  have hP : va_P (dC, dI) vwCl (wd_c_X4_readSum_4 h1 h1_0 h1_f1 h1_f2 h1_f3 h1_0 h1_0k h1_0c h0 h0_0 h0_f1 h0_2 h0_0 h0_0k h0_0c) s.heap := hP
  have hl := lv_entry ([.ref h0, .ref h1, .int 4]) (n := 6) (Nat.le_of_ble_eq_true rfl)
  rw [lg_entry_eq]
  generalize (lg_sl ([.ref h0, .ref h1, .int 4]) ++ List.replicate (6 - (lg_sl ([.ref h0, .ref h1, .int 4])).length) Slot.unset).toArray = ls at hl ⊢
  have hl : lv_has ls 6 [(0, .ref h0), (1, .ref h1), (2, .int 4)] := hl
  obtain ⟨H, hHe⟩ : ∃ H : Heap, s.heap = H := ⟨_, rfl⟩
  have hS : va_S A s.heap H [] := by rw [hHe]; exact va_S.rf
  have hP : va_P (dC, dI) vwCl (wd_c_X4_readSum_4 h1 h1_0 h1_f1 h1_f2 h1_f3 h1_0 h1_0k h1_0c h0 h0_0 h0_f1 h0_2 h0_0 h0_0k h0_0c) H := by rw [← hHe]; exact hP
  rw [hHe]
  refine wj (fun G hG hU => ?_)
  as_aux_lemma =>
  have J8 : ∀ (n8 : Nat) (j8_l5 : Int32) (j8_l4 : Int32) (j8_l3 : Int32) (j8_h1_f2 : Int32) (j8_h1_f3 : Int32) (j8_h0_f1 : Int32) (j8_h0_0c : Nat → Int32) (hM8 : MU j8_l5 < n8) (g_h0_f1 : RG h0_f1 0 240) (g_h1_f1 : RG h1_f1 0 240) (g_h1_f2 : RG h1_f2 0 240) (g_h1_f3 : RG h1_f3 (-1) 240) (g_j8_h0_f1 : RG j8_h0_f1 0 240) (g_j8_h1_f2 : RG j8_h1_f2 0 240) (g_j8_h1_f3 : RG j8_h1_f3 (-1) 240) (g_j8_l3 : RG j8_l3 0 60) (g_j8_l4 : RG j8_l4 0 60) (g_j8_l5 : RG j8_l5 0 240) (H : Heap) (locs : List Loc) (ls : Array Slot) (hP : va_P (dC, dI) vwCl (wd_c_X4_readSum_4 h1 h1_0 h1_f1 j8_h1_f2 j8_h1_f3 h1_0 h1_0k h1_0c h0 h0_0 j8_h0_f1 h0_2 h0_0 h0_0k j8_h0_0c) H) (hD : va_D A (wd_c_X4_readSum_4 h1 h1_0 h1_f1 j8_h1_f2 j8_h1_f3 h1_0 h1_0k h1_0c h0 h0_0 j8_h0_f1 h0_2 h0_0 h0_0k j8_h0_0c)) (hS : va_S A s.heap H locs) (hl : lv_has ls 6 [(5, .int j8_l5), (4, .int j8_l4), (3, .int j8_l3), (0, .ref h0), (1, .ref h1), (2, .int 4)]), G H locs (F0 m 8 ls []) := by
    as_aux_lemma =>
    intro n8
    induction n8 with
    | zero => intros; exact absurd (by assumption) (Nat.not_lt_zero _)
    | succ n8 ih8 =>
      intro j8_l5 j8_l4 j8_l3 j8_h1_f2 j8_h1_f3 j8_h0_f1 j8_h0_0c hM8 g_h0_f1 g_h1_f1 g_h1_f2 g_h1_f3 g_j8_h0_f1 g_j8_h1_f2 g_j8_h1_f3 g_j8_l3 g_j8_l4 g_j8_l5 H locs ls hP hD hS hl
      have J80 : ∀ (j80_l3 : Int32) (j80_l4 : Int32) (j80_h1_f2 : Int32) (j80_h1_f3 : Int32) (j80_h0_f1 : Int32) (j80_h0_0c : Nat → Int32) (g_h0_f1 : RG h0_f1 0 240) (g_h1_f1 : RG h1_f1 1 240) (g_h1_f2 : RG h1_f2 0 240) (g_h1_f3 : RG h1_f3 (-1) 240) (g_j80_h0_f1 : RG j80_h0_f1 0 240) (g_j80_h1_f2 : RG j80_h1_f2 1 240) (g_j80_h1_f3 : RG j80_h1_f3 (-1) (-1)) (g_j80_l3 : RG j80_l3 0 60) (g_j80_l4 : RG j80_l4 0 60) (g_j8_h0_f1 : RG j8_h0_f1 0 240) (g_j8_h1_f2 : RG j8_h1_f2 0 240) (g_j8_h1_f3 : RG j8_h1_f3 (-1) (-1)) (g_j8_l3 : RG j8_l3 0 60) (g_j8_l4 : RG j8_l4 0 60) (g_j8_l5 : RG j8_l5 0 239) (H : Heap) (locs : List Loc) (ls : Array Slot) (hP : va_P (dC, dI) vwCl (wd_c_X4_readSum_4 h1 h1_0 h1_f1 j80_h1_f2 j80_h1_f3 h1_0 h1_0k h1_0c h0 h0_0 j80_h0_f1 h0_2 h0_0 h0_0k j80_h0_0c) H) (hD : va_D A (wd_c_X4_readSum_4 h1 h1_0 h1_f1 j80_h1_f2 j80_h1_f3 h1_0 h1_0k h1_0c h0 h0_0 j80_h0_f1 h0_2 h0_0 h0_0k j80_h0_0c)) (hS : va_S A s.heap H locs) (hl : lv_has ls 6 [(3, .int j80_l3), (5, .int j8_l5), (4, .int j80_l4), (0, .ref h0), (1, .ref h1), (2, .int 4)]), G H locs (F0 m 80 ls []) := by
        as_aux_lemma =>
        intro j80_l3 j80_l4 j80_h1_f2 j80_h1_f3 j80_h0_f1 j80_h0_0c g_h0_f1 g_h1_f1 g_h1_f2 g_h1_f3 g_j80_h0_f1 g_j80_h1_f2 g_j80_h1_f3 g_j80_l3 g_j80_l4 g_j8_h0_f1 g_j8_h1_f2 g_j8_h1_f3 g_j8_l3 g_j8_l4 g_j8_l5 H locs ls hP hD hS hl
        refine hG _ _ _ ?_
        obtain ⟨x_1, ex_1⟩ : ∃ y : Int32, y = j8_l5 + 1 := ⟨_, rfl⟩
        have g_2 : RG x_1 1 240 := RG_add ex_1 g_j8_l5 (RG_k 1 1 rfl) (by decide +kernel)
        refine lv_iinc (v := x_1) (lv' := [(5, .int x_1), (3, .int j80_l3), (4, .int j80_l4), (0, .ref h0), (1, .ref h1), (2, .int 4)]) hx hb dX4_readSum_80 hl (k := 1) rfl (by rw [ex_1]; rfl) (Nat.le_of_ble_eq_true rfl) rfl (fun ls hl => ?_)
        refine lv_goto (tgt := 8) hx hb dX4_readSum_83 rfl ?_
        exact hU _ _ _ (ih8 x_1 j80_l4 j80_l3 j80_h1_f2 j80_h1_f3 j80_h0_f1 j80_h0_0c (mu_s (MU_add ex_1 g_j8_l5 (q := 1) rfl (by decide +kernel)) hM8) g_h0_f1 (RG_w g_h1_f1 (by decide +kernel)) g_h1_f2 g_h1_f3 g_j80_h0_f1 (RG_w g_j80_h1_f2 (by decide +kernel)) (RG_w g_j80_h1_f3 (by decide +kernel)) g_j80_l3 g_j80_l4 (RG_w g_2 (by decide +kernel)) _ _ _ hP hD hS (lv_sub hl [0, 2, 1, 3, 4, 5] rfl))
      have J64 : ∀ (j64_l3 : Int32) (j64_h1_f2 : Int32) (j64_h1_f3 : Int32) (j64_h0_f1 : Int32) (j64_h0_0c : Nat → Int32) (g_h0_f1 : RG h0_f1 0 240) (g_h1_f1 : RG h1_f1 0 240) (g_h1_f2 : RG h1_f2 0 240) (g_h1_f3 : RG h1_f3 (-1) 240) (g_j64_h0_f1 : RG j64_h0_f1 0 240) (g_j64_h1_f2 : RG j64_h1_f2 0 240) (g_j64_h1_f3 : RG j64_h1_f3 (-1) 240) (g_j64_l3 : RG j64_l3 0 0) (g_j8_h0_f1 : RG j8_h0_f1 0 240) (g_j8_h1_f2 : RG j8_h1_f2 0 240) (g_j8_h1_f3 : RG j8_h1_f3 (-1) (-1)) (g_j8_l3 : RG j8_l3 0 60) (g_j8_l4 : RG j8_l4 0 60) (g_j8_l5 : RG j8_l5 0 239) (H : Heap) (locs : List Loc) (ls : Array Slot) (hP : va_P (dC, dI) vwCl (wd_c_X4_readSum_4 h1 h1_0 h1_f1 j64_h1_f2 j64_h1_f3 h1_0 h1_0k h1_0c h0 h0_0 j64_h0_f1 h0_2 h0_0 h0_0k j64_h0_0c) H) (hD : va_D A (wd_c_X4_readSum_4 h1 h1_0 h1_f1 j64_h1_f2 j64_h1_f3 h1_0 h1_0k h1_0c h0 h0_0 j64_h0_f1 h0_2 h0_0 h0_0k j64_h0_0c)) (hS : va_S A s.heap H locs) (hl : lv_has ls 6 [(3, .int j64_l3), (5, .int j8_l5), (0, .ref h0), (1, .ref h1), (2, .int 4)]), G H locs (F0 m 64 ls []) := by
        as_aux_lemma =>
        intro j64_l3 j64_h1_f2 j64_h1_f3 j64_h0_f1 j64_h0_0c g_h0_f1 g_h1_f1 g_h1_f2 g_h1_f3 g_j64_h0_f1 g_j64_h1_f2 g_j64_h1_f3 g_j64_l3 g_j8_h0_f1 g_j8_h1_f2 g_j8_h1_f3 g_j8_l3 g_j8_l4 g_j8_l5 H locs ls hP hD hS hl
        refine hG _ _ _ ?_
        refine lv_aload_n hx hb dX4_readSum_64 rfl (lv_at hl 3 rfl) ?_
        refine lv_bipush (v := 43) hx hb dX4_readSum_65 kc_bipush_43 ?_
        refine lv_bipush (v := 45) hx hb dX4_readSum_67 kc_bipush_45 ?_
        obtain ⟨hPc, hDc, hFc, hqc⟩ := cl_cut (wc := (wd_c_X9_takeEither h1 h1_0 h1_f1 j64_h1_f2 j64_h1_f3 h1_0 h1_0k h1_0c)) hP hD hS hA [0, 1] (by decide +kernel) rfl
        have hKc := hK.sub (tys' := [(h1_0k, .int)]) [0] rfl
        have hrv := va_recv hKc hPc (ci := 9) (q0 := 0) rfl rfl
        refine va_calli (va_runV (As := [.int 43, .int 45]) (rest := []) ⟨hx, hb, hml, hown, hts⟩ (c_X9_takeEither l dC dI H.size h1 43 45 h1_0 h1_f1 j64_h1_f2 j64_h1_f3 h1_0k h1_0c (RG_w (RG_k 43 43 rfl) (by decide +kernel)) (RG_w (RG_k 45 45 rfl) (by decide +kernel)) g_h1_f1 g_j64_h1_f2 g_j64_h1_f3 a_h1_0c) (cwV 2 hts gf_c_X4_readSum_4_c_X9_takeEither rfl rfl rfl mdV_X9_takeEither ⟨Nat.le_of_ble_eq_true rfl, Nat.le_of_ble_eq_true rfl⟩) ⟨fun a U g mk q => by obtain ⟨q0, q1, qP, qK, qD⟩ := q; exact ⟨q0, q1, qP, va_K.moved (u := U) (U := U.calling g mk a) (Vm.Alike.refl U.vm) qK, qD⟩, hrv, fun U hU hW => ⟨rfl, by rw [hU], by rw [hU]; exact hPc, va_K.moved hW.alike hKc, hDc.weaken (fun _ _ _ _ => trivial)⟩⟩ rfl rfl hl.1 rfl (lv_room (Nat.le_of_ble_eq_true rfl)) dX4_readSum_69 ⟨Nat.le_of_ble_eq_true rfl, Nat.le_of_ble_eq_true rfl⟩) hS (fun q _ h => hFc q h) hFc (fun r_3 x_4 t H1 locs ht hvm hw hB hz1 hk1 hS => ?_)
        obtain ⟨hP1, hK1, hD1⟩ := hB
        rw [ht] at hP1
        obtain ⟨hP, hD⟩ := cl_put (w1 := (wd_c_X9_takeEither h1 h1_0 h1_f1 x_4 j64_h1_f3 h1_0 h1_0k h1_0c)) (nw := (wd_c_X4_readSum_4 h1 h1_0 h1_f1 x_4 j64_h1_f3 h1_0 h1_0k h1_0c h0 h0_0 j64_h0_f1 h0_2 h0_0 h0_0k j64_h0_0c)) hP hD [0, 1] [4, 5, 2, 3] 4 rfl hqc (by decide +kernel) rfl hk1 hFc hP1 hD1
        generalize H1 = H at hP hS ⊢
        as_aux_lemma =>
        rcases hw with ⟨h_5, h_6, h_7⟩ | ⟨h_8, h_9, h_10, h_11, h_12⟩
        · rw [h_5]
          refine lv_istore (lv' := [(4, .int 0), (3, .int j64_l3), (5, .int j8_l5), (0, .ref h0), (1, .ref h1), (2, .int 4)]) hx hb dX4_readSum_72 hl (Nat.le_of_ble_eq_true rfl) rfl (fun ls hl => ?_)
          refine lv_iload hx hb dX4_readSum_74 (lv_at hl 0 rfl) ?_
          refine lv_if_ne (tgt := 80) hx hb dX4_readSum_76 rfl (fun c_13 => absurd c_13 (by decide +kernel)) (fun c_13 => ?_)
          have hK9 := hK.sub (tys' := []) [] rfl
          exact W.vret hx hb hr (fun t ht hW => ⟨⟨(x_4, j64_h1_f3, j64_h0_f1, j64_h0_0c), rfl, ⟨h_6, g_j64_h1_f3, g_j64_h0_f1⟩, by rw [ht]; exact hP, va_K.moved hW.alike hK9, hD⟩, hS.F ht⟩) hS.2.2 dX4_readSum_79
        · refine lv_istore (lv' := [(4, .int r_3), (3, .int j64_l3), (5, .int j8_l5), (0, .ref h0), (1, .ref h1), (2, .int 4)]) hx hb dX4_readSum_72 hl (Nat.le_of_ble_eq_true rfl) rfl (fun ls hl => ?_)
          refine lv_iload hx hb dX4_readSum_74 (lv_at hl 0 rfl) ?_
          refine lv_if_ne (tgt := 80) hx hb dX4_readSum_76 rfl (fun c_14 => ?_) (fun c_14 => ?_)
          · have g_15 : RG r_3 1 60 := RG_ne1 h_8 (q := 0) rfl c_14 (by decide +kernel)
            exact hU _ _ _ (J80 j64_l3 r_3 x_4 j64_h1_f3 j64_h0_f1 j64_h0_0c g_h0_f1 h_10 g_h1_f2 g_h1_f3 g_j64_h0_f1 h_9 h_11 (RG_w g_j64_l3 (by decide +kernel)) (RG_w g_15 (by decide +kernel)) g_j8_h0_f1 g_j8_h1_f2 g_j8_h1_f3 g_j8_l3 g_j8_l4 g_j8_l5 _ _ _ hP hD hS (lv_sub hl [1, 2, 0, 3, 4, 5] rfl))
          · have g_16 : RG r_3 0 0 := RG_eq1 h_8 (RG_k 0 0 rfl) c_14 (by decide +kernel)
            have hK9 := hK.sub (tys' := []) [] rfl
            exact W.vret hx hb hr (fun t ht hW => ⟨⟨(x_4, j64_h1_f3, j64_h0_f1, j64_h0_0c), rfl, ⟨(RG_w h_9 (by decide +kernel)), (RG_w h_11 (by decide +kernel)), g_j64_h0_f1⟩, by rw [ht]; exact hP, va_K.moved hW.alike hK9, hD⟩, hS.F ht⟩) hS.2.2 dX4_readSum_79
      have J39 : ∀ (j39_h1_f2 : Int32) (j39_h1_f3 : Int32) (j39_h0_f1 : Int32) (j39_h0_0c : Nat → Int32) (g_h0_f1 : RG h0_f1 0 240) (g_h1_f1 : RG h1_f1 0 240) (g_h1_f2 : RG h1_f2 0 240) (g_h1_f3 : RG h1_f3 (-1) 240) (g_j39_h0_f1 : RG j39_h0_f1 0 240) (g_j39_h1_f2 : RG j39_h1_f2 0 240) (g_j39_h1_f3 : RG j39_h1_f3 (-1) 240) (g_j8_h0_f1 : RG j8_h0_f1 0 240) (g_j8_h1_f2 : RG j8_h1_f2 0 240) (g_j8_h1_f3 : RG j8_h1_f3 (-1) (-1)) (g_j8_l3 : RG j8_l3 0 60) (g_j8_l4 : RG j8_l4 0 60) (g_j8_l5 : RG j8_l5 0 239) (H : Heap) (locs : List Loc) (ls : Array Slot) (hP : va_P (dC, dI) vwCl (wd_c_X4_readSum_4 h1 h1_0 h1_f1 j39_h1_f2 j39_h1_f3 h1_0 h1_0k h1_0c h0 h0_0 j39_h0_f1 h0_2 h0_0 h0_0k j39_h0_0c) H) (hD : va_D A (wd_c_X4_readSum_4 h1 h1_0 h1_f1 j39_h1_f2 j39_h1_f3 h1_0 h1_0k h1_0c h0 h0_0 j39_h0_f1 h0_2 h0_0 h0_0k j39_h0_0c)) (hS : va_S A s.heap H locs) (hl : lv_has ls 6 [(5, .int j8_l5), (4, .int j8_l4), (0, .ref h0), (1, .ref h1), (2, .int 4)]), G H locs (F0 m 39 ls []) := by
        as_aux_lemma =>
        intro j39_h1_f2 j39_h1_f3 j39_h0_f1 j39_h0_0c g_h0_f1 g_h1_f1 g_h1_f2 g_h1_f3 g_j39_h0_f1 g_j39_h1_f2 g_j39_h1_f3 g_j8_h0_f1 g_j8_h1_f2 g_j8_h1_f3 g_j8_l3 g_j8_l4 g_j8_l5 H locs ls hP hD hS hl
        refine hG _ _ _ ?_
        refine lv_aload_n hx hb dX4_readSum_39 rfl (lv_at hl 3 rfl) ?_
        refine lv_bipush (v := 42) hx hb dX4_readSum_40 kc_bipush_42 ?_
        refine lv_bipush (v := 47) hx hb dX4_readSum_42 kc_bipush_47 ?_
        obtain ⟨hPc, hDc, hFc, hqc⟩ := cl_cut (wc := (wd_c_X9_takeEither h1 h1_0 h1_f1 j39_h1_f2 j39_h1_f3 h1_0 h1_0k h1_0c)) hP hD hS hA [0, 1] (by decide +kernel) rfl
        have hKc := hK.sub (tys' := [(h1_0k, .int)]) [0] rfl
        have hrv := va_recv hKc hPc (ci := 9) (q0 := 0) rfl rfl
        refine va_calli (va_runV (As := [.int 42, .int 47]) (rest := []) ⟨hx, hb, hml, hown, hts⟩ (c_X9_takeEither l dC dI H.size h1 42 47 h1_0 h1_f1 j39_h1_f2 j39_h1_f3 h1_0k h1_0c (RG_w (RG_k 42 42 rfl) (by decide +kernel)) (RG_w (RG_k 47 47 rfl) (by decide +kernel)) g_h1_f1 g_j39_h1_f2 g_j39_h1_f3 a_h1_0c) (cwV 2 hts gf_c_X4_readSum_4_c_X9_takeEither rfl rfl rfl mdV_X9_takeEither ⟨Nat.le_of_ble_eq_true rfl, Nat.le_of_ble_eq_true rfl⟩) ⟨fun a U g mk q => by obtain ⟨q0, q1, qP, qK, qD⟩ := q; exact ⟨q0, q1, qP, va_K.moved (u := U) (U := U.calling g mk a) (Vm.Alike.refl U.vm) qK, qD⟩, hrv, fun U hU hW => ⟨rfl, by rw [hU], by rw [hU]; exact hPc, va_K.moved hW.alike hKc, hDc.weaken (fun _ _ _ _ => trivial)⟩⟩ rfl rfl hl.1 rfl (lv_room (Nat.le_of_ble_eq_true rfl)) dX4_readSum_44 ⟨Nat.le_of_ble_eq_true rfl, Nat.le_of_ble_eq_true rfl⟩) hS (fun q _ h => hFc q h) hFc (fun r_17 x_18 t H1 locs ht hvm hw hB hz1 hk1 hS => ?_)
        obtain ⟨hP1, hK1, hD1⟩ := hB
        rw [ht] at hP1
        obtain ⟨hP, hD⟩ := cl_put (w1 := (wd_c_X9_takeEither h1 h1_0 h1_f1 x_18 j39_h1_f3 h1_0 h1_0k h1_0c)) (nw := (wd_c_X4_readSum_4 h1 h1_0 h1_f1 x_18 j39_h1_f3 h1_0 h1_0k h1_0c h0 h0_0 j39_h0_f1 h0_2 h0_0 h0_0k j39_h0_0c)) hP hD [0, 1] [4, 5, 2, 3] 4 rfl hqc (by decide +kernel) rfl hk1 hFc hP1 hD1
        generalize H1 = H at hP hS ⊢
        as_aux_lemma =>
        rcases hw with ⟨h_19, h_20, h_21⟩ | ⟨h_22, h_23, h_24, h_25, h_26⟩
        · rw [h_19]
          refine lv_istore_n (lv' := [(3, .int 0), (5, .int j8_l5), (4, .int j8_l4), (0, .ref h0), (1, .ref h1), (2, .int 4)]) hx hb dX4_readSum_47 rfl hl (Nat.le_of_ble_eq_true rfl) rfl (fun ls hl => ?_)
          refine lv_iload_n hx hb dX4_readSum_48 rfl (lv_at hl 0 rfl) ?_
          refine lv_if_ne (tgt := 80) hx hb dX4_readSum_49 rfl (fun c_27 => absurd c_27 (by decide +kernel)) (fun c_27 => ?_)
          refine lv_iload hx hb dX4_readSum_52 (lv_at hl 2 rfl) ?_
          refine lv_if_eq (tgt := 64) hx hb dX4_readSum_54 rfl (fun c_28 => ?_) (fun c_28 => ?_)
          · have g_29 : RG j8_l4 0 0 := RG_eq1 g_j8_l4 (RG_k 0 0 rfl) c_28 (by decide +kernel)
            exact hU _ _ _ (J64 0 x_18 j39_h1_f3 j39_h0_f1 j39_h0_0c g_h0_f1 g_h1_f1 g_h1_f2 g_h1_f3 g_j39_h0_f1 h_20 g_j39_h1_f3 (RG_k 0 0 rfl) g_j8_h0_f1 g_j8_h1_f2 g_j8_h1_f3 g_j8_l3 (RG_w g_29 (by decide +kernel)) g_j8_l5 _ _ _ hP hD hS (lv_sub hl [0, 1, 3, 4, 5] rfl))
          · have g_30 : RG j8_l4 1 60 := RG_ne1 g_j8_l4 (q := 0) rfl c_28 (by decide +kernel)
            refine lv_aload_n hx hb dX4_readSum_57 rfl (lv_at hl 3 rfl) ?_
            refine lv_iload hx hb dX4_readSum_58 (lv_at hl 2 rfl) ?_
            refine lv_ineg hx hb dX4_readSum_60 ?_
            refine lv_topi (fun x_31 ex_31 => ?_)
            as_aux_lemma =>
            have g_32 : RG x_31 (-60) (-1) := RG_neg ex_31 g_30 (by decide +kernel)
            obtain ⟨hPc, hDc, hFc, hqc⟩ := cl_cut (wc := (wd_c_X4_emit h0 h0_0 j39_h0_f1 h0_2 h0_0 h0_0k j39_h0_0c)) hP hD hS hA [2, 3] (by decide +kernel) rfl
            have hKc := hK.sub (tys' := [(h0_0k, .int)]) [1] rfl
            have hrv := va_recv hKc hPc (ci := 4) (q0 := 0) rfl rfl
            refine va_callv (va_runV (As := [.int x_31]) (rest := []) ⟨hx, hb, hml, hown, hts⟩ (c_X4_emit l dC dI H.size h0 x_31 h0_0 j39_h0_f1 h0_2 h0_0k j39_h0_0c g_j39_h0_f1) (cwV 1 hts gf_c_X4_readSum_4_c_X4_emit rfl rfl rfl mdV_X4_emit ⟨Nat.le_of_ble_eq_true rfl, Nat.le_of_ble_eq_true rfl⟩) ⟨fun a U g mk q => by obtain ⟨q0, q1, qP, qK, qD⟩ := q; exact ⟨q0, q1, qP, va_K.moved (u := U) (U := U.calling g mk a) (Vm.Alike.refl U.vm) qK, qD⟩, hrv, fun U hU hW => ⟨rfl, by rw [hU], by rw [hU]; exact hPc, va_K.moved hW.alike hKc, hDc.weaken (fun _ _ _ _ => trivial)⟩⟩ rfl rfl hl.1 rfl (lv_room (Nat.le_of_ble_eq_true rfl)) dX4_readSum_61 ⟨Nat.le_of_ble_eq_true rfl, Nat.le_of_ble_eq_true rfl⟩) hS (fun q _ h => hFc q h) hFc (fun u t H1 locs ht hvm hw hB hz1 hk1 hS => ?_)
            obtain ⟨x_34, w_35⟩ := u
            obtain ⟨hP1, hK1, hD1⟩ := hB
            rw [ht] at hP1
            obtain ⟨hP, hD⟩ := cl_put (w1 := (wd_c_X4_emit h0 h0_0 x_34 h0_2 h0_0 h0_0k w_35)) (nw := (wd_c_X4_readSum_4 h1 h1_0 h1_f1 x_18 j39_h1_f3 h1_0 h1_0k h1_0c h0 h0_0 x_34 h0_2 h0_0 h0_0k w_35)) hP hD [2, 3] [0, 1, 4, 5] 4 rfl hqc (by decide +kernel) rfl hk1 hFc hP1 hD1
            generalize H1 = H at hP hS ⊢
            as_aux_lemma =>
            have h_36 := hw
            exact hU _ _ _ (J64 0 x_18 j39_h1_f3 x_34 w_35 g_h0_f1 g_h1_f1 g_h1_f2 g_h1_f3 (RG_w h_36 (by decide +kernel)) h_20 g_j39_h1_f3 (RG_k 0 0 rfl) g_j8_h0_f1 g_j8_h1_f2 g_j8_h1_f3 g_j8_l3 (RG_w g_30 (by decide +kernel)) g_j8_l5 _ _ _ hP hD hS (lv_sub hl [0, 1, 3, 4, 5] rfl))
        · refine lv_istore_n (lv' := [(3, .int r_17), (5, .int j8_l5), (4, .int j8_l4), (0, .ref h0), (1, .ref h1), (2, .int 4)]) hx hb dX4_readSum_47 rfl hl (Nat.le_of_ble_eq_true rfl) rfl (fun ls hl => ?_)
          refine lv_iload_n hx hb dX4_readSum_48 rfl (lv_at hl 0 rfl) ?_
          refine lv_if_ne (tgt := 80) hx hb dX4_readSum_49 rfl (fun c_37 => ?_) (fun c_37 => ?_)
          · have g_38 : RG r_17 1 60 := RG_ne1 h_22 (q := 0) rfl c_37 (by decide +kernel)
            exact hU _ _ _ (J80 r_17 j8_l4 x_18 j39_h1_f3 j39_h0_f1 j39_h0_0c g_h0_f1 h_24 g_h1_f2 g_h1_f3 g_j39_h0_f1 h_23 h_25 (RG_w g_38 (by decide +kernel)) g_j8_l4 g_j8_h0_f1 g_j8_h1_f2 g_j8_h1_f3 g_j8_l3 g_j8_l4 g_j8_l5 _ _ _ hP hD hS (lv_sub hl [0, 1, 2, 3, 4, 5] rfl))
          · have g_39 : RG r_17 0 0 := RG_eq1 h_22 (RG_k 0 0 rfl) c_37 (by decide +kernel)
            refine lv_iload hx hb dX4_readSum_52 (lv_at hl 2 rfl) ?_
            refine lv_if_eq (tgt := 64) hx hb dX4_readSum_54 rfl (fun c_40 => ?_) (fun c_40 => ?_)
            · have g_41 : RG j8_l4 0 0 := RG_eq1 g_j8_l4 (RG_k 0 0 rfl) c_40 (by decide +kernel)
              exact hU _ _ _ (J64 r_17 x_18 j39_h1_f3 j39_h0_f1 j39_h0_0c g_h0_f1 (RG_w h_24 (by decide +kernel)) g_h1_f2 g_h1_f3 g_j39_h0_f1 (RG_w h_23 (by decide +kernel)) (RG_w h_25 (by decide +kernel)) g_39 g_j8_h0_f1 g_j8_h1_f2 g_j8_h1_f3 g_j8_l3 (RG_w g_41 (by decide +kernel)) g_j8_l5 _ _ _ hP hD hS (lv_sub hl [0, 1, 3, 4, 5] rfl))
            · have g_42 : RG j8_l4 1 60 := RG_ne1 g_j8_l4 (q := 0) rfl c_40 (by decide +kernel)
              refine lv_aload_n hx hb dX4_readSum_57 rfl (lv_at hl 3 rfl) ?_
              as_aux_lemma =>
              refine lv_iload hx hb dX4_readSum_58 (lv_at hl 2 rfl) ?_
              refine lv_ineg hx hb dX4_readSum_60 ?_
              refine lv_topi (fun x_43 ex_43 => ?_)
              have g_44 : RG x_43 (-60) (-1) := RG_neg ex_43 g_42 (by decide +kernel)
              obtain ⟨hPc, hDc, hFc, hqc⟩ := cl_cut (wc := (wd_c_X4_emit h0 h0_0 j39_h0_f1 h0_2 h0_0 h0_0k j39_h0_0c)) hP hD hS hA [2, 3] (by decide +kernel) rfl
              have hKc := hK.sub (tys' := [(h0_0k, .int)]) [1] rfl
              have hrv := va_recv hKc hPc (ci := 4) (q0 := 0) rfl rfl
              refine va_callv (va_runV (As := [.int x_43]) (rest := []) ⟨hx, hb, hml, hown, hts⟩ (c_X4_emit l dC dI H.size h0 x_43 h0_0 j39_h0_f1 h0_2 h0_0k j39_h0_0c g_j39_h0_f1) (cwV 1 hts gf_c_X4_readSum_4_c_X4_emit rfl rfl rfl mdV_X4_emit ⟨Nat.le_of_ble_eq_true rfl, Nat.le_of_ble_eq_true rfl⟩) ⟨fun a U g mk q => by obtain ⟨q0, q1, qP, qK, qD⟩ := q; exact ⟨q0, q1, qP, va_K.moved (u := U) (U := U.calling g mk a) (Vm.Alike.refl U.vm) qK, qD⟩, hrv, fun U hU hW => ⟨rfl, by rw [hU], by rw [hU]; exact hPc, va_K.moved hW.alike hKc, hDc.weaken (fun _ _ _ _ => trivial)⟩⟩ rfl rfl hl.1 rfl (lv_room (Nat.le_of_ble_eq_true rfl)) dX4_readSum_61 ⟨Nat.le_of_ble_eq_true rfl, Nat.le_of_ble_eq_true rfl⟩) hS (fun q _ h => hFc q h) hFc (fun u t H1 locs ht hvm hw hB hz1 hk1 hS => ?_)
              obtain ⟨x_46, w_47⟩ := u
              obtain ⟨hP1, hK1, hD1⟩ := hB
              rw [ht] at hP1
              obtain ⟨hP, hD⟩ := cl_put (w1 := (wd_c_X4_emit h0 h0_0 x_46 h0_2 h0_0 h0_0k w_47)) (nw := (wd_c_X4_readSum_4 h1 h1_0 h1_f1 x_18 j39_h1_f3 h1_0 h1_0k h1_0c h0 h0_0 x_46 h0_2 h0_0 h0_0k w_47)) hP hD [2, 3] [0, 1, 4, 5] 4 rfl hqc (by decide +kernel) rfl hk1 hFc hP1 hD1
              generalize H1 = H at hP hS ⊢
              as_aux_lemma =>
              have h_48 := hw
              exact hU _ _ _ (J64 r_17 x_18 j39_h1_f3 x_46 w_47 g_h0_f1 (RG_w h_24 (by decide +kernel)) g_h1_f2 g_h1_f3 (RG_w h_48 (by decide +kernel)) (RG_w h_23 (by decide +kernel)) (RG_w h_25 (by decide +kernel)) g_39 g_j8_h0_f1 g_j8_h1_f2 g_j8_h1_f3 g_j8_l3 (RG_w g_42 (by decide +kernel)) g_j8_l5 _ _ _ hP hD hS (lv_sub hl [0, 1, 3, 4, 5] rfl))
      refine hG _ _ _ ?_
      refine lv_iload hx hb dX4_readSum_8 (lv_at hl 0 rfl) ?_
      refine lv_sipush (v := 240) hx hb dX4_readSum_10 kc_sipush_240 ?_
      refine lv_icmp_ge (tgt := 86) hx hb dX4_readSum_13 rfl (fun c_49 => ?_) (fun c_49 => ?_)
      · have g_50 : RG j8_l5 240 240 := RG_le2 (RG_k 240 240 rfl) g_j8_l5 c_49 (by decide +kernel)
        have hK9 := hK.sub (tys' := []) [] rfl
        exact W.vret hx hb hr (fun t ht hW => ⟨⟨(j8_h1_f2, j8_h1_f3, j8_h0_f1, j8_h0_0c), rfl, ⟨g_j8_h1_f2, g_j8_h1_f3, g_j8_h0_f1⟩, by rw [ht]; exact hP, va_K.moved hW.alike hK9, hD⟩, hS.F ht⟩) hS.2.2 dX4_readSum_86
      · have d_51 := Int32.not_le.mp c_49
        have g_52 : RG j8_l5 0 239 := RG_lt1 g_j8_l5 (RG_k 240 240 rfl) d_51 (by decide +kernel)
        refine lv_aload_n hx hb dX4_readSum_16 rfl (lv_at hl 4 rfl) ?_
        obtain ⟨hPc, hDc, hFc, hqc⟩ := cl_cut (wc := (wd_c_X9_isRight h1 h1_0 h1_f1 j8_h1_f2 j8_h1_f3)) hP hD hS hA [0] (by decide +kernel) rfl
        have hKc := hK.sub (tys' := []) [] rfl
        have hrv := va_recv hKc hPc (ci := 9) (q0 := 0) rfl rfl
        refine va_calli (va_runV (As := []) (rest := []) ⟨hx, hb, hml, hown, hts⟩ (c_X9_isRight l dC dI H.size h1 h1_0 h1_f1 j8_h1_f2 j8_h1_f3 g_h1_f1 g_j8_h1_f2 g_j8_h1_f3) (cwV 0 hts gf_c_X4_readSum_4_c_X9_isRight rfl rfl rfl mdV_X9_isRight ⟨Nat.le_of_ble_eq_true rfl, Nat.le_of_ble_eq_true rfl⟩) ⟨fun a U g mk q => by obtain ⟨q0, q1, qP, qK, qD⟩ := q; exact ⟨q0, q1, qP, va_K.moved (u := U) (U := U.calling g mk a) (Vm.Alike.refl U.vm) qK, qD⟩, hrv, fun U hU hW => ⟨rfl, by rw [hU], by rw [hU]; exact hPc, va_K.moved hW.alike hKc, hDc.weaken (fun _ _ _ _ => trivial)⟩⟩ rfl rfl hl.1 rfl (lv_room (Nat.le_of_ble_eq_true rfl)) dX4_readSum_17 ⟨Nat.le_of_ble_eq_true rfl, Nat.le_of_ble_eq_true rfl⟩) hS (fun q _ h => hFc q h) hFc (fun r_53 u t H1 locs ht hvm hw hB hz1 hk1 hS => ?_)
        as_aux_lemma =>
        obtain ⟨hP1, hK1, hD1⟩ := hB
        rw [ht] at hP1
        obtain ⟨hP, hD⟩ := cl_put (w1 := (wd_c_X9_isRight h1 h1_0 h1_f1 j8_h1_f2 j8_h1_f3)) (nw := (wd_c_X4_readSum_4 h1 h1_0 h1_f1 j8_h1_f2 j8_h1_f3 h1_0 h1_0k h1_0c h0 h0_0 j8_h0_f1 h0_2 h0_0 h0_0k j8_h0_0c)) hP hD [0] [4, 1, 2, 3] 4 rfl hqc (by decide +kernel) rfl hk1 hFc hP1 hD1
        generalize H1 = H at hP hS ⊢
        as_aux_lemma =>
        rcases hw with ⟨h_54, h_55⟩ | ⟨h_56, h_57⟩
        · rw [h_54]
          refine lv_if_eq (tgt := 86) hx hb dX4_readSum_20 rfl (fun c_58 => ?_) (fun c_58 => absurd c_58 (by decide +kernel))
          have hK9 := hK.sub (tys' := []) [] rfl
          exact W.vret hx hb hr (fun t ht hW => ⟨⟨(j8_h1_f2, j8_h1_f3, j8_h0_f1, j8_h0_0c), rfl, ⟨g_j8_h1_f2, (RG_w h_55 (by decide +kernel)), g_j8_h0_f1⟩, by rw [ht]; exact hP, va_K.moved hW.alike hK9, hD⟩, hS.F ht⟩) hS.2.2 dX4_readSum_86
        · rw [h_56]
          refine lv_if_eq (tgt := 86) hx hb dX4_readSum_20 rfl (fun c_59 => absurd c_59 (by decide +kernel)) (fun c_59 => ?_)
          refine lv_aload_n hx hb dX4_readSum_23 rfl (lv_at hl 3 rfl) ?_
          refine lv_aload_n hx hb dX4_readSum_24 rfl (lv_at hl 4 rfl) ?_
          refine lv_iload_n hx hb dX4_readSum_25 rfl (lv_at hl 5 rfl) ?_
          obtain ⟨hPc, hDc, hFc, hqc⟩ := cl_cut (wc := (wd_c_X4_readAtom_4 h1 h1_0 h1_f1 j8_h1_f2 j8_h1_f3 h1_0 h1_0k h1_0c h0 h0_0 j8_h0_f1 h0_2 h0_0 h0_0k j8_h0_0c)) hP hD hS hA [0, 1, 2, 3] (by decide +kernel) rfl
          have hKc := hK.sub (tys' := [(h1_0k, .int), (h0_0k, .int)]) [0, 1] rfl
          have hrv := va_recv hKc hPc (ci := 4) (q0 := 2) rfl rfl
          refine va_callv (va_runV (As := [.ref h1, .int 4]) (rest := []) ⟨hx, hb, hml, hown, hts⟩ (c_X4_readAtom_4 l dC dI H.size h0 h1 h1_0 h1_f1 j8_h1_f2 j8_h1_f3 h1_0k h1_0c h0_0 j8_h0_f1 h0_2 h0_0k j8_h0_0c ts4 tv4 g_h1_f1 g_j8_h1_f2 (RG_w h_57 (by decide +kernel)) a_h1_0c g_j8_h0_f1) (cwV 2 hts gf_c_X4_readSum_4_c_X4_readAtom_4 rfl rfl rfl mdV_X4_readAtom ⟨Nat.le_of_ble_eq_true rfl, Nat.le_of_ble_eq_true rfl⟩) ⟨fun a U g mk q => by obtain ⟨q0, q1, qP, qK, qD, qE0, qE1, qE2, qE3, qE4, qE5⟩ := q; exact ⟨q0, q1, qP, va_K.moved (u := U) (U := U.calling g mk a) (Vm.Alike.refl U.vm) qK, qD, vk_R.same rfl qE0, va_Z.moved (u := U) (U := U.calling g mk a) (Vm.Alike.refl U.vm) qE1, va_OF.moved (u := U) (U := U.calling g mk a) (Vm.Alike.refl U.vm) qE2, va_O.moved (u := U) (U := U.calling g mk a) (Vm.Alike.refl U.vm) qE3, va_OF.moved (u := U) (U := U.calling g mk a) (Vm.Alike.refl U.vm) qE4, va_T.moved (u := U) (U := U.calling g mk a) (Vm.Alike.refl U.vm) qE5⟩, hrv, fun U hU hW => ⟨rfl, by rw [hU], by rw [hU]; exact hPc, va_K.moved hW.alike hKc, hDc.weaken (fun _ _ _ _ => trivial), vk_R.warm hW hE_32, va_Z.moved hW.alike (by rw [hU]; exact (hE_10.kept hS.2.1).narrow hFc), va_OF.moved hW.alike (by rw [hU]; exact (hE_34.kept hS.2.1).narrow hFc), va_O.moved hW.alike (by rw [hU]; exact (hE_33.kept hS.2.1).narrow hFc), va_OF.moved hW.alike (by rw [hU]; exact (hE_35.kept hS.2.1).narrow hFc), va_T.moved hW.alike (by rw [hU]; exact (hE_36.kept hS.2.1).narrow hFc)⟩⟩ rfl rfl hl.1 rfl (lv_room (Nat.le_of_ble_eq_true rfl)) dX4_readSum_26 ⟨Nat.le_of_ble_eq_true rfl, Nat.le_of_ble_eq_true rfl⟩) hS (fun q _ h => hFc q h) hFc (fun u t H1 locs ht hvm hw hB hz1 hk1 hS => ?_)
          as_aux_lemma =>
          obtain ⟨x_61, x_62, x_63, w_64⟩ := u
          obtain ⟨hP1, hK1, hD1⟩ := hB
          rw [ht] at hP1
          obtain ⟨hP, hD⟩ := cl_put (w1 := (wd_c_X4_readAtom_4 h1 h1_0 h1_f1 x_61 x_62 h1_0 h1_0k h1_0c h0 h0_0 x_63 h0_2 h0_0 h0_0k w_64)) (nw := (wd_c_X4_readSum_4 h1 h1_0 h1_f1 x_61 x_62 h1_0 h1_0k h1_0c h0 h0_0 x_63 h0_2 h0_0 h0_0k w_64)) hP hD [0, 1, 2, 3] [4, 5, 6, 7] 4 rfl hqc (by decide +kernel) rfl hk1 hFc hP1 hD1
          generalize H1 = H at hP hS ⊢
          as_aux_lemma =>
          rcases hw with ⟨h_65, h_66, h_67⟩
          refine lv_iload_n hx hb dX4_readSum_29 rfl (lv_at hl 2 rfl) ?_
          refine lv_if_eq (tgt := 39) hx hb dX4_readSum_30 rfl (fun c_68 => ?_) (fun c_68 => ?_)
          · have g_69 : RG j8_l3 0 0 := RG_eq1 g_j8_l3 (RG_k 0 0 rfl) c_68 (by decide +kernel)
            exact hU _ _ _ (J39 x_61 x_62 x_63 w_64 g_h0_f1 g_h1_f1 g_h1_f2 g_h1_f3 h_67 h_65 h_66 g_j8_h0_f1 g_j8_h1_f2 h_57 (RG_w g_69 (by decide +kernel)) g_j8_l4 g_52 _ _ _ hP hD hS (lv_sub hl [0, 1, 3, 4, 5] rfl))
          · have g_70 : RG j8_l3 1 60 := RG_ne1 g_j8_l3 (q := 0) rfl c_68 (by decide +kernel)
            refine lv_aload_n hx hb dX4_readSum_33 rfl (lv_at hl 3 rfl) ?_
            refine lv_iload_n hx hb dX4_readSum_34 rfl (lv_at hl 2 rfl) ?_
            refine lv_ineg hx hb dX4_readSum_35 ?_
            refine lv_topi (fun x_71 ex_71 => ?_)
            have g_72 : RG x_71 (-60) (-1) := RG_neg ex_71 g_70 (by decide +kernel)
            obtain ⟨hPc, hDc, hFc, hqc⟩ := cl_cut (wc := (wd_c_X4_emit h0 h0_0 x_63 h0_2 h0_0 h0_0k w_64)) hP hD hS hA [2, 3] (by decide +kernel) rfl
            have hKc := hK.sub (tys' := [(h0_0k, .int)]) [1] rfl
            have hrv := va_recv hKc hPc (ci := 4) (q0 := 0) rfl rfl
            refine va_callv (va_runV (As := [.int x_71]) (rest := []) ⟨hx, hb, hml, hown, hts⟩ (c_X4_emit l dC dI H.size h0 x_71 h0_0 x_63 h0_2 h0_0k w_64 h_67) (cwV 1 hts gf_c_X4_readSum_4_c_X4_emit rfl rfl rfl mdV_X4_emit ⟨Nat.le_of_ble_eq_true rfl, Nat.le_of_ble_eq_true rfl⟩) ⟨fun a U g mk q => by obtain ⟨q0, q1, qP, qK, qD⟩ := q; exact ⟨q0, q1, qP, va_K.moved (u := U) (U := U.calling g mk a) (Vm.Alike.refl U.vm) qK, qD⟩, hrv, fun U hU hW => ⟨rfl, by rw [hU], by rw [hU]; exact hPc, va_K.moved hW.alike hKc, hDc.weaken (fun _ _ _ _ => trivial)⟩⟩ rfl rfl hl.1 rfl (lv_room (Nat.le_of_ble_eq_true rfl)) dX4_readSum_36 ⟨Nat.le_of_ble_eq_true rfl, Nat.le_of_ble_eq_true rfl⟩) hS (fun q _ h => hFc q h) hFc (fun u t H1 locs ht hvm hw hB hz1 hk1 hS => ?_)
            as_aux_lemma =>
            obtain ⟨x_74, w_75⟩ := u
            obtain ⟨hP1, hK1, hD1⟩ := hB
            rw [ht] at hP1
            obtain ⟨hP, hD⟩ := cl_put (w1 := (wd_c_X4_emit h0 h0_0 x_74 h0_2 h0_0 h0_0k w_75)) (nw := (wd_c_X4_readSum_4 h1 h1_0 h1_f1 x_61 x_62 h1_0 h1_0k h1_0c h0 h0_0 x_74 h0_2 h0_0 h0_0k w_75)) hP hD [2, 3] [0, 1, 4, 5] 4 rfl hqc (by decide +kernel) rfl hk1 hFc hP1 hD1
            generalize H1 = H at hP hS ⊢
            as_aux_lemma =>
            have h_76 := hw
            exact hU _ _ _ (J39 x_61 x_62 x_74 w_75 g_h0_f1 g_h1_f1 g_h1_f2 g_h1_f3 (RG_w h_76 (by decide +kernel)) h_65 h_66 g_j8_h0_f1 g_j8_h1_f2 h_57 (RG_w g_70 (by decide +kernel)) g_j8_l4 g_52 _ _ _ hP hD hS (lv_sub hl [0, 1, 3, 4, 5] rfl))
  refine hG _ _ _ ?_
  refine lv_iconst (v := 0) hx hb dX4_readSum_0 kc_iconst_0 ?_
  refine lv_istore_n (lv' := [(3, .int 0), (0, .ref h0), (1, .ref h1), (2, .int 4)]) hx hb dX4_readSum_1 rfl hl (Nat.le_of_ble_eq_true rfl) rfl (fun ls hl => ?_)
  refine lv_iconst (v := 0) hx hb dX4_readSum_2 kc_iconst_0 ?_
  refine lv_istore (lv' := [(4, .int 0), (3, .int 0), (0, .ref h0), (1, .ref h1), (2, .int 4)]) hx hb dX4_readSum_3 hl (Nat.le_of_ble_eq_true rfl) rfl (fun ls hl => ?_)
  refine lv_iconst (v := 0) hx hb dX4_readSum_5 kc_iconst_0 ?_
  refine lv_istore (lv' := [(5, .int 0), (4, .int 0), (3, .int 0), (0, .ref h0), (1, .ref h1), (2, .int 4)]) hx hb dX4_readSum_6 hl (Nat.le_of_ble_eq_true rfl) rfl (fun ls hl => ?_)
  exact hU _ _ _ (J8 _ 0 0 0 h1_f2 h1_f3 h0_f1 h0_0c (Nat.lt_succ_self _) g_h0_f1 g_h1_f1 g_h1_f2 g_h1_f3 g_h0_f1 g_h1_f2 g_h1_f3 (RG_w (RG_k 0 0 rfl) (by decide +kernel)) (RG_w (RG_k 0 0 rfl) (by decide +kernel)) (RG_w (RG_k 0 0 rfl) (by decide +kernel)) _ _ _ hP hD hS (lv_sub hl [0, 1, 2, 3, 4, 5] rfl))
noncomputable def wd_c_X4_readAtom_3 (a0 : Nat) (a1 : Nat) (a2 : Int32) (a3 : Int32) (a4 : Int32) (a5 : Nat) (a6 : ClassId) (a7 : Nat → Int32) (a8 : Nat) (a9 : Nat) (a10 : Int32) (a11 : Nat) (a12 : Nat) (a13 : ClassId) (a14 : Nat → Int32) : va_W := [(a0, .inr (9, [.ref a1, .int a2, .int a3, .int a4])), (a5, .inl (a6, 240, .inl a7)), (a8, .inr (4, [.ref a9, .int a10, .ref a11])), (a12, .inl (a13, 240, .inl a14))]
noncomputable def wf_c_X4_readAtom_3 : List Cond := List.cons (.code yX4_readAtom cX4_readAtom 6 none) (@HAppend.hAppend (List Cond) (List Cond) (List Cond) _ (@HAppend.hAppend (List Cond) (List Cond) (List Cond) _ [.methodLink RX4 41 yX9_peek, .instanceMethod yX9_peek, .selects RX9 yX9_peek yX9_peek, .initialized RX9, .code yX9_peek cX9_peek 1 (some .int), .fieldLink RX9 22 "BuoyVote$Tape" "at" "I", .fieldLink RX9 19 "BuoyVote$Tape" "length" "I", .fieldLink RX9 11 "BuoyVote$Tape" "bytes" "[I", .methodLink RX4 93 yJ0_indexOf_0f7a4, .instanceMethod yJ0_indexOf_0f7a4, .selects RJ0 yJ0_indexOf_0f7a4 yJ0_indexOf_0f7a4, .initialized RJ0, .code yJ0_indexOf_0f7a4 cJ0_indexOf_0f7a4 2 (some .int), .methodLink RJ0 633 yJ0_indexOf_7cf53, .instanceMethod yJ0_indexOf_7cf53, .selects RJ0 yJ0_indexOf_7cf53 yJ0_indexOf_7cf53, .code yJ0_indexOf_7cf53 cJ0_indexOf_7cf53 3 (some .int), .methodLink RJ0 492 yJ0_isLatin1_aae02, .instanceMethod yJ0_isLatin1_aae02, .selects RJ0 yJ0_isLatin1_aae02 yJ0_isLatin1_aae02, .code yJ0_isLatin1_aae02 cJ0_isLatin1_aae02 1 (some .boolean), .fieldLink RJ0 38 "java/lang/String" "COMPACT_STRINGS" "Z", .fieldLink RJ0 15 "java/lang/String" "coder" "B", .fieldLink RJ0 9 "java/lang/String" "value" "[B", .methodLink RJ0 505 yJ0_length_8abf5, .instanceMethod yJ0_length_8abf5, .selects RJ0 yJ0_length_8abf5 yJ0_length_8abf5, .code yJ0_length_8abf5 cJ0_length_8abf5 1 (some .int), .methodLink RJ0 335 yJ0_coder_7d493, .instanceMethod yJ0_coder_7d493, .selects RJ0 yJ0_coder_7d493 yJ0_coder_7d493, .code yJ0_coder_7d493 cJ0_coder_7d493 1 (some .byte), .methodLink RJ0 637 yJ1_indexOf_4cfef, .static yJ1_indexOf_4cfef, .initialized RJ1, .code yJ1_indexOf_4cfef cJ1_indexOf_4cfef 4 (some .int), .methodLink RJ1 88 yJ1_canEncode_9a6ad, .static yJ1_canEncode_9a6ad, .code yJ1_canEncode_9a6ad cJ1_canEncode_9a6ad 1 (some .boolean), .methodLink RJ1 92 Lib.Math.max.name, .static Lib.Math.max.name, .initialized "java/lang/Math", .code Lib.Math.max.name Lib.Math.max.code 2 (some .int), .methodLink RJ1 38 Lib.Math.min.name, .static Lib.Math.min.name, .code Lib.Math.min.name Lib.Math.min.code 2 (some .int), .methodLink RJ1 95 yJ1_indexOfChar_4cfef, .static yJ1_indexOfChar_4cfef, .code yJ1_indexOfChar_4cfef cJ1_indexOfChar_4cfef 6 (some .int), .methodLink RX4 99 yX9_number, .instanceMethod yX9_number, .selects RX9 yX9_number yX9_number, .code yX9_number cX9_number 4 (some .int), .methodLink RX4 82 yX9_refuseHere, .instanceMethod yX9_refuseHere, .selects RX9 yX9_refuseHere yX9_refuseHere, .code yX9_refuseHere cX9_refuseHere 1 none, .methodLink RX9 25 yX9_refuse, .instanceMethod yX9_refuse, .selects RX9 yX9_refuse yX9_refuse, .code yX9_refuse cX9_refuse 2 none, .fieldLink RX9 15 "BuoyVote$Tape" "wrong" "I", .methodLink RX4 79 yX9_skip, .instanceMethod yX9_skip, .selects RX9 yX9_skip yX9_skip, .code yX9_skip cX9_skip 1 none, .methodLink RX4 49 yX4_readSum, .instanceMethod yX4_readSum, .selects RX4 yX4_readSum yX4_readSum, .initialized RX4, .code yX4_readSum cX4_readSum 6 none, .methodLink RX4 72 yX9_isRight, .instanceMethod yX9_isRight, .selects RX9 yX9_isRight yX9_isRight, .code yX9_isRight cX9_isRight 1 (some .boolean), .methodLink RX4 85 yX4_readAtom, .instanceMethod yX4_readAtom, .selects RX4 yX4_readAtom yX4_readAtom, .methodLink RX4 60 yX4_emit, .instanceMethod yX4_emit, .selects RX4 yX4_emit yX4_emit, .code yX4_emit cX4_emit 2 none, .fieldLink RX4 20 "BuoyVote$Law" "length" "I", .fieldLink RX4 11 "BuoyVote$Law" "code" "[I", .methodLink RX4 88 yX9_takeEither, .instanceMethod yX9_takeEither, .selects RX9 yX9_takeEither yX9_takeEither, .code yX9_takeEither cX9_takeEither 4 (some .int), .methodLink RX9 29 yX9_peek, .methodLink RX4 37 yX9_expect, .instanceMethod yX9_expect, .selects RX9 yX9_expect yX9_expect, .code yX9_expect cX9_expect 2 none] wsX90) wsX40)
theorem iw_c_X4_readAtom_3_X9 : ∀ w ∈ wsX90, w ∈ wf_c_X4_readAtom_3 := fun w h => List.mem_cons_of_mem _ (List.mem_append_left _ (List.mem_append_right _ h))
theorem iw_c_X4_readAtom_3_X4 : ∀ w ∈ wsX40, w ∈ wf_c_X4_readAtom_3 := fun w h => List.mem_cons_of_mem _ (List.mem_append_right _ h)
set_option maxRecDepth 20000 in
theorem gf_c_X4_readAtom_3_c_X4_emit_1 : GoodIn wf_c_X4_readAtom_3 (wsV RX4 60 RX4 yX4_emit wf_c_X4_emit_1) := goodIn_app (gi_l [79, 80, 81, 70] rfl rfl) (gi_cons (j := 82) rfl rfl (goodIn_app (gi_l [83, 84] rfl rfl) (goodIn_sub iw_c_X4_readAtom_3_X4 gw_X4)))
set_option maxRecDepth 20000 in
theorem gf_c_X4_readAtom_3_c_X9_number_1 : GoodIn wf_c_X4_readAtom_3 (wsV RX4 99 RX9 yX9_number wf_c_X9_number_1) := goodIn_app (gi_l [50, 51, 52, 4] rfl rfl) (gi_cons (j := 53) rfl rfl (goodIn_app (gi_l [6, 7, 8] rfl rfl) (goodIn_sub iw_c_X4_readAtom_3_X9 gw_X9)))
set_option maxRecDepth 20000 in
theorem gf_c_X4_readAtom_3_c_X9_refuseHere : GoodIn wf_c_X4_readAtom_3 (wsV RX4 82 RX9 yX9_refuseHere wf_c_X9_refuseHere) := goodIn_app (gi_l [54, 55, 56, 4] rfl rfl) (gi_cons (j := 57) rfl rfl (goodIn_app (gi_l [6, 58, 59, 60, 4, 61, 62] rfl rfl) (goodIn_sub iw_c_X4_readAtom_3_X9 gw_X9)))
set_option maxRecDepth 20000 in
theorem gf_c_X4_readAtom_3_c_X9_skip : GoodIn wf_c_X4_readAtom_3 (wsV RX4 79 RX9 yX9_skip wf_c_X9_skip) := goodIn_app (gi_l [63, 64, 65, 4] rfl rfl) (gi_cons (j := 66) rfl rfl (goodIn_app (gi_l [6] rfl rfl) (goodIn_sub iw_c_X4_readAtom_3_X9 gw_X9)))
set_option maxRecDepth 20000 in
theorem gf_c_X4_readAtom_3_c_X4_readSum_4 : GoodIn wf_c_X4_readAtom_3 (wsV RX4 49 RX4 yX4_readSum wf_c_X4_readSum_4) := goodIn_app (gi_l [67, 68, 69, 70] rfl rfl) (gi_cons (j := 71) rfl rfl (goodIn_app (goodIn_app (gi_l [72, 73, 74, 4, 75, 62, 76, 77, 78, 70, 0, 1, 2, 3, 5, 6, 7, 8, 9, 10, 11, 12, 13, 14, 15, 16, 17, 18, 19, 20, 21, 22, 23, 24, 25, 26, 27, 28, 29, 30, 31, 32, 33, 34, 35, 36, 37, 38, 39, 40, 41, 42, 43, 44, 45, 46, 47, 48, 49, 50, 51, 52, 53, 54, 55, 56, 57, 58, 59, 60, 61, 63, 64, 65, 66, 67, 68, 69, 79, 80, 81, 82, 83, 84, 85, 86, 87, 88, 89, 90, 91, 92, 93] rfl rfl) (goodIn_sub iw_c_X4_readAtom_3_X9 gw_X9)) (goodIn_sub iw_c_X4_readAtom_3_X4 gw_X4)))
set_option maxRecDepth 20000 in
theorem gf_c_X4_readAtom_3_c_X9_expect_2 : GoodIn wf_c_X4_readAtom_3 (wsV RX4 37 RX9 yX9_expect wf_c_X9_expect_2) := goodIn_app (gi_l [90, 91, 92, 4] rfl rfl) (gi_cons (j := 93) rfl rfl (goodIn_app (gi_l [62, 89, 2, 3, 4, 5, 6, 7, 8, 58, 59, 60, 61] rfl rfl) (goodIn_sub iw_c_X4_readAtom_3_X9 gw_X9)))
set_option maxRecDepth 20000 in
theorem gf_c_X4_readAtom_3_c_X4_emit : GoodIn wf_c_X4_readAtom_3 (wsV RX4 60 RX4 yX4_emit wf_c_X4_emit) := goodIn_app (gi_l [79, 80, 81, 70] rfl rfl) (gi_cons (j := 82) rfl rfl (goodIn_app (gi_l [83, 84] rfl rfl) (goodIn_sub iw_c_X4_readAtom_3_X4 gw_X4)))
set_option maxRecDepth 20000 in
theorem gf_c_X4_readAtom_3_c_X9_peek : GoodIn wf_c_X4_readAtom_3 (wsV RX4 41 RX9 yX9_peek wf_c_X9_peek) := goodIn_app (gi_l [1, 2, 3, 4] rfl rfl) (gi_cons (j := 5) rfl rfl (goodIn_app (gi_l [6, 7, 8] rfl rfl) (goodIn_sub iw_c_X4_readAtom_3_X9 gw_X9)))
set_option maxRecDepth 20000 in
theorem gf_c_X4_readAtom_3_c_J0_indexOf_0f7a4_4 : GoodIn wf_c_X4_readAtom_3 (wsV RX4 93 RJ0 yJ0_indexOf_0f7a4 wf_c_J0_indexOf_0f7a4_4) := goodIn_app (gi_l [9, 10, 11, 12] rfl rfl) (gi_cons (j := 13) rfl rfl (gi_l [14, 15, 16, 12, 17, 18, 19, 20, 21, 22, 23, 24, 25, 26, 27, 28, 29, 30, 31, 32, 33, 34, 35, 36, 37, 38, 39, 40, 41, 42, 43, 44, 45, 46, 47, 48, 49] rfl rfl))
set_option maxHeartbeats 4000000 in
set_option maxRecDepth 100000 in
theorem c_X4_readAtom_3 (l : Launch) (dC : Nat → ClassId) (dI : Nat → Nat → Nat) (sz : Nat) (h0 : Nat) (h1 : Nat) (h1_0 : Nat) (h1_f1 : Int32) (h1_f2 : Int32) (h1_f3 : Int32) (h1_0k : ClassId) (h1_0c : Nat → Int32) (h0_0 : Nat) (h0_f1 : Int32) (h0_2 : Nat) (h0_0k : ClassId) (h0_0c : Nat → Int32) (ts4 : Nat) (tv4 : Nat) (g_h1_f1 : RG h1_f1 0 240) (g_h1_f2 : RG h1_f2 0 240) (g_h1_f3 : RG h1_f3 (-1) 240) (a_h1_0c : AI h1_0c 0 255) (g_h0_f1 : RG h0_f1 0 240) : Met l yX4_readAtom wf_c_X4_readAtom_3 ({ frames := 10, cells := 0, slots := 0, locals := 241 }) (va_Pc [.ref h0, .ref h1, .int 3] (fun U => U.heap.size = sz ∧ va_P (dC, dI) vwCl (wd_c_X4_readAtom_3 h1 h1_0 h1_f1 h1_f2 h1_f3 h1_0 h1_0k h1_0c h0 h0_0 h0_f1 h0_2 h0_0 h0_0k h0_0c) U.heap ∧ va_K (dC, dI) vwCl [(h1_0k, .int), (h0_0k, .int)] U ∧ va_D (fun _ => True) (wd_c_X4_readAtom_3 h1 h1_0 h1_f1 h1_f2 h1_f3 h1_0 h1_0k h1_0c h0 h0_0 h0_f1 h0_2 h0_0 h0_0k h0_0c) ∧ vk_R RX4 91 "vlrdph" ts4 U ∧ va_Z "java/lang/String" "COMPACT_STRINGS" "Z" (.int 1) (va_A (wd_c_X4_readAtom_3 h1 h1_0 h1_f1 h1_f2 h1_f3 h1_0 h1_0k h1_0c h0 h0_0 h0_f1 h0_2 h0_0 h0_0k h0_0c) sz) U U.heap ∧ va_OF "java/lang/String" "coder" "B" (.int 0) ts4 (va_A (wd_c_X4_readAtom_3 h1 h1_0 h1_f1 h1_f2 h1_f3 h1_0 h1_0k h1_0c h0 h0_0 h0_f1 h0_2 h0_0 h0_0k h0_0c) sz) U U.heap ∧ va_O "java/lang/String" ts4 (va_A (wd_c_X4_readAtom_3 h1 h1_0 h1_f1 h1_f2 h1_f3 h1_0 h1_0k h1_0c h0 h0_0 h0_f1 h0_2 h0_0 h0_0k h0_0c) sz) U U.heap ∧ va_OF "java/lang/String" "value" "[B" (.ref tv4) ts4 (va_A (wd_c_X4_readAtom_3 h1 h1_0 h1_f1 h1_f2 h1_f3 h1_0 h1_0k h1_0c h0 h0_0 h0_f1 h0_2 h0_0 h0_0k h0_0c) sz) U U.heap ∧ va_T .byte tv4 6 (fun j => .int ([118, 108, 114, 100, 112, 104].getD j 0)) (va_A (wd_c_X4_readAtom_3 h1 h1_0 h1_f1 h1_f2 h1_f3 h1_0 h1_0k h1_0c h0 h0_0 h0_f1 h0_2 h0_0 h0_0k h0_0c) sz) U U.heap)) (va_Qv (fun (u : (Int32) × (Int32) × (Int32) × (Nat → Int32)) => (RG u.1 0 240 ∧ RG u.2.1 (-1) 240 ∧ RG u.2.2.1 0 240)) (fun (u : (Int32) × (Int32) × (Int32) × (Nat → Int32)) t => va_P (dC, dI) vwCl (wd_c_X4_readAtom_3 h1 h1_0 h1_f1 (u.1) (u.2.1) h1_0 h1_0k h1_0c h0 h0_0 (u.2.2.1) h0_2 h0_0 h0_0k (u.2.2.2)) t.heap ∧ va_K (dC, dI) vwCl [] t ∧ va_D (va_A (wd_c_X4_readAtom_3 h1 h1_0 h1_f1 h1_f2 h1_f3 h1_0 h1_0k h1_0c h0 h0_0 h0_f1 h0_2 h0_0 h0_0k h0_0c) sz) (wd_c_X4_readAtom_3 h1 h1_0 h1_f1 (u.1) (u.2.1) h1_0 h1_0k h1_0c h0 h0_0 (u.2.2.1) h0_2 h0_0 h0_0k (u.2.2.2))) (va_A (wd_c_X4_readAtom_3 h1 h1_0 h1_f1 h1_f2 h1_f3 h1_0 h1_0k h1_0c h0 h0_0 h0_f1 h0_2 h0_0 h0_0k h0_0c) sz)) 0 0 (va_A (wd_c_X4_readAtom_3 h1 h1_0 h1_f1 h1_f2 h1_f3 h1_0 h1_0k h1_0c h0 h0_0 h0_f1 h0_2 h0_0 h0_0k h0_0c) sz) := by
  refine Met.ofW (cc := cX4_readAtom) (maxL := 6) (ret := none) (by decide +kernel) rfl ?_
  intro p e s m args below meth c s₁ B hml hv
  obtain ⟨rfl, hsz, hP, hK, hD0, hE_32, hE_10, hE_34, hE_33, hE_35, hE_36⟩ := hv
  have hx := B.exec
  have hb := B.bytes
  have hr := B.returns
  have hts := atoms_spec (ws := wf_c_X4_readAtom_3) B.pre
  have hown : s.vm.findClass RX4 = some m.cls := findClass_of_methodNamed B.named
  have hlocks := B.notSynchronized
  subst hsz
  have hD := hD0.self (sz := s.heap.size)
  generalize hAe : va_A (wd_c_X4_readAtom_3 h1 h1_0 h1_f1 h1_f2 h1_f3 h1_0 h1_0k h1_0c h0 h0_0 h0_f1 h0_2 h0_0 h0_0k h0_0c) s.heap.size = A at hD hE_10 hE_34 hE_33 hE_35 hE_36 ⊢
  have hA : ∀ q : Nat, s.heap.size ≤ q → A q := fun q h => by rw [← hAe]; exact Or.inr h
  have hP : va_P (dC, dI) vwCl (wd_c_X4_readAtom_3 h1 h1_0 h1_f1 h1_f2 h1_f3 h1_0 h1_0k h1_0c h0 h0_0 h0_f1 h0_2 h0_0 h0_0k h0_0c) s.heap := hP
  have hl := lv_entry ([.ref h0, .ref h1, .int 3]) (n := 6) (Nat.le_of_ble_eq_true rfl)
  rw [lg_entry_eq]
  generalize (lg_sl ([.ref h0, .ref h1, .int 3]) ++ List.replicate (6 - (lg_sl ([.ref h0, .ref h1, .int 3])).length) Slot.unset).toArray = ls at hl ⊢
  have hl : lv_has ls 6 [(0, .ref h0), (1, .ref h1), (2, .int 3)] := hl
  obtain ⟨H, hHe⟩ : ∃ H : Heap, s.heap = H := ⟨_, rfl⟩
  have hS : va_S A s.heap H [] := by rw [hHe]; exact va_S.rf
  have hP : va_P (dC, dI) vwCl (wd_c_X4_readAtom_3 h1 h1_0 h1_f1 h1_f2 h1_f3 h1_0 h1_0k h1_0c h0 h0_0 h0_f1 h0_2 h0_0 h0_0k h0_0c) H := by rw [← hHe]; exact hP
  rw [hHe]
  refine wj (fun G hG hU => ?_)
  as_aux_lemma =>
  have J65 : ∀ (j65_l5 : Int32) (j65_h1_f2 : Int32) (j65_h1_f3 : Int32) (g_h0_f1 : RG h0_f1 0 240) (g_h1_f1 : RG h1_f1 0 240) (g_h1_f2 : RG h1_f2 0 240) (g_h1_f3 : RG h1_f3 (-1) 240) (g_j65_h1_f2 : RG j65_h1_f2 0 240) (g_j65_h1_f3 : RG j65_h1_f3 (-1) 240) (g_j65_l5 : RG j65_l5 (-1) 9999) (H : Heap) (locs : List Loc) (ls : Array Slot) (hP : va_P (dC, dI) vwCl (wd_c_X4_readAtom_3 h1 h1_0 h1_f1 j65_h1_f2 j65_h1_f3 h1_0 h1_0k h1_0c h0 h0_0 h0_f1 h0_2 h0_0 h0_0k h0_0c) H) (hD : va_D A (wd_c_X4_readAtom_3 h1 h1_0 h1_f1 j65_h1_f2 j65_h1_f3 h1_0 h1_0k h1_0c h0 h0_0 h0_f1 h0_2 h0_0 h0_0k h0_0c)) (hS : va_S A s.heap H locs) (hl : lv_has ls 6 [(5, .int j65_l5), (0, .ref h0)]), G H locs (F0 m 65 ls []) := by
    as_aux_lemma =>
    intro j65_l5 j65_h1_f2 j65_h1_f3 g_h0_f1 g_h1_f1 g_h1_f2 g_h1_f3 g_j65_h1_f2 g_j65_h1_f3 g_j65_l5 H locs ls hP hD hS hl
    refine hG _ _ _ ?_
    refine lv_aload_n hx hb dX4_readAtom_65 rfl (lv_at hl 1 rfl) ?_
    refine lv_iload hx hb dX4_readAtom_66 (lv_at hl 0 rfl) ?_
    obtain ⟨hPc, hDc, hFc, hqc⟩ := cl_cut (wc := (wd_c_X4_emit_1 h0 h0_0 h0_f1 h0_2 h0_0 h0_0k h0_0c)) hP hD hS hA [2, 3] (by decide +kernel) rfl
    have hKc := hK.sub (tys' := [(h0_0k, .int)]) [1] rfl
    have hrv := va_recv hKc hPc (ci := 4) (q0 := 0) rfl rfl
    refine va_callv (va_runV (As := [.int j65_l5]) (rest := []) ⟨hx, hb, hml, hown, hts⟩ (c_X4_emit_1 l dC dI H.size h0 j65_l5 h0_0 h0_f1 h0_2 h0_0k h0_0c (RG_w g_j65_l5 (by decide +kernel)) g_h0_f1) (cwV 1 hts gf_c_X4_readAtom_3_c_X4_emit_1 rfl rfl rfl mdV_X4_emit ⟨Nat.le_of_ble_eq_true rfl, Nat.le_of_ble_eq_true rfl⟩) ⟨fun a U g mk q => by obtain ⟨q0, q1, qP, qK, qD⟩ := q; exact ⟨q0, q1, qP, va_K.moved (u := U) (U := U.calling g mk a) (Vm.Alike.refl U.vm) qK, qD⟩, hrv, fun U hU hW => ⟨rfl, by rw [hU], by rw [hU]; exact hPc, va_K.moved hW.alike hKc, hDc.weaken (fun _ _ _ _ => trivial)⟩⟩ rfl rfl hl.1 rfl (lv_room (Nat.le_of_ble_eq_true rfl)) dX4_readAtom_68 ⟨Nat.le_of_ble_eq_true rfl, Nat.le_of_ble_eq_true rfl⟩) hS (fun q _ h => hFc q h) hFc (fun u t H1 locs ht hvm hw hB hz1 hk1 hS => ?_)
    obtain ⟨x_2, w_3⟩ := u
    obtain ⟨hP1, hK1, hD1⟩ := hB
    rw [ht] at hP1
    obtain ⟨hP, hD⟩ := cl_put (w1 := (wd_c_X4_emit_1 h0 h0_0 x_2 h0_2 h0_0 h0_0k w_3)) (nw := (wd_c_X4_readAtom_3 h1 h1_0 h1_f1 j65_h1_f2 j65_h1_f3 h1_0 h1_0k h1_0c h0 h0_0 x_2 h0_2 h0_0 h0_0k w_3)) hP hD [2, 3] [0, 1, 4, 5] 4 rfl hqc (by decide +kernel) rfl hk1 hFc hP1 hD1
    generalize H1 = H at hP hS ⊢
    as_aux_lemma =>
    have h_4 := hw
    refine lv_goto (tgt := 105) hx hb dX4_readAtom_71 rfl ?_
    have hK9 := hK.sub (tys' := []) [] rfl
    exact W.vret hx hb hr (fun t ht hW => ⟨⟨(j65_h1_f2, j65_h1_f3, x_2, w_3), rfl, ⟨g_j65_h1_f2, g_j65_h1_f3, (RG_w h_4 (by decide +kernel))⟩, by rw [ht]; exact hP, va_K.moved hW.alike hK9, hD⟩, hS.F ht⟩) hS.2.2 dX4_readAtom_105
  have J20 : ∀ (j20_h1_f2 : Int32) (g_h0_f1 : RG h0_f1 0 240) (g_h1_f1 : RG h1_f1 0 240) (g_h1_f2 : RG h1_f2 0 240) (g_h1_f3 : RG h1_f3 (-1) 240) (g_j20_h1_f2 : RG j20_h1_f2 0 240) (H : Heap) (locs : List Loc) (ls : Array Slot) (hP : va_P (dC, dI) vwCl (wd_c_X4_readAtom_3 h1 h1_0 h1_f1 j20_h1_f2 h1_f3 h1_0 h1_0k h1_0c h0 h0_0 h0_f1 h0_2 h0_0 h0_0k h0_0c) H) (hD : va_D A (wd_c_X4_readAtom_3 h1 h1_0 h1_f1 j20_h1_f2 h1_f3 h1_0 h1_0k h1_0c h0 h0_0 h0_f1 h0_2 h0_0 h0_0k h0_0c)) (hS : va_S A s.heap H locs) (hl : lv_has ls 6 [(3, .int (-1)), (0, .ref h0), (1, .ref h1), (2, .int 3)]), G H locs (F0 m 20 ls [.int (-1)]) := by
    as_aux_lemma =>
    intro j20_h1_f2 g_h0_f1 g_h1_f1 g_h1_f2 g_h1_f3 g_j20_h1_f2 H locs ls hP hD hS hl
    refine hG _ _ _ ?_
    refine lv_istore (lv' := [(4, .int (-1)), (3, .int (-1)), (0, .ref h0), (1, .ref h1), (2, .int 3)]) hx hb dX4_readAtom_20 hl (Nat.le_of_ble_eq_true rfl) rfl (fun ls hl => ?_)
    refine lv_iload hx hb dX4_readAtom_22 (lv_at hl 0 rfl) ?_
    refine lv_if_lt (tgt := 42) hx hb dX4_readAtom_24 rfl (fun c_5 => ?_) (fun c_5 => absurd c_5 (by decide +kernel))
    refine lv_iload_n hx hb dX4_readAtom_42 rfl (lv_at hl 1 rfl) ?_
    refine lv_bipush (v := 91) hx hb dX4_readAtom_43 kc_bipush_91 ?_
    refine lv_icmp_eq (tgt := 74) hx hb dX4_readAtom_45 rfl (fun c_6 => absurd c_6 (by decide +kernel)) (fun c_6 => ?_)
    refine lv_aload_n hx hb dX4_readAtom_48 rfl (lv_at hl 3 rfl) ?_
    refine lv_iconst (v := 4) hx hb dX4_readAtom_49 kc_iconst_4 ?_
    obtain ⟨hPc, hDc, hFc, hqc⟩ := cl_cut (wc := (wd_c_X9_number_1 h1 h1_0 h1_f1 j20_h1_f2 h1_f3 h1_0 h1_0k h1_0c)) hP hD hS hA [0, 1] (by decide +kernel) rfl
    have hKc := hK.sub (tys' := [(h1_0k, .int)]) [0] rfl
    have hrv := va_recv hKc hPc (ci := 9) (q0 := 0) rfl rfl
    refine va_calli (va_runV (As := [.int 4]) (rest := []) ⟨hx, hb, hml, hown, hts⟩ (c_X9_number_1 l dC dI H.size h1 h1_0 h1_f1 j20_h1_f2 h1_f3 h1_0k h1_0c g_h1_f1 g_j20_h1_f2 g_h1_f3 a_h1_0c) (cwV 1 hts gf_c_X4_readAtom_3_c_X9_number_1 rfl rfl rfl mdV_X9_number ⟨Nat.le_of_ble_eq_true rfl, Nat.le_of_ble_eq_true rfl⟩) ⟨fun a U g mk q => by obtain ⟨q0, q1, qP, qK, qD⟩ := q; exact ⟨q0, q1, qP, va_K.moved (u := U) (U := U.calling g mk a) (Vm.Alike.refl U.vm) qK, qD⟩, hrv, fun U hU hW => ⟨rfl, by rw [hU], by rw [hU]; exact hPc, va_K.moved hW.alike hKc, hDc.weaken (fun _ _ _ _ => trivial)⟩⟩ rfl rfl hl.1 rfl (lv_room (Nat.le_of_ble_eq_true rfl)) dX4_readAtom_50 ⟨Nat.le_of_ble_eq_true rfl, Nat.le_of_ble_eq_true rfl⟩) hS (fun q _ h => hFc q h) hFc (fun r_7 x_8 t H1 locs ht hvm hw hB hz1 hk1 hS => ?_)
    as_aux_lemma =>
    obtain ⟨hP1, hK1, hD1⟩ := hB
    rw [ht] at hP1
    obtain ⟨hP, hD⟩ := cl_put (w1 := (wd_c_X9_number_1 h1 h1_0 h1_f1 x_8 h1_f3 h1_0 h1_0k h1_0c)) (nw := (wd_c_X4_readAtom_3 h1 h1_0 h1_f1 x_8 h1_f3 h1_0 h1_0k h1_0c h0 h0_0 h0_f1 h0_2 h0_0 h0_0k h0_0c)) hP hD [0, 1] [4, 5, 2, 3] 4 rfl hqc (by decide +kernel) rfl hk1 hFc hP1 hD1
    generalize H1 = H at hP hS ⊢
    as_aux_lemma =>
    rcases hw with ⟨h_9, h_10, h_11⟩ | ⟨h_12, h_13, h_14, h_15, h_16⟩
    · rw [h_9]
      refine lv_istore (lv' := [(5, .int (-1)), (4, .int (-1)), (3, .int (-1)), (0, .ref h0), (1, .ref h1), (2, .int 3)]) hx hb dX4_readAtom_53 hl (Nat.le_of_ble_eq_true rfl) rfl (fun ls hl => ?_)
      refine lv_iload hx hb dX4_readAtom_55 (lv_at hl 0 rfl) ?_
      refine lv_iconst (v := (-1)) hx hb dX4_readAtom_57 kc_iconst_m1 ?_
      refine lv_icmp_ne (tgt := 65) hx hb dX4_readAtom_58 rfl (fun c_17 => absurd c_17 (by decide +kernel)) (fun c_17 => ?_)
      refine lv_aload_n hx hb dX4_readAtom_61 rfl (lv_at hl 4 rfl) ?_
      obtain ⟨hPc, hDc, hFc, hqc⟩ := cl_cut (wc := (wd_c_X9_refuseHere h1 h1_0 h1_f1 x_8 h1_f3)) hP hD hS hA [0] (by decide +kernel) rfl
      have hKc := hK.sub (tys' := []) [] rfl
      have hrv := va_recv hKc hPc (ci := 9) (q0 := 0) rfl rfl
      refine va_callv (va_runV (As := []) (rest := []) ⟨hx, hb, hml, hown, hts⟩ (c_X9_refuseHere l dC dI H.size h1 h1_0 h1_f1 x_8 h1_f3 g_h1_f1 h_10 g_h1_f3) (cwV 0 hts gf_c_X4_readAtom_3_c_X9_refuseHere rfl rfl rfl mdV_X9_refuseHere ⟨Nat.le_of_ble_eq_true rfl, Nat.le_of_ble_eq_true rfl⟩) ⟨fun a U g mk q => by obtain ⟨q0, q1, qP, qK, qD⟩ := q; exact ⟨q0, q1, qP, va_K.moved (u := U) (U := U.calling g mk a) (Vm.Alike.refl U.vm) qK, qD⟩, hrv, fun U hU hW => ⟨rfl, by rw [hU], by rw [hU]; exact hPc, va_K.moved hW.alike hKc, hDc.weaken (fun _ _ _ _ => trivial)⟩⟩ rfl rfl hl.1 rfl (lv_room (Nat.le_of_ble_eq_true rfl)) dX4_readAtom_62 ⟨Nat.le_of_ble_eq_true rfl, Nat.le_of_ble_eq_true rfl⟩) hS (fun q _ h => hFc q h) hFc (fun x_19 t H1 locs ht hvm hw hB hz1 hk1 hS => ?_)
      obtain ⟨hP1, hK1, hD1⟩ := hB
      rw [ht] at hP1
      obtain ⟨hP, hD⟩ := cl_put (w1 := (wd_c_X9_refuseHere h1 h1_0 h1_f1 x_8 x_19)) (nw := (wd_c_X4_readAtom_3 h1 h1_0 h1_f1 x_8 x_19 h1_0 h1_0k h1_0c h0 h0_0 h0_f1 h0_2 h0_0 h0_0k h0_0c)) hP hD [0] [4, 1, 2, 3] 4 rfl hqc (by decide +kernel) rfl hk1 hFc hP1 hD1
      generalize H1 = H at hP hS ⊢
      as_aux_lemma =>
      have h_20 := hw
      exact hU _ _ _ (J65 (-1) x_8 x_19 g_h0_f1 g_h1_f1 g_h1_f2 g_h1_f3 h_10 (RG_w h_20 (by decide +kernel)) (RG_w (RG_k (-1) (-1) rfl) (by decide +kernel)) _ _ _ hP hD hS (lv_sub hl [0, 3] rfl))
    · refine lv_istore (lv' := [(5, .int r_7), (4, .int (-1)), (3, .int (-1)), (0, .ref h0), (1, .ref h1), (2, .int 3)]) hx hb dX4_readAtom_53 hl (Nat.le_of_ble_eq_true rfl) rfl (fun ls hl => ?_)
      refine lv_iload hx hb dX4_readAtom_55 (lv_at hl 0 rfl) ?_
      refine lv_iconst (v := (-1)) hx hb dX4_readAtom_57 kc_iconst_m1 ?_
      refine lv_icmp_ne (tgt := 65) hx hb dX4_readAtom_58 rfl (fun c_21 => ?_) (fun c_21 => ?_)
      · exact hU _ _ _ (J65 r_7 x_8 h1_f3 g_h0_f1 (RG_w h_14 (by decide +kernel)) g_h1_f2 g_h1_f3 (RG_w h_13 (by decide +kernel)) g_h1_f3 (RG_w h_12 (by decide +kernel)) _ _ _ hP hD hS (lv_sub hl [0, 3] rfl))
      · exact RG_dead (RG_eq1 h_12 (RG_k (-1) (-1) rfl) c_21 (a' := 0) (b' := (-1)) (by decide +kernel)) (by decide +kernel)
  have J65b : ∀ (j65b_l5 : Int32) (j65b_h1_f2 : Int32) (j65b_h1_f3 : Int32) (g_h0_f1 : RG h0_f1 0 240) (g_h1_f1 : RG h1_f1 1 240) (g_h1_f2 : RG h1_f2 0 240) (g_h1_f3 : RG h1_f3 (-1) 240) (g_j65b_h1_f2 : RG j65b_h1_f2 0 240) (g_j65b_h1_f3 : RG j65b_h1_f3 (-1) 240) (g_j65b_l5 : RG j65b_l5 (-1) 9999) (H : Heap) (locs : List Loc) (ls : Array Slot) (hP : va_P (dC, dI) vwCl (wd_c_X4_readAtom_3 h1 h1_0 h1_f1 j65b_h1_f2 j65b_h1_f3 h1_0 h1_0k h1_0c h0 h0_0 h0_f1 h0_2 h0_0 h0_0k h0_0c) H) (hD : va_D A (wd_c_X4_readAtom_3 h1 h1_0 h1_f1 j65b_h1_f2 j65b_h1_f3 h1_0 h1_0k h1_0c h0 h0_0 h0_f1 h0_2 h0_0 h0_0k h0_0c)) (hS : va_S A s.heap H locs) (hl : lv_has ls 6 [(5, .int j65b_l5), (0, .ref h0)]), G H locs (F0 m 65 ls []) := by
    as_aux_lemma =>
    intro j65b_l5 j65b_h1_f2 j65b_h1_f3 g_h0_f1 g_h1_f1 g_h1_f2 g_h1_f3 g_j65b_h1_f2 g_j65b_h1_f3 g_j65b_l5 H locs ls hP hD hS hl
    refine hG _ _ _ ?_
    refine lv_aload_n hx hb dX4_readAtom_65 rfl (lv_at hl 1 rfl) ?_
    refine lv_iload hx hb dX4_readAtom_66 (lv_at hl 0 rfl) ?_
    obtain ⟨hPc, hDc, hFc, hqc⟩ := cl_cut (wc := (wd_c_X4_emit_1 h0 h0_0 h0_f1 h0_2 h0_0 h0_0k h0_0c)) hP hD hS hA [2, 3] (by decide +kernel) rfl
    have hKc := hK.sub (tys' := [(h0_0k, .int)]) [1] rfl
    have hrv := va_recv hKc hPc (ci := 4) (q0 := 0) rfl rfl
    refine va_callv (va_runV (As := [.int j65b_l5]) (rest := []) ⟨hx, hb, hml, hown, hts⟩ (c_X4_emit_1 l dC dI H.size h0 j65b_l5 h0_0 h0_f1 h0_2 h0_0k h0_0c (RG_w g_j65b_l5 (by decide +kernel)) g_h0_f1) (cwV 1 hts gf_c_X4_readAtom_3_c_X4_emit_1 rfl rfl rfl mdV_X4_emit ⟨Nat.le_of_ble_eq_true rfl, Nat.le_of_ble_eq_true rfl⟩) ⟨fun a U g mk q => by obtain ⟨q0, q1, qP, qK, qD⟩ := q; exact ⟨q0, q1, qP, va_K.moved (u := U) (U := U.calling g mk a) (Vm.Alike.refl U.vm) qK, qD⟩, hrv, fun U hU hW => ⟨rfl, by rw [hU], by rw [hU]; exact hPc, va_K.moved hW.alike hKc, hDc.weaken (fun _ _ _ _ => trivial)⟩⟩ rfl rfl hl.1 rfl (lv_room (Nat.le_of_ble_eq_true rfl)) dX4_readAtom_68 ⟨Nat.le_of_ble_eq_true rfl, Nat.le_of_ble_eq_true rfl⟩) hS (fun q _ h => hFc q h) hFc (fun u t H1 locs ht hvm hw hB hz1 hk1 hS => ?_)
    obtain ⟨x_23, w_24⟩ := u
    obtain ⟨hP1, hK1, hD1⟩ := hB
    rw [ht] at hP1
    obtain ⟨hP, hD⟩ := cl_put (w1 := (wd_c_X4_emit_1 h0 h0_0 x_23 h0_2 h0_0 h0_0k w_24)) (nw := (wd_c_X4_readAtom_3 h1 h1_0 h1_f1 j65b_h1_f2 j65b_h1_f3 h1_0 h1_0k h1_0c h0 h0_0 x_23 h0_2 h0_0 h0_0k w_24)) hP hD [2, 3] [0, 1, 4, 5] 4 rfl hqc (by decide +kernel) rfl hk1 hFc hP1 hD1
    generalize H1 = H at hP hS ⊢
    as_aux_lemma =>
    have h_25 := hw
    refine lv_goto (tgt := 105) hx hb dX4_readAtom_71 rfl ?_
    have hK9 := hK.sub (tys' := []) [] rfl
    exact W.vret hx hb hr (fun t ht hW => ⟨⟨(j65b_h1_f2, j65b_h1_f3, x_23, w_24), rfl, ⟨g_j65b_h1_f2, g_j65b_h1_f3, (RG_w h_25 (by decide +kernel))⟩, by rw [ht]; exact hP, va_K.moved hW.alike hK9, hD⟩, hS.F ht⟩) hS.2.2 dX4_readAtom_105
  have J20b : ∀ (j20b_l3 : Int32) (j20b_h1_f2 : Int32) (g_h0_f1 : RG h0_f1 0 240) (g_h1_f1 : RG h1_f1 1 240) (g_h1_f2 : RG h1_f2 0 240) (g_h1_f3 : RG h1_f3 (-1) 240) (g_j20b_h1_f2 : RG j20b_h1_f2 0 239) (g_j20b_l3 : RG j20b_l3 0 255) (H : Heap) (locs : List Loc) (ls : Array Slot) (hP : va_P (dC, dI) vwCl (wd_c_X4_readAtom_3 h1 h1_0 h1_f1 j20b_h1_f2 h1_f3 h1_0 h1_0k h1_0c h0 h0_0 h0_f1 h0_2 h0_0 h0_0k h0_0c) H) (hD : va_D A (wd_c_X4_readAtom_3 h1 h1_0 h1_f1 j20b_h1_f2 h1_f3 h1_0 h1_0k h1_0c h0 h0_0 h0_f1 h0_2 h0_0 h0_0k h0_0c)) (hS : va_S A s.heap H locs) (hl : lv_has ls 6 [(3, .int j20b_l3), (0, .ref h0), (1, .ref h1), (2, .int 3)]), G H locs (F0 m 20 ls [.int (-1)]) := by
    as_aux_lemma =>
    intro j20b_l3 j20b_h1_f2 g_h0_f1 g_h1_f1 g_h1_f2 g_h1_f3 g_j20b_h1_f2 g_j20b_l3 H locs ls hP hD hS hl
    refine hG _ _ _ ?_
    refine lv_istore (lv' := [(4, .int (-1)), (3, .int j20b_l3), (0, .ref h0), (1, .ref h1), (2, .int 3)]) hx hb dX4_readAtom_20 hl (Nat.le_of_ble_eq_true rfl) rfl (fun ls hl => ?_)
    refine lv_iload hx hb dX4_readAtom_22 (lv_at hl 0 rfl) ?_
    refine lv_if_lt (tgt := 42) hx hb dX4_readAtom_24 rfl (fun c_26 => ?_) (fun c_26 => absurd c_26 (by decide +kernel))
    refine lv_iload_n hx hb dX4_readAtom_42 rfl (lv_at hl 1 rfl) ?_
    refine lv_bipush (v := 91) hx hb dX4_readAtom_43 kc_bipush_91 ?_
    refine lv_icmp_eq (tgt := 74) hx hb dX4_readAtom_45 rfl (fun c_27 => ?_) (fun c_27 => ?_)
    · have g_28 : RG j20b_l3 91 91 := RG_eq1 g_j20b_l3 (RG_k 91 91 rfl) c_27 (by decide +kernel)
      refine lv_iload_n hx hb dX4_readAtom_74 rfl (lv_at hl 4 rfl) ?_
      refine lv_bipush (v := 6) hx hb dX4_readAtom_75 kc_bipush_6 ?_
      refine lv_icmp_lt (tgt := 87) hx hb dX4_readAtom_77 rfl (fun c_29 => ?_) (fun c_29 => absurd c_29 (by decide +kernel))
      refine lv_aload_n hx hb dX4_readAtom_87 rfl (lv_at hl 3 rfl) ?_
      obtain ⟨hPc, hDc, hFc, hqc⟩ := cl_cut (wc := (wd_c_X9_skip h1 h1_0 h1_f1 j20b_h1_f2 h1_f3)) hP hD hS hA [0] (by decide +kernel) rfl
      have hKc := hK.sub (tys' := []) [] rfl
      have hrv := va_recv hKc hPc (ci := 9) (q0 := 0) rfl rfl
      refine va_callv (va_runV (As := []) (rest := []) ⟨hx, hb, hml, hown, hts⟩ (c_X9_skip l dC dI H.size h1 h1_0 h1_f1 j20b_h1_f2 h1_f3 (RG_w g_h1_f1 (by decide +kernel)) g_j20b_h1_f2 g_h1_f3) (cwV 0 hts gf_c_X4_readAtom_3_c_X9_skip rfl rfl rfl mdV_X9_skip ⟨Nat.le_of_ble_eq_true rfl, Nat.le_of_ble_eq_true rfl⟩) ⟨fun a U g mk q => by obtain ⟨q0, q1, qP, qK, qD⟩ := q; exact ⟨q0, q1, qP, va_K.moved (u := U) (U := U.calling g mk a) (Vm.Alike.refl U.vm) qK, qD⟩, hrv, fun U hU hW => ⟨rfl, by rw [hU], by rw [hU]; exact hPc, va_K.moved hW.alike hKc, hDc.weaken (fun _ _ _ _ => trivial)⟩⟩ rfl rfl hl.1 rfl (lv_room (Nat.le_of_ble_eq_true rfl)) dX4_readAtom_88 ⟨Nat.le_of_ble_eq_true rfl, Nat.le_of_ble_eq_true rfl⟩) hS (fun q _ h => hFc q h) hFc (fun x_31 t H1 locs ht hvm hw hB hz1 hk1 hS => ?_)
      as_aux_lemma =>
      obtain ⟨hP1, hK1, hD1⟩ := hB
      rw [ht] at hP1
      obtain ⟨hP, hD⟩ := cl_put (w1 := (wd_c_X9_skip h1 h1_0 h1_f1 x_31 h1_f3)) (nw := (wd_c_X4_readAtom_3 h1 h1_0 h1_f1 x_31 h1_f3 h1_0 h1_0k h1_0c h0 h0_0 h0_f1 h0_2 h0_0 h0_0k h0_0c)) hP hD [0] [4, 1, 2, 3] 4 rfl hqc (by decide +kernel) rfl hk1 hFc hP1 hD1
      generalize H1 = H at hP hS ⊢
      as_aux_lemma =>
      rcases hw with ⟨h_32, h_33, h_34⟩
      refine lv_aload_n hx hb dX4_readAtom_91 rfl (lv_at hl 2 rfl) ?_
      refine lv_aload_n hx hb dX4_readAtom_92 rfl (lv_at hl 3 rfl) ?_
      refine lv_iload_n hx hb dX4_readAtom_93 rfl (lv_at hl 4 rfl) ?_
      refine lv_iconst (v := 1) hx hb dX4_readAtom_94 kc_iconst_1 ?_
      refine lv_iadd hx hb dX4_readAtom_95 ?_
      refine lv_topi (fun x_35 ex_35 => ?_)
      obtain rfl : x_35 = 4 := ex_35.trans (by decide +kernel)
      obtain ⟨hPc, hDc, hFc, hqc⟩ := cl_cut (wc := (wd_c_X4_readSum_4 h1 h1_0 h1_f1 x_31 h1_f3 h1_0 h1_0k h1_0c h0 h0_0 h0_f1 h0_2 h0_0 h0_0k h0_0c)) hP hD hS hA [0, 1, 2, 3] (by decide +kernel) rfl
      have hKc := hK.sub (tys' := [(h1_0k, .int), (h0_0k, .int)]) [0, 1] rfl
      have hrv := va_recv hKc hPc (ci := 4) (q0 := 2) rfl rfl
      refine va_callv (va_runV (As := [.ref h1, .int 4]) (rest := []) ⟨hx, hb, hml, hown, hts⟩ (c_X4_readSum_4 l dC dI H.size h0 h1 h1_0 h1_f1 x_31 h1_f3 h1_0k h1_0c h0_0 h0_f1 h0_2 h0_0k h0_0c ts4 tv4 (RG_w g_h1_f1 (by decide +kernel)) (RG_w h_32 (by decide +kernel)) g_h1_f3 a_h1_0c g_h0_f1) (cwV 2 hts gf_c_X4_readAtom_3_c_X4_readSum_4 rfl rfl rfl mdV_X4_readSum ⟨Nat.le_of_ble_eq_true rfl, Nat.le_of_ble_eq_true rfl⟩) ⟨fun a U g mk q => by obtain ⟨q0, q1, qP, qK, qD, qE0, qE1, qE2, qE3, qE4, qE5⟩ := q; exact ⟨q0, q1, qP, va_K.moved (u := U) (U := U.calling g mk a) (Vm.Alike.refl U.vm) qK, qD, vk_R.same rfl qE0, va_Z.moved (u := U) (U := U.calling g mk a) (Vm.Alike.refl U.vm) qE1, va_OF.moved (u := U) (U := U.calling g mk a) (Vm.Alike.refl U.vm) qE2, va_O.moved (u := U) (U := U.calling g mk a) (Vm.Alike.refl U.vm) qE3, va_OF.moved (u := U) (U := U.calling g mk a) (Vm.Alike.refl U.vm) qE4, va_T.moved (u := U) (U := U.calling g mk a) (Vm.Alike.refl U.vm) qE5⟩, hrv, fun U hU hW => ⟨rfl, by rw [hU], by rw [hU]; exact hPc, va_K.moved hW.alike hKc, hDc.weaken (fun _ _ _ _ => trivial), vk_R.warm hW hE_32, va_Z.moved hW.alike (by rw [hU]; exact (hE_10.kept hS.2.1).narrow hFc), va_OF.moved hW.alike (by rw [hU]; exact (hE_34.kept hS.2.1).narrow hFc), va_O.moved hW.alike (by rw [hU]; exact (hE_33.kept hS.2.1).narrow hFc), va_OF.moved hW.alike (by rw [hU]; exact (hE_35.kept hS.2.1).narrow hFc), va_T.moved hW.alike (by rw [hU]; exact (hE_36.kept hS.2.1).narrow hFc)⟩⟩ rfl rfl hl.1 rfl (lv_room (Nat.le_of_ble_eq_true rfl)) dX4_readAtom_96 ⟨Nat.le_of_ble_eq_true rfl, Nat.le_of_ble_eq_true rfl⟩) hS (fun q _ h => hFc q h) hFc (fun u t H1 locs ht hvm hw hB hz1 hk1 hS => ?_)
      obtain ⟨x_37, x_38, x_39, w_40⟩ := u
      obtain ⟨hP1, hK1, hD1⟩ := hB
      rw [ht] at hP1
      obtain ⟨hP, hD⟩ := cl_put (w1 := (wd_c_X4_readSum_4 h1 h1_0 h1_f1 x_37 x_38 h1_0 h1_0k h1_0c h0 h0_0 x_39 h0_2 h0_0 h0_0k w_40)) (nw := (wd_c_X4_readAtom_3 h1 h1_0 h1_f1 x_37 x_38 h1_0 h1_0k h1_0c h0 h0_0 x_39 h0_2 h0_0 h0_0k w_40)) hP hD [0, 1, 2, 3] [4, 5, 6, 7] 4 rfl hqc (by decide +kernel) rfl hk1 hFc hP1 hD1
      generalize H1 = H at hP hS ⊢
      as_aux_lemma =>
      rcases hw with ⟨h_41, h_42, h_43⟩
      refine lv_aload_n hx hb dX4_readAtom_99 rfl (lv_at hl 3 rfl) ?_
      refine lv_bipush (v := 93) hx hb dX4_readAtom_100 kc_bipush_93 ?_
      obtain ⟨hPc, hDc, hFc, hqc⟩ := cl_cut (wc := (wd_c_X9_expect_2 h1 h1_0 h1_f1 x_37 x_38 h1_0 h1_0k h1_0c)) hP hD hS hA [0, 1] (by decide +kernel) rfl
      have hKc := hK.sub (tys' := [(h1_0k, .int)]) [0] rfl
      have hrv := va_recv hKc hPc (ci := 9) (q0 := 0) rfl rfl
      refine va_callv (va_runV (As := [.int 93]) (rest := []) ⟨hx, hb, hml, hown, hts⟩ (c_X9_expect_2 l dC dI H.size h1 93 h1_0 h1_f1 x_37 x_38 h1_0k h1_0c (RG_w (RG_k 93 93 rfl) (by decide +kernel)) (RG_w g_h1_f1 (by decide +kernel)) h_41 h_42 a_h1_0c) (cwV 1 hts gf_c_X4_readAtom_3_c_X9_expect_2 rfl rfl rfl mdV_X9_expect ⟨Nat.le_of_ble_eq_true rfl, Nat.le_of_ble_eq_true rfl⟩) ⟨fun a U g mk q => by obtain ⟨q0, q1, qP, qK, qD⟩ := q; exact ⟨q0, q1, qP, va_K.moved (u := U) (U := U.calling g mk a) (Vm.Alike.refl U.vm) qK, qD⟩, hrv, fun U hU hW => ⟨rfl, by rw [hU], by rw [hU]; exact hPc, va_K.moved hW.alike hKc, hDc.weaken (fun _ _ _ _ => trivial)⟩⟩ rfl rfl hl.1 rfl (lv_room (Nat.le_of_ble_eq_true rfl)) dX4_readAtom_102 ⟨Nat.le_of_ble_eq_true rfl, Nat.le_of_ble_eq_true rfl⟩) hS (fun q _ h => hFc q h) hFc (fun u t H1 locs ht hvm hw hB hz1 hk1 hS => ?_)
      obtain ⟨x_45, x_46⟩ := u
      obtain ⟨hP1, hK1, hD1⟩ := hB
      rw [ht] at hP1
      obtain ⟨hP, hD⟩ := cl_put (w1 := (wd_c_X9_expect_2 h1 h1_0 h1_f1 x_45 x_46 h1_0 h1_0k h1_0c)) (nw := (wd_c_X4_readAtom_3 h1 h1_0 h1_f1 x_45 x_46 h1_0 h1_0k h1_0c h0 h0_0 x_39 h0_2 h0_0 h0_0k w_40)) hP hD [0, 1] [4, 5, 2, 3] 4 rfl hqc (by decide +kernel) rfl hk1 hFc hP1 hD1
      generalize H1 = H at hP hS ⊢
      as_aux_lemma =>
      rcases hw with ⟨h_47, h_48, h_49⟩
      have hK9 := hK.sub (tys' := []) [] rfl
      exact W.vret hx hb hr (fun t ht hW => ⟨⟨(x_45, x_46, x_39, w_40), rfl, ⟨h_47, h_48, h_43⟩, by rw [ht]; exact hP, va_K.moved hW.alike hK9, hD⟩, hS.F ht⟩) hS.2.2 dX4_readAtom_105
    · refine lv_aload_n hx hb dX4_readAtom_48 rfl (lv_at hl 3 rfl) ?_
      refine lv_iconst (v := 4) hx hb dX4_readAtom_49 kc_iconst_4 ?_
      obtain ⟨hPc, hDc, hFc, hqc⟩ := cl_cut (wc := (wd_c_X9_number_1 h1 h1_0 h1_f1 j20b_h1_f2 h1_f3 h1_0 h1_0k h1_0c)) hP hD hS hA [0, 1] (by decide +kernel) rfl
      have hKc := hK.sub (tys' := [(h1_0k, .int)]) [0] rfl
      have hrv := va_recv hKc hPc (ci := 9) (q0 := 0) rfl rfl
      refine va_calli (va_runV (As := [.int 4]) (rest := []) ⟨hx, hb, hml, hown, hts⟩ (c_X9_number_1 l dC dI H.size h1 h1_0 h1_f1 j20b_h1_f2 h1_f3 h1_0k h1_0c (RG_w g_h1_f1 (by decide +kernel)) (RG_w g_j20b_h1_f2 (by decide +kernel)) g_h1_f3 a_h1_0c) (cwV 1 hts gf_c_X4_readAtom_3_c_X9_number_1 rfl rfl rfl mdV_X9_number ⟨Nat.le_of_ble_eq_true rfl, Nat.le_of_ble_eq_true rfl⟩) ⟨fun a U g mk q => by obtain ⟨q0, q1, qP, qK, qD⟩ := q; exact ⟨q0, q1, qP, va_K.moved (u := U) (U := U.calling g mk a) (Vm.Alike.refl U.vm) qK, qD⟩, hrv, fun U hU hW => ⟨rfl, by rw [hU], by rw [hU]; exact hPc, va_K.moved hW.alike hKc, hDc.weaken (fun _ _ _ _ => trivial)⟩⟩ rfl rfl hl.1 rfl (lv_room (Nat.le_of_ble_eq_true rfl)) dX4_readAtom_50 ⟨Nat.le_of_ble_eq_true rfl, Nat.le_of_ble_eq_true rfl⟩) hS (fun q _ h => hFc q h) hFc (fun r_50 x_51 t H1 locs ht hvm hw hB hz1 hk1 hS => ?_)
      obtain ⟨hP1, hK1, hD1⟩ := hB
      rw [ht] at hP1
      obtain ⟨hP, hD⟩ := cl_put (w1 := (wd_c_X9_number_1 h1 h1_0 h1_f1 x_51 h1_f3 h1_0 h1_0k h1_0c)) (nw := (wd_c_X4_readAtom_3 h1 h1_0 h1_f1 x_51 h1_f3 h1_0 h1_0k h1_0c h0 h0_0 h0_f1 h0_2 h0_0 h0_0k h0_0c)) hP hD [0, 1] [4, 5, 2, 3] 4 rfl hqc (by decide +kernel) rfl hk1 hFc hP1 hD1
      generalize H1 = H at hP hS ⊢
      as_aux_lemma =>
      rcases hw with ⟨h_52, h_53, h_54⟩ | ⟨h_55, h_56, h_57, h_58, h_59⟩
      · rw [h_52]
        refine lv_istore (lv' := [(5, .int (-1)), (4, .int (-1)), (3, .int j20b_l3), (0, .ref h0), (1, .ref h1), (2, .int 3)]) hx hb dX4_readAtom_53 hl (Nat.le_of_ble_eq_true rfl) rfl (fun ls hl => ?_)
        refine lv_iload hx hb dX4_readAtom_55 (lv_at hl 0 rfl) ?_
        refine lv_iconst (v := (-1)) hx hb dX4_readAtom_57 kc_iconst_m1 ?_
        refine lv_icmp_ne (tgt := 65) hx hb dX4_readAtom_58 rfl (fun c_60 => absurd c_60 (by decide +kernel)) (fun c_60 => ?_)
        refine lv_aload_n hx hb dX4_readAtom_61 rfl (lv_at hl 4 rfl) ?_
        obtain ⟨hPc, hDc, hFc, hqc⟩ := cl_cut (wc := (wd_c_X9_refuseHere h1 h1_0 h1_f1 x_51 h1_f3)) hP hD hS hA [0] (by decide +kernel) rfl
        have hKc := hK.sub (tys' := []) [] rfl
        have hrv := va_recv hKc hPc (ci := 9) (q0 := 0) rfl rfl
        refine va_callv (va_runV (As := []) (rest := []) ⟨hx, hb, hml, hown, hts⟩ (c_X9_refuseHere l dC dI H.size h1 h1_0 h1_f1 x_51 h1_f3 (RG_w g_h1_f1 (by decide +kernel)) h_53 g_h1_f3) (cwV 0 hts gf_c_X4_readAtom_3_c_X9_refuseHere rfl rfl rfl mdV_X9_refuseHere ⟨Nat.le_of_ble_eq_true rfl, Nat.le_of_ble_eq_true rfl⟩) ⟨fun a U g mk q => by obtain ⟨q0, q1, qP, qK, qD⟩ := q; exact ⟨q0, q1, qP, va_K.moved (u := U) (U := U.calling g mk a) (Vm.Alike.refl U.vm) qK, qD⟩, hrv, fun U hU hW => ⟨rfl, by rw [hU], by rw [hU]; exact hPc, va_K.moved hW.alike hKc, hDc.weaken (fun _ _ _ _ => trivial)⟩⟩ rfl rfl hl.1 rfl (lv_room (Nat.le_of_ble_eq_true rfl)) dX4_readAtom_62 ⟨Nat.le_of_ble_eq_true rfl, Nat.le_of_ble_eq_true rfl⟩) hS (fun q _ h => hFc q h) hFc (fun x_62 t H1 locs ht hvm hw hB hz1 hk1 hS => ?_)
        obtain ⟨hP1, hK1, hD1⟩ := hB
        rw [ht] at hP1
        obtain ⟨hP, hD⟩ := cl_put (w1 := (wd_c_X9_refuseHere h1 h1_0 h1_f1 x_51 x_62)) (nw := (wd_c_X4_readAtom_3 h1 h1_0 h1_f1 x_51 x_62 h1_0 h1_0k h1_0c h0 h0_0 h0_f1 h0_2 h0_0 h0_0k h0_0c)) hP hD [0] [4, 1, 2, 3] 4 rfl hqc (by decide +kernel) rfl hk1 hFc hP1 hD1
        generalize H1 = H at hP hS ⊢
        as_aux_lemma =>
        have h_63 := hw
        exact hU _ _ _ (J65b (-1) x_51 x_62 g_h0_f1 g_h1_f1 g_h1_f2 g_h1_f3 h_53 (RG_w h_63 (by decide +kernel)) (RG_w (RG_k (-1) (-1) rfl) (by decide +kernel)) _ _ _ hP hD hS (lv_sub hl [0, 3] rfl))
      · refine lv_istore (lv' := [(5, .int r_50), (4, .int (-1)), (3, .int j20b_l3), (0, .ref h0), (1, .ref h1), (2, .int 3)]) hx hb dX4_readAtom_53 hl (Nat.le_of_ble_eq_true rfl) rfl (fun ls hl => ?_)
        refine lv_iload hx hb dX4_readAtom_55 (lv_at hl 0 rfl) ?_
        refine lv_iconst (v := (-1)) hx hb dX4_readAtom_57 kc_iconst_m1 ?_
        refine lv_icmp_ne (tgt := 65) hx hb dX4_readAtom_58 rfl (fun c_64 => ?_) (fun c_64 => ?_)
        · exact hU _ _ _ (J65b r_50 x_51 h1_f3 g_h0_f1 g_h1_f1 g_h1_f2 g_h1_f3 (RG_w h_56 (by decide +kernel)) g_h1_f3 (RG_w h_55 (by decide +kernel)) _ _ _ hP hD hS (lv_sub hl [0, 3] rfl))
        · exact RG_dead (RG_eq1 h_55 (RG_k (-1) (-1) rfl) c_64 (a' := 0) (b' := (-1)) (by decide +kernel)) (by decide +kernel)
  have J20c : ∀ (j20c_l3 : Int32) (j20c_s0 : Int32) (j20c_h1_f2 : Int32) (g_h0_f1 : RG h0_f1 0 240) (g_h1_f1 : RG h1_f1 1 240) (g_h1_f2 : RG h1_f2 0 240) (g_h1_f3 : RG h1_f3 (-1) 240) (g_j20c_h1_f2 : RG j20c_h1_f2 0 239) (g_j20c_l3 : RG j20c_l3 0 255) (g_j20c_s0 : RG j20c_s0 0 5) (H : Heap) (locs : List Loc) (ls : Array Slot) (hP : va_P (dC, dI) vwCl (wd_c_X4_readAtom_3 h1 h1_0 h1_f1 j20c_h1_f2 h1_f3 h1_0 h1_0k h1_0c h0 h0_0 h0_f1 h0_2 h0_0 h0_0k h0_0c) H) (hD : va_D A (wd_c_X4_readAtom_3 h1 h1_0 h1_f1 j20c_h1_f2 h1_f3 h1_0 h1_0k h1_0c h0 h0_0 h0_f1 h0_2 h0_0 h0_0k h0_0c)) (hS : va_S A s.heap H locs) (hl : lv_has ls 6 [(3, .int j20c_l3), (0, .ref h0), (1, .ref h1), (2, .int 3)]), G H locs (F0 m 20 ls [.int j20c_s0]) := by
    as_aux_lemma =>
    intro j20c_l3 j20c_s0 j20c_h1_f2 g_h0_f1 g_h1_f1 g_h1_f2 g_h1_f3 g_j20c_h1_f2 g_j20c_l3 g_j20c_s0 H locs ls hP hD hS hl
    refine hG _ _ _ ?_
    refine lv_istore (lv' := [(4, .int j20c_s0), (3, .int j20c_l3), (0, .ref h0), (1, .ref h1), (2, .int 3)]) hx hb dX4_readAtom_20 hl (Nat.le_of_ble_eq_true rfl) rfl (fun ls hl => ?_)
    refine lv_iload hx hb dX4_readAtom_22 (lv_at hl 0 rfl) ?_
    refine lv_if_lt (tgt := 42) hx hb dX4_readAtom_24 rfl (fun c_65 => ?_) (fun c_65 => ?_)
    · have g_66 : RG j20c_s0 0 (-1) := RG_lt1 g_j20c_s0 (RG_k 0 0 rfl) c_65 (by decide +kernel)
      exact RG_dead (RG_lt1 g_j20c_s0 (RG_k 0 0 rfl) c_65 (b' := (-1)) (by decide +kernel)) (by decide +kernel)
    · have d_67 := Int32.not_lt.mp c_65
      refine lv_aload_n hx hb dX4_readAtom_27 rfl (lv_at hl 3 rfl) ?_
      obtain ⟨hPc, hDc, hFc, hqc⟩ := cl_cut (wc := (wd_c_X9_skip h1 h1_0 h1_f1 j20c_h1_f2 h1_f3)) hP hD hS hA [0] (by decide +kernel) rfl
      have hKc := hK.sub (tys' := []) [] rfl
      have hrv := va_recv hKc hPc (ci := 9) (q0 := 0) rfl rfl
      refine va_callv (va_runV (As := []) (rest := []) ⟨hx, hb, hml, hown, hts⟩ (c_X9_skip l dC dI H.size h1 h1_0 h1_f1 j20c_h1_f2 h1_f3 (RG_w g_h1_f1 (by decide +kernel)) g_j20c_h1_f2 g_h1_f3) (cwV 0 hts gf_c_X4_readAtom_3_c_X9_skip rfl rfl rfl mdV_X9_skip ⟨Nat.le_of_ble_eq_true rfl, Nat.le_of_ble_eq_true rfl⟩) ⟨fun a U g mk q => by obtain ⟨q0, q1, qP, qK, qD⟩ := q; exact ⟨q0, q1, qP, va_K.moved (u := U) (U := U.calling g mk a) (Vm.Alike.refl U.vm) qK, qD⟩, hrv, fun U hU hW => ⟨rfl, by rw [hU], by rw [hU]; exact hPc, va_K.moved hW.alike hKc, hDc.weaken (fun _ _ _ _ => trivial)⟩⟩ rfl rfl hl.1 rfl (lv_room (Nat.le_of_ble_eq_true rfl)) dX4_readAtom_28 ⟨Nat.le_of_ble_eq_true rfl, Nat.le_of_ble_eq_true rfl⟩) hS (fun q _ h => hFc q h) hFc (fun x_69 t H1 locs ht hvm hw hB hz1 hk1 hS => ?_)
      obtain ⟨hP1, hK1, hD1⟩ := hB
      rw [ht] at hP1
      obtain ⟨hP, hD⟩ := cl_put (w1 := (wd_c_X9_skip h1 h1_0 h1_f1 x_69 h1_f3)) (nw := (wd_c_X4_readAtom_3 h1 h1_0 h1_f1 x_69 h1_f3 h1_0 h1_0k h1_0c h0 h0_0 h0_f1 h0_2 h0_0 h0_0k h0_0c)) hP hD [0] [4, 1, 2, 3] 4 rfl hqc (by decide +kernel) rfl hk1 hFc hP1 hD1
      generalize H1 = H at hP hS ⊢
      as_aux_lemma =>
      rcases hw with ⟨h_70, h_71, h_72⟩
      refine lv_aload_n hx hb dX4_readAtom_31 rfl (lv_at hl 2 rfl) ?_
      refine lv_iconst (v := (-1)) hx hb dX4_readAtom_32 kc_iconst_m1 ?_
      refine lv_iload hx hb dX4_readAtom_33 (lv_at hl 0 rfl) ?_
      refine lv_isub hx hb dX4_readAtom_35 ?_
      refine lv_topi (fun x_73 ex_73 => ?_)
      have g_74 : RG x_73 (-6) (-1) := RG_sub ex_73 (RG_k (-1) (-1) rfl) g_j20c_s0 (by decide +kernel)
      obtain ⟨hPc, hDc, hFc, hqc⟩ := cl_cut (wc := (wd_c_X4_emit h0 h0_0 h0_f1 h0_2 h0_0 h0_0k h0_0c)) hP hD hS hA [2, 3] (by decide +kernel) rfl
      have hKc := hK.sub (tys' := [(h0_0k, .int)]) [1] rfl
      have hrv := va_recv hKc hPc (ci := 4) (q0 := 0) rfl rfl
      refine va_callv (va_runV (As := [.int x_73]) (rest := []) ⟨hx, hb, hml, hown, hts⟩ (c_X4_emit l dC dI H.size h0 x_73 h0_0 h0_f1 h0_2 h0_0k h0_0c g_h0_f1) (cwV 1 hts gf_c_X4_readAtom_3_c_X4_emit rfl rfl rfl mdV_X4_emit ⟨Nat.le_of_ble_eq_true rfl, Nat.le_of_ble_eq_true rfl⟩) ⟨fun a U g mk q => by obtain ⟨q0, q1, qP, qK, qD⟩ := q; exact ⟨q0, q1, qP, va_K.moved (u := U) (U := U.calling g mk a) (Vm.Alike.refl U.vm) qK, qD⟩, hrv, fun U hU hW => ⟨rfl, by rw [hU], by rw [hU]; exact hPc, va_K.moved hW.alike hKc, hDc.weaken (fun _ _ _ _ => trivial)⟩⟩ rfl rfl hl.1 rfl (lv_room (Nat.le_of_ble_eq_true rfl)) dX4_readAtom_36 ⟨Nat.le_of_ble_eq_true rfl, Nat.le_of_ble_eq_true rfl⟩) hS (fun q _ h => hFc q h) hFc (fun u t H1 locs ht hvm hw hB hz1 hk1 hS => ?_)
      obtain ⟨x_76, w_77⟩ := u
      obtain ⟨hP1, hK1, hD1⟩ := hB
      rw [ht] at hP1
      obtain ⟨hP, hD⟩ := cl_put (w1 := (wd_c_X4_emit h0 h0_0 x_76 h0_2 h0_0 h0_0k w_77)) (nw := (wd_c_X4_readAtom_3 h1 h1_0 h1_f1 x_69 h1_f3 h1_0 h1_0k h1_0c h0 h0_0 x_76 h0_2 h0_0 h0_0k w_77)) hP hD [2, 3] [0, 1, 4, 5] 4 rfl hqc (by decide +kernel) rfl hk1 hFc hP1 hD1
      generalize H1 = H at hP hS ⊢
      as_aux_lemma =>
      have h_78 := hw
      refine lv_goto (tgt := 105) hx hb dX4_readAtom_39 rfl ?_
      have hK9 := hK.sub (tys' := []) [] rfl
      exact W.vret hx hb hr (fun t ht hW => ⟨⟨(x_69, h1_f3, x_76, w_77), rfl, ⟨(RG_w h_70 (by decide +kernel)), g_h1_f3, (RG_w h_78 (by decide +kernel))⟩, by rw [ht]; exact hP, va_K.moved hW.alike hK9, hD⟩, hS.F ht⟩) hS.2.2 dX4_readAtom_105
  refine hG _ _ _ ?_
  refine lv_aload_n hx hb dX4_readAtom_0 rfl (lv_at hl 1 rfl) ?_
  obtain ⟨hPc, hDc, hFc, hqc⟩ := cl_cut (wc := (wd_c_X9_peek h1 h1_0 h1_f1 h1_f2 h1_f3 h1_0 h1_0k h1_0c)) hP hD hS hA [0, 1] (by decide +kernel) rfl
  have hKc := hK.sub (tys' := [(h1_0k, .int)]) [0] rfl
  have hrv := va_recv hKc hPc (ci := 9) (q0 := 0) rfl rfl
  refine va_calli (va_runV (As := []) (rest := []) ⟨hx, hb, hml, hown, hts⟩ (c_X9_peek l dC dI H.size h1 h1_0 h1_f1 h1_f2 h1_f3 h1_0k h1_0c g_h1_f1 g_h1_f2 g_h1_f3 a_h1_0c) (cwV 0 hts gf_c_X4_readAtom_3_c_X9_peek rfl rfl rfl mdV_X9_peek ⟨Nat.le_of_ble_eq_true rfl, Nat.le_of_ble_eq_true rfl⟩) ⟨fun a U g mk q => by obtain ⟨q0, q1, qP, qK, qD⟩ := q; exact ⟨q0, q1, qP, va_K.moved (u := U) (U := U.calling g mk a) (Vm.Alike.refl U.vm) qK, qD⟩, hrv, fun U hU hW => ⟨rfl, by rw [hU], by rw [hU]; exact hPc, va_K.moved hW.alike hKc, hDc.weaken (fun _ _ _ _ => trivial)⟩⟩ rfl rfl hl.1 rfl (lv_room (Nat.le_of_ble_eq_true rfl)) dX4_readAtom_1 ⟨Nat.le_of_ble_eq_true rfl, Nat.le_of_ble_eq_true rfl⟩) hS (fun q _ h => hFc q h) hFc (fun r_79 x_80 t H1 locs ht hvm hw hB hz1 hk1 hS => ?_)
  obtain ⟨hP1, hK1, hD1⟩ := hB
  rw [ht] at hP1
  obtain ⟨hP, hD⟩ := cl_put (w1 := (wd_c_X9_peek h1 h1_0 h1_f1 x_80 h1_f3 h1_0 h1_0k h1_0c)) (nw := (wd_c_X4_readAtom_3 h1 h1_0 h1_f1 x_80 h1_f3 h1_0 h1_0k h1_0c h0 h0_0 h0_f1 h0_2 h0_0 h0_0k h0_0c)) hP hD [0, 1] [4, 5, 2, 3] 4 rfl hqc (by decide +kernel) rfl hk1 hFc hP1 hD1
  generalize H1 = H at hP hS ⊢
  as_aux_lemma =>
  rcases hw with ⟨h_81, h_82, h_83⟩ | ⟨h_84, h_85, h_86, h_87⟩
  · rw [h_81]
    refine lv_istore_n (lv' := [(3, .int (-1)), (0, .ref h0), (1, .ref h1), (2, .int 3)]) hx hb dX4_readAtom_4 rfl hl (Nat.le_of_ble_eq_true rfl) rfl (fun ls hl => ?_)
    refine lv_iload_n hx hb dX4_readAtom_5 rfl (lv_at hl 0 rfl) ?_
    refine lv_if_ge (tgt := 13) hx hb dX4_readAtom_6 rfl (fun c_88 => absurd c_88 (by decide +kernel)) (fun c_88 => ?_)
    refine lv_iconst (v := (-1)) hx hb dX4_readAtom_9 kc_iconst_m1 ?_
    refine lv_goto (tgt := 20) hx hb dX4_readAtom_10 rfl ?_
    exact hU _ _ _ (J20 x_80 g_h0_f1 g_h1_f1 g_h1_f2 g_h1_f3 h_82 _ _ _ hP hD hS (lv_sub hl [0, 1, 2, 3] rfl))
  · refine lv_istore_n (lv' := [(3, .int r_79), (0, .ref h0), (1, .ref h1), (2, .int 3)]) hx hb dX4_readAtom_4 rfl hl (Nat.le_of_ble_eq_true rfl) rfl (fun ls hl => ?_)
    refine lv_iload_n hx hb dX4_readAtom_5 rfl (lv_at hl 0 rfl) ?_
    refine lv_if_ge (tgt := 13) hx hb dX4_readAtom_6 rfl (fun c_89 => ?_) (fun c_89 => ?_)
    · refine va_ldcS hx hb hown hE_32 dX4_readAtom_13 ?_
      refine lv_iload_n hx hb dX4_readAtom_15 rfl (lv_at hl 0 rfl) ?_
      refine lv_i2c hx hb dX4_readAtom_16 rfl ?_
      as_aux_lemma =>
      refine lv_topi (fun x_90 ex_90 => ?_)
      have g_91 : RG x_90 0 65535 := RG_i2c ex_90
      obtain ⟨hPc, hDc, hFc, hqc⟩ := cl_cut (wc := []) hP hD hS hA [] (by decide +kernel) rfl
      have hKc := hK.sub (tys' := []) [] rfl
      have hrv := bv_Orecv hE_33 hS
      refine va_calli (va_runV (As := [.int x_90]) (rest := []) ⟨hx, hb, hml, hown, hts⟩ (c_J0_indexOf_0f7a4_4 l dC dI H.size ts4 x_90 tv4 g_91) (cwV 1 hts gf_c_X4_readAtom_3_c_J0_indexOf_0f7a4_4 rfl rfl rfl mdV_J0_indexOf_0f7a4 ⟨Nat.le_of_ble_eq_true rfl, Nat.le_of_ble_eq_true rfl⟩) ⟨fun a U g mk q => by obtain ⟨q0, q1, qP, qK, qD, qE0, qE1, qE2, qE3, qE4⟩ := q; exact ⟨q0, q1, qP, va_K.moved (u := U) (U := U.calling g mk a) (Vm.Alike.refl U.vm) qK, qD, va_Z.moved (u := U) (U := U.calling g mk a) (Vm.Alike.refl U.vm) qE0, va_OF.moved (u := U) (U := U.calling g mk a) (Vm.Alike.refl U.vm) qE1, va_O.moved (u := U) (U := U.calling g mk a) (Vm.Alike.refl U.vm) qE2, va_OF.moved (u := U) (U := U.calling g mk a) (Vm.Alike.refl U.vm) qE3, va_T.moved (u := U) (U := U.calling g mk a) (Vm.Alike.refl U.vm) qE4⟩, hrv, fun U hU hW => ⟨rfl, by rw [hU], by rw [hU]; exact hPc, va_K.moved hW.alike hKc, hDc.weaken (fun _ _ _ _ => trivial), va_Z.moved hW.alike (by rw [hU]; exact (hE_10.kept hS.2.1).narrow hFc), va_OF.moved hW.alike (by rw [hU]; exact (hE_34.kept hS.2.1).narrow hFc), va_O.moved hW.alike (by rw [hU]; exact (hE_33.kept hS.2.1).narrow hFc), va_OF.moved hW.alike (by rw [hU]; exact (hE_35.kept hS.2.1).narrow hFc), va_T.moved hW.alike (by rw [hU]; exact (hE_36.kept hS.2.1).narrow hFc)⟩⟩ rfl rfl hl.1 rfl (lv_room (Nat.le_of_ble_eq_true rfl)) dX4_readAtom_17 ⟨Nat.le_of_ble_eq_true rfl, Nat.le_of_ble_eq_true rfl⟩) hS (fun q _ h => hFc q h) hFc (fun r_92 u t H1 locs ht hvm hw hB hz1 hk1 hS => ?_)
      obtain ⟨hP1, hK1, hD1⟩ := hB
      rw [ht] at hP1
      have hP := bv_still hP hk1
      generalize H1 = H at hP hS ⊢
      as_aux_lemma =>
      rcases hw with h_93 | ⟨h_94, h_95⟩
      · rw [h_93]
        exact hU _ _ _ (J20b r_79 x_80 g_h0_f1 h_86 g_h1_f2 g_h1_f3 h_85 h_84 _ _ _ hP hD hS (lv_sub hl [0, 1, 2, 3] rfl))
      · exact hU _ _ _ (J20c r_79 r_92 x_80 g_h0_f1 h_86 g_h1_f2 g_h1_f3 h_85 h_84 h_94 _ _ _ hP hD hS (lv_sub hl [0, 1, 2, 3] rfl))
    · have d_96 := Int32.not_le.mp c_89
      have g_97 : RG r_79 0 (-1) := RG_lt1 h_84 (RG_k 0 0 rfl) d_96 (by decide +kernel)
      exact RG_dead (RG_lt1 h_84 (RG_k 0 0 rfl) d_96 (b' := (-1)) (by decide +kernel)) (by decide +kernel)
noncomputable def wd_c_X4_readSum_3 (a0 : Nat) (a1 : Nat) (a2 : Int32) (a3 : Int32) (a4 : Int32) (a5 : Nat) (a6 : ClassId) (a7 : Nat → Int32) (a8 : Nat) (a9 : Nat) (a10 : Int32) (a11 : Nat) (a12 : Nat) (a13 : ClassId) (a14 : Nat → Int32) : va_W := [(a0, .inr (9, [.ref a1, .int a2, .int a3, .int a4])), (a5, .inl (a6, 240, .inl a7)), (a8, .inr (4, [.ref a9, .int a10, .ref a11])), (a12, .inl (a13, 240, .inl a14))]
noncomputable def wf_c_X4_readSum_3 : List Cond := List.cons (.code yX4_readSum cX4_readSum 6 none) (@HAppend.hAppend (List Cond) (List Cond) (List Cond) _ (@HAppend.hAppend (List Cond) (List Cond) (List Cond) _ [.methodLink RX4 72 yX9_isRight, .instanceMethod yX9_isRight, .selects RX9 yX9_isRight yX9_isRight, .initialized RX9, .code yX9_isRight cX9_isRight 1 (some .boolean), .fieldLink RX9 15 "BuoyVote$Tape" "wrong" "I", .methodLink RX4 85 yX4_readAtom, .instanceMethod yX4_readAtom, .selects RX4 yX4_readAtom yX4_readAtom, .initialized RX4, .code yX4_readAtom cX4_readAtom 6 none, .methodLink RX4 41 yX9_peek, .instanceMethod yX9_peek, .selects RX9 yX9_peek yX9_peek, .code yX9_peek cX9_peek 1 (some .int), .fieldLink RX9 22 "BuoyVote$Tape" "at" "I", .fieldLink RX9 19 "BuoyVote$Tape" "length" "I", .fieldLink RX9 11 "BuoyVote$Tape" "bytes" "[I", .methodLink RX4 93 yJ0_indexOf_0f7a4, .instanceMethod yJ0_indexOf_0f7a4, .selects RJ0 yJ0_indexOf_0f7a4 yJ0_indexOf_0f7a4, .initialized RJ0, .code yJ0_indexOf_0f7a4 cJ0_indexOf_0f7a4 2 (some .int), .methodLink RJ0 633 yJ0_indexOf_7cf53, .instanceMethod yJ0_indexOf_7cf53, .selects RJ0 yJ0_indexOf_7cf53 yJ0_indexOf_7cf53, .code yJ0_indexOf_7cf53 cJ0_indexOf_7cf53 3 (some .int), .methodLink RJ0 492 yJ0_isLatin1_aae02, .instanceMethod yJ0_isLatin1_aae02, .selects RJ0 yJ0_isLatin1_aae02 yJ0_isLatin1_aae02, .code yJ0_isLatin1_aae02 cJ0_isLatin1_aae02 1 (some .boolean), .fieldLink RJ0 38 "java/lang/String" "COMPACT_STRINGS" "Z", .fieldLink RJ0 15 "java/lang/String" "coder" "B", .fieldLink RJ0 9 "java/lang/String" "value" "[B", .methodLink RJ0 505 yJ0_length_8abf5, .instanceMethod yJ0_length_8abf5, .selects RJ0 yJ0_length_8abf5 yJ0_length_8abf5, .code yJ0_length_8abf5 cJ0_length_8abf5 1 (some .int), .methodLink RJ0 335 yJ0_coder_7d493, .instanceMethod yJ0_coder_7d493, .selects RJ0 yJ0_coder_7d493 yJ0_coder_7d493, .code yJ0_coder_7d493 cJ0_coder_7d493 1 (some .byte), .methodLink RJ0 637 yJ1_indexOf_4cfef, .static yJ1_indexOf_4cfef, .initialized RJ1, .code yJ1_indexOf_4cfef cJ1_indexOf_4cfef 4 (some .int), .methodLink RJ1 88 yJ1_canEncode_9a6ad, .static yJ1_canEncode_9a6ad, .code yJ1_canEncode_9a6ad cJ1_canEncode_9a6ad 1 (some .boolean), .methodLink RJ1 92 Lib.Math.max.name, .static Lib.Math.max.name, .initialized "java/lang/Math", .code Lib.Math.max.name Lib.Math.max.code 2 (some .int), .methodLink RJ1 38 Lib.Math.min.name, .static Lib.Math.min.name, .code Lib.Math.min.name Lib.Math.min.code 2 (some .int), .methodLink RJ1 95 yJ1_indexOfChar_4cfef, .static yJ1_indexOfChar_4cfef, .code yJ1_indexOfChar_4cfef cJ1_indexOfChar_4cfef 6 (some .int), .methodLink RX4 99 yX9_number, .instanceMethod yX9_number, .selects RX9 yX9_number yX9_number, .code yX9_number cX9_number 4 (some .int), .methodLink RX4 82 yX9_refuseHere, .instanceMethod yX9_refuseHere, .selects RX9 yX9_refuseHere yX9_refuseHere, .code yX9_refuseHere cX9_refuseHere 1 none, .methodLink RX9 25 yX9_refuse, .instanceMethod yX9_refuse, .selects RX9 yX9_refuse yX9_refuse, .code yX9_refuse cX9_refuse 2 none, .methodLink RX4 79 yX9_skip, .instanceMethod yX9_skip, .selects RX9 yX9_skip yX9_skip, .code yX9_skip cX9_skip 1 none, .methodLink RX4 49 yX4_readSum, .instanceMethod yX4_readSum, .selects RX4 yX4_readSum yX4_readSum, .methodLink RX4 60 yX4_emit, .instanceMethod yX4_emit, .selects RX4 yX4_emit yX4_emit, .code yX4_emit cX4_emit 2 none, .fieldLink RX4 20 "BuoyVote$Law" "length" "I", .fieldLink RX4 11 "BuoyVote$Law" "code" "[I", .methodLink RX4 88 yX9_takeEither, .instanceMethod yX9_takeEither, .selects RX9 yX9_takeEither yX9_takeEither, .code yX9_takeEither cX9_takeEither 4 (some .int), .methodLink RX9 29 yX9_peek, .methodLink RX4 37 yX9_expect, .instanceMethod yX9_expect, .selects RX9 yX9_expect yX9_expect, .code yX9_expect cX9_expect 2 none] wsX90) wsX40)
theorem iw_c_X4_readSum_3_X9 : ∀ w ∈ wsX90, w ∈ wf_c_X4_readSum_3 := fun w h => List.mem_cons_of_mem _ (List.mem_append_left _ (List.mem_append_right _ h))
theorem iw_c_X4_readSum_3_X4 : ∀ w ∈ wsX40, w ∈ wf_c_X4_readSum_3 := fun w h => List.mem_cons_of_mem _ (List.mem_append_right _ h)
set_option maxRecDepth 20000 in
theorem gf_c_X4_readSum_3_c_X9_takeEither : GoodIn wf_c_X4_readSum_3 (wsV RX4 88 RX9 yX9_takeEither wf_c_X9_takeEither) := goodIn_app (gi_l [85, 86, 87, 4] rfl rfl) (gi_cons (j := 88) rfl rfl (goodIn_app (gi_l [89, 13, 14, 4, 15, 16, 17, 18, 6] rfl rfl) (goodIn_sub iw_c_X4_readSum_3_X9 gw_X9)))
set_option maxRecDepth 20000 in
theorem gf_c_X4_readSum_3_c_X4_emit : GoodIn wf_c_X4_readSum_3 (wsV RX4 60 RX4 yX4_emit wf_c_X4_emit) := goodIn_app (gi_l [79, 80, 81, 10] rfl rfl) (gi_cons (j := 82) rfl rfl (goodIn_app (gi_l [83, 84] rfl rfl) (goodIn_sub iw_c_X4_readSum_3_X4 gw_X4)))
set_option maxRecDepth 20000 in
theorem gf_c_X4_readSum_3_c_X9_isRight : GoodIn wf_c_X4_readSum_3 (wsV RX4 72 RX9 yX9_isRight wf_c_X9_isRight) := goodIn_app (gi_l [1, 2, 3, 4] rfl rfl) (gi_cons (j := 5) rfl rfl (goodIn_app (gi_l [6] rfl rfl) (goodIn_sub iw_c_X4_readSum_3_X9 gw_X9)))
set_option maxRecDepth 20000 in
theorem gf_c_X4_readSum_3_c_X4_readAtom_3 : GoodIn wf_c_X4_readSum_3 (wsV RX4 85 RX4 yX4_readAtom wf_c_X4_readAtom_3) := goodIn_app (gi_l [7, 8, 9, 10] rfl rfl) (gi_cons (j := 11) rfl rfl (goodIn_app (goodIn_app (gi_l [12, 13, 14, 4, 15, 16, 17, 18, 19, 20, 21, 22, 23, 24, 25, 26, 27, 28, 29, 30, 31, 32, 33, 34, 35, 36, 37, 38, 39, 40, 41, 42, 43, 44, 45, 46, 47, 48, 49, 50, 51, 52, 53, 54, 55, 56, 57, 58, 59, 60, 61, 62, 63, 64, 65, 66, 67, 68, 69, 70, 71, 6, 72, 73, 74, 75, 76, 77, 78, 10, 0, 1, 2, 3, 5, 7, 8, 9, 79, 80, 81, 82, 83, 84, 85, 86, 87, 88, 89, 90, 91, 92, 93] rfl rfl) (goodIn_sub iw_c_X4_readSum_3_X9 gw_X9)) (goodIn_sub iw_c_X4_readSum_3_X4 gw_X4)))
set_option maxHeartbeats 4000000 in
set_option maxRecDepth 100000 in
theorem c_X4_readSum_3 (l : Launch) (dC : Nat → ClassId) (dI : Nat → Nat → Nat) (sz : Nat) (h0 : Nat) (h1 : Nat) (h1_0 : Nat) (h1_f1 : Int32) (h1_f2 : Int32) (h1_f3 : Int32) (h1_0k : ClassId) (h1_0c : Nat → Int32) (h0_0 : Nat) (h0_f1 : Int32) (h0_2 : Nat) (h0_0k : ClassId) (h0_0c : Nat → Int32) (ts4 : Nat) (tv4 : Nat) (g_h1_f1 : RG h1_f1 0 240) (g_h1_f2 : RG h1_f2 0 240) (g_h1_f3 : RG h1_f3 (-1) 240) (a_h1_0c : AI h1_0c 0 255) (g_h0_f1 : RG h0_f1 0 240) : Met l yX4_readSum wf_c_X4_readSum_3 ({ frames := 11, cells := 0, slots := 0, locals := 266 }) (va_Pc [.ref h0, .ref h1, .int 3] (fun U => U.heap.size = sz ∧ va_P (dC, dI) vwCl (wd_c_X4_readSum_3 h1 h1_0 h1_f1 h1_f2 h1_f3 h1_0 h1_0k h1_0c h0 h0_0 h0_f1 h0_2 h0_0 h0_0k h0_0c) U.heap ∧ va_K (dC, dI) vwCl [(h1_0k, .int), (h0_0k, .int)] U ∧ va_D (fun _ => True) (wd_c_X4_readSum_3 h1 h1_0 h1_f1 h1_f2 h1_f3 h1_0 h1_0k h1_0c h0 h0_0 h0_f1 h0_2 h0_0 h0_0k h0_0c) ∧ vk_R RX4 91 "vlrdph" ts4 U ∧ va_Z "java/lang/String" "COMPACT_STRINGS" "Z" (.int 1) (va_A (wd_c_X4_readSum_3 h1 h1_0 h1_f1 h1_f2 h1_f3 h1_0 h1_0k h1_0c h0 h0_0 h0_f1 h0_2 h0_0 h0_0k h0_0c) sz) U U.heap ∧ va_OF "java/lang/String" "coder" "B" (.int 0) ts4 (va_A (wd_c_X4_readSum_3 h1 h1_0 h1_f1 h1_f2 h1_f3 h1_0 h1_0k h1_0c h0 h0_0 h0_f1 h0_2 h0_0 h0_0k h0_0c) sz) U U.heap ∧ va_O "java/lang/String" ts4 (va_A (wd_c_X4_readSum_3 h1 h1_0 h1_f1 h1_f2 h1_f3 h1_0 h1_0k h1_0c h0 h0_0 h0_f1 h0_2 h0_0 h0_0k h0_0c) sz) U U.heap ∧ va_OF "java/lang/String" "value" "[B" (.ref tv4) ts4 (va_A (wd_c_X4_readSum_3 h1 h1_0 h1_f1 h1_f2 h1_f3 h1_0 h1_0k h1_0c h0 h0_0 h0_f1 h0_2 h0_0 h0_0k h0_0c) sz) U U.heap ∧ va_T .byte tv4 6 (fun j => .int ([118, 108, 114, 100, 112, 104].getD j 0)) (va_A (wd_c_X4_readSum_3 h1 h1_0 h1_f1 h1_f2 h1_f3 h1_0 h1_0k h1_0c h0 h0_0 h0_f1 h0_2 h0_0 h0_0k h0_0c) sz) U U.heap)) (va_Qv (fun (u : (Int32) × (Int32) × (Int32) × (Nat → Int32)) => (RG u.1 0 240 ∧ RG u.2.1 (-1) 240 ∧ RG u.2.2.1 0 240)) (fun (u : (Int32) × (Int32) × (Int32) × (Nat → Int32)) t => va_P (dC, dI) vwCl (wd_c_X4_readSum_3 h1 h1_0 h1_f1 (u.1) (u.2.1) h1_0 h1_0k h1_0c h0 h0_0 (u.2.2.1) h0_2 h0_0 h0_0k (u.2.2.2)) t.heap ∧ va_K (dC, dI) vwCl [] t ∧ va_D (va_A (wd_c_X4_readSum_3 h1 h1_0 h1_f1 h1_f2 h1_f3 h1_0 h1_0k h1_0c h0 h0_0 h0_f1 h0_2 h0_0 h0_0k h0_0c) sz) (wd_c_X4_readSum_3 h1 h1_0 h1_f1 (u.1) (u.2.1) h1_0 h1_0k h1_0c h0 h0_0 (u.2.2.1) h0_2 h0_0 h0_0k (u.2.2.2))) (va_A (wd_c_X4_readSum_3 h1 h1_0 h1_f1 h1_f2 h1_f3 h1_0 h1_0k h1_0c h0 h0_0 h0_f1 h0_2 h0_0 h0_0k h0_0c) sz)) 0 0 (va_A (wd_c_X4_readSum_3 h1 h1_0 h1_f1 h1_f2 h1_f3 h1_0 h1_0k h1_0c h0 h0_0 h0_f1 h0_2 h0_0 h0_0k h0_0c) sz) := by
  refine Met.ofW (cc := cX4_readSum) (maxL := 6) (ret := none) (by decide +kernel) rfl ?_
  intro p e s m args below meth c s₁ B hml hv
  obtain ⟨rfl, hsz, hP, hK, hD0, hE_32, hE_10, hE_34, hE_33, hE_35, hE_36⟩ := hv
  have hx := B.exec
  have hb := B.bytes
  have hr := B.returns
  have hts := atoms_spec (ws := wf_c_X4_readSum_3) B.pre
  have hown : s.vm.findClass RX4 = some m.cls := findClass_of_methodNamed B.named
  have hlocks := B.notSynchronized
  subst hsz
  have hD := hD0.self (sz := s.heap.size)
  generalize hAe : va_A (wd_c_X4_readSum_3 h1 h1_0 h1_f1 h1_f2 h1_f3 h1_0 h1_0k h1_0c h0 h0_0 h0_f1 h0_2 h0_0 h0_0k h0_0c) s.heap.size = A at hD hE_10 hE_34 hE_33 hE_35 hE_36 ⊢
  have hA : ∀ q : Nat, s.heap.size ≤ q → A q := fun q h => by rw [← hAe]; exact Or.inr h
  have hP : va_P (dC, dI) vwCl (wd_c_X4_readSum_3 h1 h1_0 h1_f1 h1_f2 h1_f3 h1_0 h1_0k h1_0c h0 h0_0 h0_f1 h0_2 h0_0 h0_0k h0_0c) s.heap := hP
  have hl := lv_entry ([.ref h0, .ref h1, .int 3]) (n := 6) (Nat.le_of_ble_eq_true rfl)
  rw [lg_entry_eq]
  generalize (lg_sl ([.ref h0, .ref h1, .int 3]) ++ List.replicate (6 - (lg_sl ([.ref h0, .ref h1, .int 3])).length) Slot.unset).toArray = ls at hl ⊢
  have hl : lv_has ls 6 [(0, .ref h0), (1, .ref h1), (2, .int 3)] := hl
  obtain ⟨H, hHe⟩ : ∃ H : Heap, s.heap = H := ⟨_, rfl⟩
  have hS : va_S A s.heap H [] := by rw [hHe]; exact va_S.rf
  have hP : va_P (dC, dI) vwCl (wd_c_X4_readSum_3 h1 h1_0 h1_f1 h1_f2 h1_f3 h1_0 h1_0k h1_0c h0 h0_0 h0_f1 h0_2 h0_0 h0_0k h0_0c) H := by rw [← hHe]; exact hP
  rw [hHe]
  refine wj (fun G hG hU => ?_)
  as_aux_lemma =>
  have J8 : ∀ (n8 : Nat) (j8_l5 : Int32) (j8_l4 : Int32) (j8_l3 : Int32) (j8_h1_f2 : Int32) (j8_h1_f3 : Int32) (j8_h0_f1 : Int32) (j8_h0_0c : Nat → Int32) (hM8 : MU j8_l5 < n8) (g_h0_f1 : RG h0_f1 0 240) (g_h1_f1 : RG h1_f1 0 240) (g_h1_f2 : RG h1_f2 0 240) (g_h1_f3 : RG h1_f3 (-1) 240) (g_j8_h0_f1 : RG j8_h0_f1 0 240) (g_j8_h1_f2 : RG j8_h1_f2 0 240) (g_j8_h1_f3 : RG j8_h1_f3 (-1) 240) (g_j8_l3 : RG j8_l3 0 60) (g_j8_l4 : RG j8_l4 0 60) (g_j8_l5 : RG j8_l5 0 240) (H : Heap) (locs : List Loc) (ls : Array Slot) (hP : va_P (dC, dI) vwCl (wd_c_X4_readSum_3 h1 h1_0 h1_f1 j8_h1_f2 j8_h1_f3 h1_0 h1_0k h1_0c h0 h0_0 j8_h0_f1 h0_2 h0_0 h0_0k j8_h0_0c) H) (hD : va_D A (wd_c_X4_readSum_3 h1 h1_0 h1_f1 j8_h1_f2 j8_h1_f3 h1_0 h1_0k h1_0c h0 h0_0 j8_h0_f1 h0_2 h0_0 h0_0k j8_h0_0c)) (hS : va_S A s.heap H locs) (hl : lv_has ls 6 [(5, .int j8_l5), (4, .int j8_l4), (3, .int j8_l3), (0, .ref h0), (1, .ref h1), (2, .int 3)]), G H locs (F0 m 8 ls []) := by
    as_aux_lemma =>
    intro n8
    induction n8 with
    | zero => intros; exact absurd (by assumption) (Nat.not_lt_zero _)
    | succ n8 ih8 =>
      intro j8_l5 j8_l4 j8_l3 j8_h1_f2 j8_h1_f3 j8_h0_f1 j8_h0_0c hM8 g_h0_f1 g_h1_f1 g_h1_f2 g_h1_f3 g_j8_h0_f1 g_j8_h1_f2 g_j8_h1_f3 g_j8_l3 g_j8_l4 g_j8_l5 H locs ls hP hD hS hl
      have J80 : ∀ (j80_l3 : Int32) (j80_l4 : Int32) (j80_h1_f2 : Int32) (j80_h1_f3 : Int32) (j80_h0_f1 : Int32) (j80_h0_0c : Nat → Int32) (g_h0_f1 : RG h0_f1 0 240) (g_h1_f1 : RG h1_f1 1 240) (g_h1_f2 : RG h1_f2 0 240) (g_h1_f3 : RG h1_f3 (-1) 240) (g_j80_h0_f1 : RG j80_h0_f1 0 240) (g_j80_h1_f2 : RG j80_h1_f2 1 240) (g_j80_h1_f3 : RG j80_h1_f3 (-1) (-1)) (g_j80_l3 : RG j80_l3 0 60) (g_j80_l4 : RG j80_l4 0 60) (g_j8_h0_f1 : RG j8_h0_f1 0 240) (g_j8_h1_f2 : RG j8_h1_f2 0 240) (g_j8_h1_f3 : RG j8_h1_f3 (-1) (-1)) (g_j8_l3 : RG j8_l3 0 60) (g_j8_l4 : RG j8_l4 0 60) (g_j8_l5 : RG j8_l5 0 239) (H : Heap) (locs : List Loc) (ls : Array Slot) (hP : va_P (dC, dI) vwCl (wd_c_X4_readSum_3 h1 h1_0 h1_f1 j80_h1_f2 j80_h1_f3 h1_0 h1_0k h1_0c h0 h0_0 j80_h0_f1 h0_2 h0_0 h0_0k j80_h0_0c) H) (hD : va_D A (wd_c_X4_readSum_3 h1 h1_0 h1_f1 j80_h1_f2 j80_h1_f3 h1_0 h1_0k h1_0c h0 h0_0 j80_h0_f1 h0_2 h0_0 h0_0k j80_h0_0c)) (hS : va_S A s.heap H locs) (hl : lv_has ls 6 [(3, .int j80_l3), (5, .int j8_l5), (4, .int j80_l4), (0, .ref h0), (1, .ref h1), (2, .int 3)]), G H locs (F0 m 80 ls []) := by
        as_aux_lemma =>
        intro j80_l3 j80_l4 j80_h1_f2 j80_h1_f3 j80_h0_f1 j80_h0_0c g_h0_f1 g_h1_f1 g_h1_f2 g_h1_f3 g_j80_h0_f1 g_j80_h1_f2 g_j80_h1_f3 g_j80_l3 g_j80_l4 g_j8_h0_f1 g_j8_h1_f2 g_j8_h1_f3 g_j8_l3 g_j8_l4 g_j8_l5 H locs ls hP hD hS hl
        refine hG _ _ _ ?_
        obtain ⟨x_1, ex_1⟩ : ∃ y : Int32, y = j8_l5 + 1 := ⟨_, rfl⟩
        have g_2 : RG x_1 1 240 := RG_add ex_1 g_j8_l5 (RG_k 1 1 rfl) (by decide +kernel)
        refine lv_iinc (v := x_1) (lv' := [(5, .int x_1), (3, .int j80_l3), (4, .int j80_l4), (0, .ref h0), (1, .ref h1), (2, .int 3)]) hx hb dX4_readSum_80 hl (k := 1) rfl (by rw [ex_1]; rfl) (Nat.le_of_ble_eq_true rfl) rfl (fun ls hl => ?_)
        refine lv_goto (tgt := 8) hx hb dX4_readSum_83 rfl ?_
        exact hU _ _ _ (ih8 x_1 j80_l4 j80_l3 j80_h1_f2 j80_h1_f3 j80_h0_f1 j80_h0_0c (mu_s (MU_add ex_1 g_j8_l5 (q := 1) rfl (by decide +kernel)) hM8) g_h0_f1 (RG_w g_h1_f1 (by decide +kernel)) g_h1_f2 g_h1_f3 g_j80_h0_f1 (RG_w g_j80_h1_f2 (by decide +kernel)) (RG_w g_j80_h1_f3 (by decide +kernel)) g_j80_l3 g_j80_l4 (RG_w g_2 (by decide +kernel)) _ _ _ hP hD hS (lv_sub hl [0, 2, 1, 3, 4, 5] rfl))
      have J64 : ∀ (j64_l3 : Int32) (j64_h1_f2 : Int32) (j64_h1_f3 : Int32) (j64_h0_f1 : Int32) (j64_h0_0c : Nat → Int32) (g_h0_f1 : RG h0_f1 0 240) (g_h1_f1 : RG h1_f1 0 240) (g_h1_f2 : RG h1_f2 0 240) (g_h1_f3 : RG h1_f3 (-1) 240) (g_j64_h0_f1 : RG j64_h0_f1 0 240) (g_j64_h1_f2 : RG j64_h1_f2 0 240) (g_j64_h1_f3 : RG j64_h1_f3 (-1) 240) (g_j64_l3 : RG j64_l3 0 0) (g_j8_h0_f1 : RG j8_h0_f1 0 240) (g_j8_h1_f2 : RG j8_h1_f2 0 240) (g_j8_h1_f3 : RG j8_h1_f3 (-1) (-1)) (g_j8_l3 : RG j8_l3 0 60) (g_j8_l4 : RG j8_l4 0 60) (g_j8_l5 : RG j8_l5 0 239) (H : Heap) (locs : List Loc) (ls : Array Slot) (hP : va_P (dC, dI) vwCl (wd_c_X4_readSum_3 h1 h1_0 h1_f1 j64_h1_f2 j64_h1_f3 h1_0 h1_0k h1_0c h0 h0_0 j64_h0_f1 h0_2 h0_0 h0_0k j64_h0_0c) H) (hD : va_D A (wd_c_X4_readSum_3 h1 h1_0 h1_f1 j64_h1_f2 j64_h1_f3 h1_0 h1_0k h1_0c h0 h0_0 j64_h0_f1 h0_2 h0_0 h0_0k j64_h0_0c)) (hS : va_S A s.heap H locs) (hl : lv_has ls 6 [(3, .int j64_l3), (5, .int j8_l5), (0, .ref h0), (1, .ref h1), (2, .int 3)]), G H locs (F0 m 64 ls []) := by
        as_aux_lemma =>
        intro j64_l3 j64_h1_f2 j64_h1_f3 j64_h0_f1 j64_h0_0c g_h0_f1 g_h1_f1 g_h1_f2 g_h1_f3 g_j64_h0_f1 g_j64_h1_f2 g_j64_h1_f3 g_j64_l3 g_j8_h0_f1 g_j8_h1_f2 g_j8_h1_f3 g_j8_l3 g_j8_l4 g_j8_l5 H locs ls hP hD hS hl
        refine hG _ _ _ ?_
        refine lv_aload_n hx hb dX4_readSum_64 rfl (lv_at hl 3 rfl) ?_
        refine lv_bipush (v := 43) hx hb dX4_readSum_65 kc_bipush_43 ?_
        refine lv_bipush (v := 45) hx hb dX4_readSum_67 kc_bipush_45 ?_
        obtain ⟨hPc, hDc, hFc, hqc⟩ := cl_cut (wc := (wd_c_X9_takeEither h1 h1_0 h1_f1 j64_h1_f2 j64_h1_f3 h1_0 h1_0k h1_0c)) hP hD hS hA [0, 1] (by decide +kernel) rfl
        have hKc := hK.sub (tys' := [(h1_0k, .int)]) [0] rfl
        have hrv := va_recv hKc hPc (ci := 9) (q0 := 0) rfl rfl
        refine va_calli (va_runV (As := [.int 43, .int 45]) (rest := []) ⟨hx, hb, hml, hown, hts⟩ (c_X9_takeEither l dC dI H.size h1 43 45 h1_0 h1_f1 j64_h1_f2 j64_h1_f3 h1_0k h1_0c (RG_w (RG_k 43 43 rfl) (by decide +kernel)) (RG_w (RG_k 45 45 rfl) (by decide +kernel)) g_h1_f1 g_j64_h1_f2 g_j64_h1_f3 a_h1_0c) (cwV 2 hts gf_c_X4_readSum_3_c_X9_takeEither rfl rfl rfl mdV_X9_takeEither ⟨Nat.le_of_ble_eq_true rfl, Nat.le_of_ble_eq_true rfl⟩) ⟨fun a U g mk q => by obtain ⟨q0, q1, qP, qK, qD⟩ := q; exact ⟨q0, q1, qP, va_K.moved (u := U) (U := U.calling g mk a) (Vm.Alike.refl U.vm) qK, qD⟩, hrv, fun U hU hW => ⟨rfl, by rw [hU], by rw [hU]; exact hPc, va_K.moved hW.alike hKc, hDc.weaken (fun _ _ _ _ => trivial)⟩⟩ rfl rfl hl.1 rfl (lv_room (Nat.le_of_ble_eq_true rfl)) dX4_readSum_69 ⟨Nat.le_of_ble_eq_true rfl, Nat.le_of_ble_eq_true rfl⟩) hS (fun q _ h => hFc q h) hFc (fun r_3 x_4 t H1 locs ht hvm hw hB hz1 hk1 hS => ?_)
        obtain ⟨hP1, hK1, hD1⟩ := hB
        rw [ht] at hP1
        obtain ⟨hP, hD⟩ := cl_put (w1 := (wd_c_X9_takeEither h1 h1_0 h1_f1 x_4 j64_h1_f3 h1_0 h1_0k h1_0c)) (nw := (wd_c_X4_readSum_3 h1 h1_0 h1_f1 x_4 j64_h1_f3 h1_0 h1_0k h1_0c h0 h0_0 j64_h0_f1 h0_2 h0_0 h0_0k j64_h0_0c)) hP hD [0, 1] [4, 5, 2, 3] 4 rfl hqc (by decide +kernel) rfl hk1 hFc hP1 hD1
        generalize H1 = H at hP hS ⊢
        as_aux_lemma =>
        rcases hw with ⟨h_5, h_6, h_7⟩ | ⟨h_8, h_9, h_10, h_11, h_12⟩
        · rw [h_5]
          refine lv_istore (lv' := [(4, .int 0), (3, .int j64_l3), (5, .int j8_l5), (0, .ref h0), (1, .ref h1), (2, .int 3)]) hx hb dX4_readSum_72 hl (Nat.le_of_ble_eq_true rfl) rfl (fun ls hl => ?_)
          refine lv_iload hx hb dX4_readSum_74 (lv_at hl 0 rfl) ?_
          refine lv_if_ne (tgt := 80) hx hb dX4_readSum_76 rfl (fun c_13 => absurd c_13 (by decide +kernel)) (fun c_13 => ?_)
          have hK9 := hK.sub (tys' := []) [] rfl
          exact W.vret hx hb hr (fun t ht hW => ⟨⟨(x_4, j64_h1_f3, j64_h0_f1, j64_h0_0c), rfl, ⟨h_6, g_j64_h1_f3, g_j64_h0_f1⟩, by rw [ht]; exact hP, va_K.moved hW.alike hK9, hD⟩, hS.F ht⟩) hS.2.2 dX4_readSum_79
        · refine lv_istore (lv' := [(4, .int r_3), (3, .int j64_l3), (5, .int j8_l5), (0, .ref h0), (1, .ref h1), (2, .int 3)]) hx hb dX4_readSum_72 hl (Nat.le_of_ble_eq_true rfl) rfl (fun ls hl => ?_)
          refine lv_iload hx hb dX4_readSum_74 (lv_at hl 0 rfl) ?_
          refine lv_if_ne (tgt := 80) hx hb dX4_readSum_76 rfl (fun c_14 => ?_) (fun c_14 => ?_)
          · have g_15 : RG r_3 1 60 := RG_ne1 h_8 (q := 0) rfl c_14 (by decide +kernel)
            exact hU _ _ _ (J80 j64_l3 r_3 x_4 j64_h1_f3 j64_h0_f1 j64_h0_0c g_h0_f1 h_10 g_h1_f2 g_h1_f3 g_j64_h0_f1 h_9 h_11 (RG_w g_j64_l3 (by decide +kernel)) (RG_w g_15 (by decide +kernel)) g_j8_h0_f1 g_j8_h1_f2 g_j8_h1_f3 g_j8_l3 g_j8_l4 g_j8_l5 _ _ _ hP hD hS (lv_sub hl [1, 2, 0, 3, 4, 5] rfl))
          · have g_16 : RG r_3 0 0 := RG_eq1 h_8 (RG_k 0 0 rfl) c_14 (by decide +kernel)
            have hK9 := hK.sub (tys' := []) [] rfl
            exact W.vret hx hb hr (fun t ht hW => ⟨⟨(x_4, j64_h1_f3, j64_h0_f1, j64_h0_0c), rfl, ⟨(RG_w h_9 (by decide +kernel)), (RG_w h_11 (by decide +kernel)), g_j64_h0_f1⟩, by rw [ht]; exact hP, va_K.moved hW.alike hK9, hD⟩, hS.F ht⟩) hS.2.2 dX4_readSum_79
      have J39 : ∀ (j39_h1_f2 : Int32) (j39_h1_f3 : Int32) (j39_h0_f1 : Int32) (j39_h0_0c : Nat → Int32) (g_h0_f1 : RG h0_f1 0 240) (g_h1_f1 : RG h1_f1 0 240) (g_h1_f2 : RG h1_f2 0 240) (g_h1_f3 : RG h1_f3 (-1) 240) (g_j39_h0_f1 : RG j39_h0_f1 0 240) (g_j39_h1_f2 : RG j39_h1_f2 0 240) (g_j39_h1_f3 : RG j39_h1_f3 (-1) 240) (g_j8_h0_f1 : RG j8_h0_f1 0 240) (g_j8_h1_f2 : RG j8_h1_f2 0 240) (g_j8_h1_f3 : RG j8_h1_f3 (-1) (-1)) (g_j8_l3 : RG j8_l3 0 60) (g_j8_l4 : RG j8_l4 0 60) (g_j8_l5 : RG j8_l5 0 239) (H : Heap) (locs : List Loc) (ls : Array Slot) (hP : va_P (dC, dI) vwCl (wd_c_X4_readSum_3 h1 h1_0 h1_f1 j39_h1_f2 j39_h1_f3 h1_0 h1_0k h1_0c h0 h0_0 j39_h0_f1 h0_2 h0_0 h0_0k j39_h0_0c) H) (hD : va_D A (wd_c_X4_readSum_3 h1 h1_0 h1_f1 j39_h1_f2 j39_h1_f3 h1_0 h1_0k h1_0c h0 h0_0 j39_h0_f1 h0_2 h0_0 h0_0k j39_h0_0c)) (hS : va_S A s.heap H locs) (hl : lv_has ls 6 [(5, .int j8_l5), (4, .int j8_l4), (0, .ref h0), (1, .ref h1), (2, .int 3)]), G H locs (F0 m 39 ls []) := by
        as_aux_lemma =>
        intro j39_h1_f2 j39_h1_f3 j39_h0_f1 j39_h0_0c g_h0_f1 g_h1_f1 g_h1_f2 g_h1_f3 g_j39_h0_f1 g_j39_h1_f2 g_j39_h1_f3 g_j8_h0_f1 g_j8_h1_f2 g_j8_h1_f3 g_j8_l3 g_j8_l4 g_j8_l5 H locs ls hP hD hS hl
        refine hG _ _ _ ?_
        refine lv_aload_n hx hb dX4_readSum_39 rfl (lv_at hl 3 rfl) ?_
        refine lv_bipush (v := 42) hx hb dX4_readSum_40 kc_bipush_42 ?_
        refine lv_bipush (v := 47) hx hb dX4_readSum_42 kc_bipush_47 ?_
        obtain ⟨hPc, hDc, hFc, hqc⟩ := cl_cut (wc := (wd_c_X9_takeEither h1 h1_0 h1_f1 j39_h1_f2 j39_h1_f3 h1_0 h1_0k h1_0c)) hP hD hS hA [0, 1] (by decide +kernel) rfl
        have hKc := hK.sub (tys' := [(h1_0k, .int)]) [0] rfl
        have hrv := va_recv hKc hPc (ci := 9) (q0 := 0) rfl rfl
        refine va_calli (va_runV (As := [.int 42, .int 47]) (rest := []) ⟨hx, hb, hml, hown, hts⟩ (c_X9_takeEither l dC dI H.size h1 42 47 h1_0 h1_f1 j39_h1_f2 j39_h1_f3 h1_0k h1_0c (RG_w (RG_k 42 42 rfl) (by decide +kernel)) (RG_w (RG_k 47 47 rfl) (by decide +kernel)) g_h1_f1 g_j39_h1_f2 g_j39_h1_f3 a_h1_0c) (cwV 2 hts gf_c_X4_readSum_3_c_X9_takeEither rfl rfl rfl mdV_X9_takeEither ⟨Nat.le_of_ble_eq_true rfl, Nat.le_of_ble_eq_true rfl⟩) ⟨fun a U g mk q => by obtain ⟨q0, q1, qP, qK, qD⟩ := q; exact ⟨q0, q1, qP, va_K.moved (u := U) (U := U.calling g mk a) (Vm.Alike.refl U.vm) qK, qD⟩, hrv, fun U hU hW => ⟨rfl, by rw [hU], by rw [hU]; exact hPc, va_K.moved hW.alike hKc, hDc.weaken (fun _ _ _ _ => trivial)⟩⟩ rfl rfl hl.1 rfl (lv_room (Nat.le_of_ble_eq_true rfl)) dX4_readSum_44 ⟨Nat.le_of_ble_eq_true rfl, Nat.le_of_ble_eq_true rfl⟩) hS (fun q _ h => hFc q h) hFc (fun r_17 x_18 t H1 locs ht hvm hw hB hz1 hk1 hS => ?_)
        obtain ⟨hP1, hK1, hD1⟩ := hB
        rw [ht] at hP1
        obtain ⟨hP, hD⟩ := cl_put (w1 := (wd_c_X9_takeEither h1 h1_0 h1_f1 x_18 j39_h1_f3 h1_0 h1_0k h1_0c)) (nw := (wd_c_X4_readSum_3 h1 h1_0 h1_f1 x_18 j39_h1_f3 h1_0 h1_0k h1_0c h0 h0_0 j39_h0_f1 h0_2 h0_0 h0_0k j39_h0_0c)) hP hD [0, 1] [4, 5, 2, 3] 4 rfl hqc (by decide +kernel) rfl hk1 hFc hP1 hD1
        generalize H1 = H at hP hS ⊢
        as_aux_lemma =>
        rcases hw with ⟨h_19, h_20, h_21⟩ | ⟨h_22, h_23, h_24, h_25, h_26⟩
        · rw [h_19]
          refine lv_istore_n (lv' := [(3, .int 0), (5, .int j8_l5), (4, .int j8_l4), (0, .ref h0), (1, .ref h1), (2, .int 3)]) hx hb dX4_readSum_47 rfl hl (Nat.le_of_ble_eq_true rfl) rfl (fun ls hl => ?_)
          refine lv_iload_n hx hb dX4_readSum_48 rfl (lv_at hl 0 rfl) ?_
          refine lv_if_ne (tgt := 80) hx hb dX4_readSum_49 rfl (fun c_27 => absurd c_27 (by decide +kernel)) (fun c_27 => ?_)
          refine lv_iload hx hb dX4_readSum_52 (lv_at hl 2 rfl) ?_
          refine lv_if_eq (tgt := 64) hx hb dX4_readSum_54 rfl (fun c_28 => ?_) (fun c_28 => ?_)
          · have g_29 : RG j8_l4 0 0 := RG_eq1 g_j8_l4 (RG_k 0 0 rfl) c_28 (by decide +kernel)
            exact hU _ _ _ (J64 0 x_18 j39_h1_f3 j39_h0_f1 j39_h0_0c g_h0_f1 g_h1_f1 g_h1_f2 g_h1_f3 g_j39_h0_f1 h_20 g_j39_h1_f3 (RG_k 0 0 rfl) g_j8_h0_f1 g_j8_h1_f2 g_j8_h1_f3 g_j8_l3 (RG_w g_29 (by decide +kernel)) g_j8_l5 _ _ _ hP hD hS (lv_sub hl [0, 1, 3, 4, 5] rfl))
          · have g_30 : RG j8_l4 1 60 := RG_ne1 g_j8_l4 (q := 0) rfl c_28 (by decide +kernel)
            refine lv_aload_n hx hb dX4_readSum_57 rfl (lv_at hl 3 rfl) ?_
            refine lv_iload hx hb dX4_readSum_58 (lv_at hl 2 rfl) ?_
            refine lv_ineg hx hb dX4_readSum_60 ?_
            refine lv_topi (fun x_31 ex_31 => ?_)
            as_aux_lemma =>
            have g_32 : RG x_31 (-60) (-1) := RG_neg ex_31 g_30 (by decide +kernel)
            obtain ⟨hPc, hDc, hFc, hqc⟩ := cl_cut (wc := (wd_c_X4_emit h0 h0_0 j39_h0_f1 h0_2 h0_0 h0_0k j39_h0_0c)) hP hD hS hA [2, 3] (by decide +kernel) rfl
            have hKc := hK.sub (tys' := [(h0_0k, .int)]) [1] rfl
            have hrv := va_recv hKc hPc (ci := 4) (q0 := 0) rfl rfl
            refine va_callv (va_runV (As := [.int x_31]) (rest := []) ⟨hx, hb, hml, hown, hts⟩ (c_X4_emit l dC dI H.size h0 x_31 h0_0 j39_h0_f1 h0_2 h0_0k j39_h0_0c g_j39_h0_f1) (cwV 1 hts gf_c_X4_readSum_3_c_X4_emit rfl rfl rfl mdV_X4_emit ⟨Nat.le_of_ble_eq_true rfl, Nat.le_of_ble_eq_true rfl⟩) ⟨fun a U g mk q => by obtain ⟨q0, q1, qP, qK, qD⟩ := q; exact ⟨q0, q1, qP, va_K.moved (u := U) (U := U.calling g mk a) (Vm.Alike.refl U.vm) qK, qD⟩, hrv, fun U hU hW => ⟨rfl, by rw [hU], by rw [hU]; exact hPc, va_K.moved hW.alike hKc, hDc.weaken (fun _ _ _ _ => trivial)⟩⟩ rfl rfl hl.1 rfl (lv_room (Nat.le_of_ble_eq_true rfl)) dX4_readSum_61 ⟨Nat.le_of_ble_eq_true rfl, Nat.le_of_ble_eq_true rfl⟩) hS (fun q _ h => hFc q h) hFc (fun u t H1 locs ht hvm hw hB hz1 hk1 hS => ?_)
            obtain ⟨x_34, w_35⟩ := u
            obtain ⟨hP1, hK1, hD1⟩ := hB
            rw [ht] at hP1
            obtain ⟨hP, hD⟩ := cl_put (w1 := (wd_c_X4_emit h0 h0_0 x_34 h0_2 h0_0 h0_0k w_35)) (nw := (wd_c_X4_readSum_3 h1 h1_0 h1_f1 x_18 j39_h1_f3 h1_0 h1_0k h1_0c h0 h0_0 x_34 h0_2 h0_0 h0_0k w_35)) hP hD [2, 3] [0, 1, 4, 5] 4 rfl hqc (by decide +kernel) rfl hk1 hFc hP1 hD1
            generalize H1 = H at hP hS ⊢
            as_aux_lemma =>
            have h_36 := hw
            exact hU _ _ _ (J64 0 x_18 j39_h1_f3 x_34 w_35 g_h0_f1 g_h1_f1 g_h1_f2 g_h1_f3 (RG_w h_36 (by decide +kernel)) h_20 g_j39_h1_f3 (RG_k 0 0 rfl) g_j8_h0_f1 g_j8_h1_f2 g_j8_h1_f3 g_j8_l3 (RG_w g_30 (by decide +kernel)) g_j8_l5 _ _ _ hP hD hS (lv_sub hl [0, 1, 3, 4, 5] rfl))
        · refine lv_istore_n (lv' := [(3, .int r_17), (5, .int j8_l5), (4, .int j8_l4), (0, .ref h0), (1, .ref h1), (2, .int 3)]) hx hb dX4_readSum_47 rfl hl (Nat.le_of_ble_eq_true rfl) rfl (fun ls hl => ?_)
          refine lv_iload_n hx hb dX4_readSum_48 rfl (lv_at hl 0 rfl) ?_
          refine lv_if_ne (tgt := 80) hx hb dX4_readSum_49 rfl (fun c_37 => ?_) (fun c_37 => ?_)
          · have g_38 : RG r_17 1 60 := RG_ne1 h_22 (q := 0) rfl c_37 (by decide +kernel)
            exact hU _ _ _ (J80 r_17 j8_l4 x_18 j39_h1_f3 j39_h0_f1 j39_h0_0c g_h0_f1 h_24 g_h1_f2 g_h1_f3 g_j39_h0_f1 h_23 h_25 (RG_w g_38 (by decide +kernel)) g_j8_l4 g_j8_h0_f1 g_j8_h1_f2 g_j8_h1_f3 g_j8_l3 g_j8_l4 g_j8_l5 _ _ _ hP hD hS (lv_sub hl [0, 1, 2, 3, 4, 5] rfl))
          · have g_39 : RG r_17 0 0 := RG_eq1 h_22 (RG_k 0 0 rfl) c_37 (by decide +kernel)
            refine lv_iload hx hb dX4_readSum_52 (lv_at hl 2 rfl) ?_
            refine lv_if_eq (tgt := 64) hx hb dX4_readSum_54 rfl (fun c_40 => ?_) (fun c_40 => ?_)
            · have g_41 : RG j8_l4 0 0 := RG_eq1 g_j8_l4 (RG_k 0 0 rfl) c_40 (by decide +kernel)
              exact hU _ _ _ (J64 r_17 x_18 j39_h1_f3 j39_h0_f1 j39_h0_0c g_h0_f1 (RG_w h_24 (by decide +kernel)) g_h1_f2 g_h1_f3 g_j39_h0_f1 (RG_w h_23 (by decide +kernel)) (RG_w h_25 (by decide +kernel)) g_39 g_j8_h0_f1 g_j8_h1_f2 g_j8_h1_f3 g_j8_l3 (RG_w g_41 (by decide +kernel)) g_j8_l5 _ _ _ hP hD hS (lv_sub hl [0, 1, 3, 4, 5] rfl))
            · have g_42 : RG j8_l4 1 60 := RG_ne1 g_j8_l4 (q := 0) rfl c_40 (by decide +kernel)
              refine lv_aload_n hx hb dX4_readSum_57 rfl (lv_at hl 3 rfl) ?_
              as_aux_lemma =>
              refine lv_iload hx hb dX4_readSum_58 (lv_at hl 2 rfl) ?_
              refine lv_ineg hx hb dX4_readSum_60 ?_
              refine lv_topi (fun x_43 ex_43 => ?_)
              have g_44 : RG x_43 (-60) (-1) := RG_neg ex_43 g_42 (by decide +kernel)
              obtain ⟨hPc, hDc, hFc, hqc⟩ := cl_cut (wc := (wd_c_X4_emit h0 h0_0 j39_h0_f1 h0_2 h0_0 h0_0k j39_h0_0c)) hP hD hS hA [2, 3] (by decide +kernel) rfl
              have hKc := hK.sub (tys' := [(h0_0k, .int)]) [1] rfl
              have hrv := va_recv hKc hPc (ci := 4) (q0 := 0) rfl rfl
              refine va_callv (va_runV (As := [.int x_43]) (rest := []) ⟨hx, hb, hml, hown, hts⟩ (c_X4_emit l dC dI H.size h0 x_43 h0_0 j39_h0_f1 h0_2 h0_0k j39_h0_0c g_j39_h0_f1) (cwV 1 hts gf_c_X4_readSum_3_c_X4_emit rfl rfl rfl mdV_X4_emit ⟨Nat.le_of_ble_eq_true rfl, Nat.le_of_ble_eq_true rfl⟩) ⟨fun a U g mk q => by obtain ⟨q0, q1, qP, qK, qD⟩ := q; exact ⟨q0, q1, qP, va_K.moved (u := U) (U := U.calling g mk a) (Vm.Alike.refl U.vm) qK, qD⟩, hrv, fun U hU hW => ⟨rfl, by rw [hU], by rw [hU]; exact hPc, va_K.moved hW.alike hKc, hDc.weaken (fun _ _ _ _ => trivial)⟩⟩ rfl rfl hl.1 rfl (lv_room (Nat.le_of_ble_eq_true rfl)) dX4_readSum_61 ⟨Nat.le_of_ble_eq_true rfl, Nat.le_of_ble_eq_true rfl⟩) hS (fun q _ h => hFc q h) hFc (fun u t H1 locs ht hvm hw hB hz1 hk1 hS => ?_)
              obtain ⟨x_46, w_47⟩ := u
              obtain ⟨hP1, hK1, hD1⟩ := hB
              rw [ht] at hP1
              obtain ⟨hP, hD⟩ := cl_put (w1 := (wd_c_X4_emit h0 h0_0 x_46 h0_2 h0_0 h0_0k w_47)) (nw := (wd_c_X4_readSum_3 h1 h1_0 h1_f1 x_18 j39_h1_f3 h1_0 h1_0k h1_0c h0 h0_0 x_46 h0_2 h0_0 h0_0k w_47)) hP hD [2, 3] [0, 1, 4, 5] 4 rfl hqc (by decide +kernel) rfl hk1 hFc hP1 hD1
              generalize H1 = H at hP hS ⊢
              as_aux_lemma =>
              have h_48 := hw
              exact hU _ _ _ (J64 r_17 x_18 j39_h1_f3 x_46 w_47 g_h0_f1 (RG_w h_24 (by decide +kernel)) g_h1_f2 g_h1_f3 (RG_w h_48 (by decide +kernel)) (RG_w h_23 (by decide +kernel)) (RG_w h_25 (by decide +kernel)) g_39 g_j8_h0_f1 g_j8_h1_f2 g_j8_h1_f3 g_j8_l3 (RG_w g_42 (by decide +kernel)) g_j8_l5 _ _ _ hP hD hS (lv_sub hl [0, 1, 3, 4, 5] rfl))
      refine hG _ _ _ ?_
      refine lv_iload hx hb dX4_readSum_8 (lv_at hl 0 rfl) ?_
      refine lv_sipush (v := 240) hx hb dX4_readSum_10 kc_sipush_240 ?_
      refine lv_icmp_ge (tgt := 86) hx hb dX4_readSum_13 rfl (fun c_49 => ?_) (fun c_49 => ?_)
      · have g_50 : RG j8_l5 240 240 := RG_le2 (RG_k 240 240 rfl) g_j8_l5 c_49 (by decide +kernel)
        have hK9 := hK.sub (tys' := []) [] rfl
        exact W.vret hx hb hr (fun t ht hW => ⟨⟨(j8_h1_f2, j8_h1_f3, j8_h0_f1, j8_h0_0c), rfl, ⟨g_j8_h1_f2, g_j8_h1_f3, g_j8_h0_f1⟩, by rw [ht]; exact hP, va_K.moved hW.alike hK9, hD⟩, hS.F ht⟩) hS.2.2 dX4_readSum_86
      · have d_51 := Int32.not_le.mp c_49
        have g_52 : RG j8_l5 0 239 := RG_lt1 g_j8_l5 (RG_k 240 240 rfl) d_51 (by decide +kernel)
        refine lv_aload_n hx hb dX4_readSum_16 rfl (lv_at hl 4 rfl) ?_
        obtain ⟨hPc, hDc, hFc, hqc⟩ := cl_cut (wc := (wd_c_X9_isRight h1 h1_0 h1_f1 j8_h1_f2 j8_h1_f3)) hP hD hS hA [0] (by decide +kernel) rfl
        have hKc := hK.sub (tys' := []) [] rfl
        have hrv := va_recv hKc hPc (ci := 9) (q0 := 0) rfl rfl
        refine va_calli (va_runV (As := []) (rest := []) ⟨hx, hb, hml, hown, hts⟩ (c_X9_isRight l dC dI H.size h1 h1_0 h1_f1 j8_h1_f2 j8_h1_f3 g_h1_f1 g_j8_h1_f2 g_j8_h1_f3) (cwV 0 hts gf_c_X4_readSum_3_c_X9_isRight rfl rfl rfl mdV_X9_isRight ⟨Nat.le_of_ble_eq_true rfl, Nat.le_of_ble_eq_true rfl⟩) ⟨fun a U g mk q => by obtain ⟨q0, q1, qP, qK, qD⟩ := q; exact ⟨q0, q1, qP, va_K.moved (u := U) (U := U.calling g mk a) (Vm.Alike.refl U.vm) qK, qD⟩, hrv, fun U hU hW => ⟨rfl, by rw [hU], by rw [hU]; exact hPc, va_K.moved hW.alike hKc, hDc.weaken (fun _ _ _ _ => trivial)⟩⟩ rfl rfl hl.1 rfl (lv_room (Nat.le_of_ble_eq_true rfl)) dX4_readSum_17 ⟨Nat.le_of_ble_eq_true rfl, Nat.le_of_ble_eq_true rfl⟩) hS (fun q _ h => hFc q h) hFc (fun r_53 u t H1 locs ht hvm hw hB hz1 hk1 hS => ?_)
        as_aux_lemma =>
        obtain ⟨hP1, hK1, hD1⟩ := hB
        rw [ht] at hP1
        obtain ⟨hP, hD⟩ := cl_put (w1 := (wd_c_X9_isRight h1 h1_0 h1_f1 j8_h1_f2 j8_h1_f3)) (nw := (wd_c_X4_readSum_3 h1 h1_0 h1_f1 j8_h1_f2 j8_h1_f3 h1_0 h1_0k h1_0c h0 h0_0 j8_h0_f1 h0_2 h0_0 h0_0k j8_h0_0c)) hP hD [0] [4, 1, 2, 3] 4 rfl hqc (by decide +kernel) rfl hk1 hFc hP1 hD1
        generalize H1 = H at hP hS ⊢
        as_aux_lemma =>
        rcases hw with ⟨h_54, h_55⟩ | ⟨h_56, h_57⟩
        · rw [h_54]
          refine lv_if_eq (tgt := 86) hx hb dX4_readSum_20 rfl (fun c_58 => ?_) (fun c_58 => absurd c_58 (by decide +kernel))
          have hK9 := hK.sub (tys' := []) [] rfl
          exact W.vret hx hb hr (fun t ht hW => ⟨⟨(j8_h1_f2, j8_h1_f3, j8_h0_f1, j8_h0_0c), rfl, ⟨g_j8_h1_f2, (RG_w h_55 (by decide +kernel)), g_j8_h0_f1⟩, by rw [ht]; exact hP, va_K.moved hW.alike hK9, hD⟩, hS.F ht⟩) hS.2.2 dX4_readSum_86
        · rw [h_56]
          refine lv_if_eq (tgt := 86) hx hb dX4_readSum_20 rfl (fun c_59 => absurd c_59 (by decide +kernel)) (fun c_59 => ?_)
          refine lv_aload_n hx hb dX4_readSum_23 rfl (lv_at hl 3 rfl) ?_
          refine lv_aload_n hx hb dX4_readSum_24 rfl (lv_at hl 4 rfl) ?_
          refine lv_iload_n hx hb dX4_readSum_25 rfl (lv_at hl 5 rfl) ?_
          obtain ⟨hPc, hDc, hFc, hqc⟩ := cl_cut (wc := (wd_c_X4_readAtom_3 h1 h1_0 h1_f1 j8_h1_f2 j8_h1_f3 h1_0 h1_0k h1_0c h0 h0_0 j8_h0_f1 h0_2 h0_0 h0_0k j8_h0_0c)) hP hD hS hA [0, 1, 2, 3] (by decide +kernel) rfl
          have hKc := hK.sub (tys' := [(h1_0k, .int), (h0_0k, .int)]) [0, 1] rfl
          have hrv := va_recv hKc hPc (ci := 4) (q0 := 2) rfl rfl
          refine va_callv (va_runV (As := [.ref h1, .int 3]) (rest := []) ⟨hx, hb, hml, hown, hts⟩ (c_X4_readAtom_3 l dC dI H.size h0 h1 h1_0 h1_f1 j8_h1_f2 j8_h1_f3 h1_0k h1_0c h0_0 j8_h0_f1 h0_2 h0_0k j8_h0_0c ts4 tv4 g_h1_f1 g_j8_h1_f2 (RG_w h_57 (by decide +kernel)) a_h1_0c g_j8_h0_f1) (cwV 2 hts gf_c_X4_readSum_3_c_X4_readAtom_3 rfl rfl rfl mdV_X4_readAtom ⟨Nat.le_of_ble_eq_true rfl, Nat.le_of_ble_eq_true rfl⟩) ⟨fun a U g mk q => by obtain ⟨q0, q1, qP, qK, qD, qE0, qE1, qE2, qE3, qE4, qE5⟩ := q; exact ⟨q0, q1, qP, va_K.moved (u := U) (U := U.calling g mk a) (Vm.Alike.refl U.vm) qK, qD, vk_R.same rfl qE0, va_Z.moved (u := U) (U := U.calling g mk a) (Vm.Alike.refl U.vm) qE1, va_OF.moved (u := U) (U := U.calling g mk a) (Vm.Alike.refl U.vm) qE2, va_O.moved (u := U) (U := U.calling g mk a) (Vm.Alike.refl U.vm) qE3, va_OF.moved (u := U) (U := U.calling g mk a) (Vm.Alike.refl U.vm) qE4, va_T.moved (u := U) (U := U.calling g mk a) (Vm.Alike.refl U.vm) qE5⟩, hrv, fun U hU hW => ⟨rfl, by rw [hU], by rw [hU]; exact hPc, va_K.moved hW.alike hKc, hDc.weaken (fun _ _ _ _ => trivial), vk_R.warm hW hE_32, va_Z.moved hW.alike (by rw [hU]; exact (hE_10.kept hS.2.1).narrow hFc), va_OF.moved hW.alike (by rw [hU]; exact (hE_34.kept hS.2.1).narrow hFc), va_O.moved hW.alike (by rw [hU]; exact (hE_33.kept hS.2.1).narrow hFc), va_OF.moved hW.alike (by rw [hU]; exact (hE_35.kept hS.2.1).narrow hFc), va_T.moved hW.alike (by rw [hU]; exact (hE_36.kept hS.2.1).narrow hFc)⟩⟩ rfl rfl hl.1 rfl (lv_room (Nat.le_of_ble_eq_true rfl)) dX4_readSum_26 ⟨Nat.le_of_ble_eq_true rfl, Nat.le_of_ble_eq_true rfl⟩) hS (fun q _ h => hFc q h) hFc (fun u t H1 locs ht hvm hw hB hz1 hk1 hS => ?_)
          as_aux_lemma =>
          obtain ⟨x_61, x_62, x_63, w_64⟩ := u
          obtain ⟨hP1, hK1, hD1⟩ := hB
          rw [ht] at hP1
          obtain ⟨hP, hD⟩ := cl_put (w1 := (wd_c_X4_readAtom_3 h1 h1_0 h1_f1 x_61 x_62 h1_0 h1_0k h1_0c h0 h0_0 x_63 h0_2 h0_0 h0_0k w_64)) (nw := (wd_c_X4_readSum_3 h1 h1_0 h1_f1 x_61 x_62 h1_0 h1_0k h1_0c h0 h0_0 x_63 h0_2 h0_0 h0_0k w_64)) hP hD [0, 1, 2, 3] [4, 5, 6, 7] 4 rfl hqc (by decide +kernel) rfl hk1 hFc hP1 hD1
          generalize H1 = H at hP hS ⊢
          as_aux_lemma =>
          rcases hw with ⟨h_65, h_66, h_67⟩
          refine lv_iload_n hx hb dX4_readSum_29 rfl (lv_at hl 2 rfl) ?_
          refine lv_if_eq (tgt := 39) hx hb dX4_readSum_30 rfl (fun c_68 => ?_) (fun c_68 => ?_)
          · have g_69 : RG j8_l3 0 0 := RG_eq1 g_j8_l3 (RG_k 0 0 rfl) c_68 (by decide +kernel)
            exact hU _ _ _ (J39 x_61 x_62 x_63 w_64 g_h0_f1 g_h1_f1 g_h1_f2 g_h1_f3 h_67 h_65 h_66 g_j8_h0_f1 g_j8_h1_f2 h_57 (RG_w g_69 (by decide +kernel)) g_j8_l4 g_52 _ _ _ hP hD hS (lv_sub hl [0, 1, 3, 4, 5] rfl))
          · have g_70 : RG j8_l3 1 60 := RG_ne1 g_j8_l3 (q := 0) rfl c_68 (by decide +kernel)
            refine lv_aload_n hx hb dX4_readSum_33 rfl (lv_at hl 3 rfl) ?_
            refine lv_iload_n hx hb dX4_readSum_34 rfl (lv_at hl 2 rfl) ?_
            refine lv_ineg hx hb dX4_readSum_35 ?_
            refine lv_topi (fun x_71 ex_71 => ?_)
            have g_72 : RG x_71 (-60) (-1) := RG_neg ex_71 g_70 (by decide +kernel)
            obtain ⟨hPc, hDc, hFc, hqc⟩ := cl_cut (wc := (wd_c_X4_emit h0 h0_0 x_63 h0_2 h0_0 h0_0k w_64)) hP hD hS hA [2, 3] (by decide +kernel) rfl
            have hKc := hK.sub (tys' := [(h0_0k, .int)]) [1] rfl
            have hrv := va_recv hKc hPc (ci := 4) (q0 := 0) rfl rfl
            refine va_callv (va_runV (As := [.int x_71]) (rest := []) ⟨hx, hb, hml, hown, hts⟩ (c_X4_emit l dC dI H.size h0 x_71 h0_0 x_63 h0_2 h0_0k w_64 h_67) (cwV 1 hts gf_c_X4_readSum_3_c_X4_emit rfl rfl rfl mdV_X4_emit ⟨Nat.le_of_ble_eq_true rfl, Nat.le_of_ble_eq_true rfl⟩) ⟨fun a U g mk q => by obtain ⟨q0, q1, qP, qK, qD⟩ := q; exact ⟨q0, q1, qP, va_K.moved (u := U) (U := U.calling g mk a) (Vm.Alike.refl U.vm) qK, qD⟩, hrv, fun U hU hW => ⟨rfl, by rw [hU], by rw [hU]; exact hPc, va_K.moved hW.alike hKc, hDc.weaken (fun _ _ _ _ => trivial)⟩⟩ rfl rfl hl.1 rfl (lv_room (Nat.le_of_ble_eq_true rfl)) dX4_readSum_36 ⟨Nat.le_of_ble_eq_true rfl, Nat.le_of_ble_eq_true rfl⟩) hS (fun q _ h => hFc q h) hFc (fun u t H1 locs ht hvm hw hB hz1 hk1 hS => ?_)
            as_aux_lemma =>
            obtain ⟨x_74, w_75⟩ := u
            obtain ⟨hP1, hK1, hD1⟩ := hB
            rw [ht] at hP1
            obtain ⟨hP, hD⟩ := cl_put (w1 := (wd_c_X4_emit h0 h0_0 x_74 h0_2 h0_0 h0_0k w_75)) (nw := (wd_c_X4_readSum_3 h1 h1_0 h1_f1 x_61 x_62 h1_0 h1_0k h1_0c h0 h0_0 x_74 h0_2 h0_0 h0_0k w_75)) hP hD [2, 3] [0, 1, 4, 5] 4 rfl hqc (by decide +kernel) rfl hk1 hFc hP1 hD1
            generalize H1 = H at hP hS ⊢
            as_aux_lemma =>
            have h_76 := hw
            exact hU _ _ _ (J39 x_61 x_62 x_74 w_75 g_h0_f1 g_h1_f1 g_h1_f2 g_h1_f3 (RG_w h_76 (by decide +kernel)) h_65 h_66 g_j8_h0_f1 g_j8_h1_f2 h_57 (RG_w g_70 (by decide +kernel)) g_j8_l4 g_52 _ _ _ hP hD hS (lv_sub hl [0, 1, 3, 4, 5] rfl))
  refine hG _ _ _ ?_
  refine lv_iconst (v := 0) hx hb dX4_readSum_0 kc_iconst_0 ?_
  refine lv_istore_n (lv' := [(3, .int 0), (0, .ref h0), (1, .ref h1), (2, .int 3)]) hx hb dX4_readSum_1 rfl hl (Nat.le_of_ble_eq_true rfl) rfl (fun ls hl => ?_)
  refine lv_iconst (v := 0) hx hb dX4_readSum_2 kc_iconst_0 ?_
  refine lv_istore (lv' := [(4, .int 0), (3, .int 0), (0, .ref h0), (1, .ref h1), (2, .int 3)]) hx hb dX4_readSum_3 hl (Nat.le_of_ble_eq_true rfl) rfl (fun ls hl => ?_)
  refine lv_iconst (v := 0) hx hb dX4_readSum_5 kc_iconst_0 ?_
  refine lv_istore (lv' := [(5, .int 0), (4, .int 0), (3, .int 0), (0, .ref h0), (1, .ref h1), (2, .int 3)]) hx hb dX4_readSum_6 hl (Nat.le_of_ble_eq_true rfl) rfl (fun ls hl => ?_)
  exact hU _ _ _ (J8 _ 0 0 0 h1_f2 h1_f3 h0_f1 h0_0c (Nat.lt_succ_self _) g_h0_f1 g_h1_f1 g_h1_f2 g_h1_f3 g_h0_f1 g_h1_f2 g_h1_f3 (RG_w (RG_k 0 0 rfl) (by decide +kernel)) (RG_w (RG_k 0 0 rfl) (by decide +kernel)) (RG_w (RG_k 0 0 rfl) (by decide +kernel)) _ _ _ hP hD hS (lv_sub hl [0, 1, 2, 3, 4, 5] rfl))
noncomputable def wd_c_X4_readAtom_2 (a0 : Nat) (a1 : Nat) (a2 : Int32) (a3 : Int32) (a4 : Int32) (a5 : Nat) (a6 : ClassId) (a7 : Nat → Int32) (a8 : Nat) (a9 : Nat) (a10 : Int32) (a11 : Nat) (a12 : Nat) (a13 : ClassId) (a14 : Nat → Int32) : va_W := [(a0, .inr (9, [.ref a1, .int a2, .int a3, .int a4])), (a5, .inl (a6, 240, .inl a7)), (a8, .inr (4, [.ref a9, .int a10, .ref a11])), (a12, .inl (a13, 240, .inl a14))]
noncomputable def wf_c_X4_readAtom_2 : List Cond := List.cons (.code yX4_readAtom cX4_readAtom 6 none) (@HAppend.hAppend (List Cond) (List Cond) (List Cond) _ (@HAppend.hAppend (List Cond) (List Cond) (List Cond) _ [.methodLink RX4 41 yX9_peek, .instanceMethod yX9_peek, .selects RX9 yX9_peek yX9_peek, .initialized RX9, .code yX9_peek cX9_peek 1 (some .int), .fieldLink RX9 22 "BuoyVote$Tape" "at" "I", .fieldLink RX9 19 "BuoyVote$Tape" "length" "I", .fieldLink RX9 11 "BuoyVote$Tape" "bytes" "[I", .methodLink RX4 93 yJ0_indexOf_0f7a4, .instanceMethod yJ0_indexOf_0f7a4, .selects RJ0 yJ0_indexOf_0f7a4 yJ0_indexOf_0f7a4, .initialized RJ0, .code yJ0_indexOf_0f7a4 cJ0_indexOf_0f7a4 2 (some .int), .methodLink RJ0 633 yJ0_indexOf_7cf53, .instanceMethod yJ0_indexOf_7cf53, .selects RJ0 yJ0_indexOf_7cf53 yJ0_indexOf_7cf53, .code yJ0_indexOf_7cf53 cJ0_indexOf_7cf53 3 (some .int), .methodLink RJ0 492 yJ0_isLatin1_aae02, .instanceMethod yJ0_isLatin1_aae02, .selects RJ0 yJ0_isLatin1_aae02 yJ0_isLatin1_aae02, .code yJ0_isLatin1_aae02 cJ0_isLatin1_aae02 1 (some .boolean), .fieldLink RJ0 38 "java/lang/String" "COMPACT_STRINGS" "Z", .fieldLink RJ0 15 "java/lang/String" "coder" "B", .fieldLink RJ0 9 "java/lang/String" "value" "[B", .methodLink RJ0 505 yJ0_length_8abf5, .instanceMethod yJ0_length_8abf5, .selects RJ0 yJ0_length_8abf5 yJ0_length_8abf5, .code yJ0_length_8abf5 cJ0_length_8abf5 1 (some .int), .methodLink RJ0 335 yJ0_coder_7d493, .instanceMethod yJ0_coder_7d493, .selects RJ0 yJ0_coder_7d493 yJ0_coder_7d493, .code yJ0_coder_7d493 cJ0_coder_7d493 1 (some .byte), .methodLink RJ0 637 yJ1_indexOf_4cfef, .static yJ1_indexOf_4cfef, .initialized RJ1, .code yJ1_indexOf_4cfef cJ1_indexOf_4cfef 4 (some .int), .methodLink RJ1 88 yJ1_canEncode_9a6ad, .static yJ1_canEncode_9a6ad, .code yJ1_canEncode_9a6ad cJ1_canEncode_9a6ad 1 (some .boolean), .methodLink RJ1 92 Lib.Math.max.name, .static Lib.Math.max.name, .initialized "java/lang/Math", .code Lib.Math.max.name Lib.Math.max.code 2 (some .int), .methodLink RJ1 38 Lib.Math.min.name, .static Lib.Math.min.name, .code Lib.Math.min.name Lib.Math.min.code 2 (some .int), .methodLink RJ1 95 yJ1_indexOfChar_4cfef, .static yJ1_indexOfChar_4cfef, .code yJ1_indexOfChar_4cfef cJ1_indexOfChar_4cfef 6 (some .int), .methodLink RX4 99 yX9_number, .instanceMethod yX9_number, .selects RX9 yX9_number yX9_number, .code yX9_number cX9_number 4 (some .int), .methodLink RX4 82 yX9_refuseHere, .instanceMethod yX9_refuseHere, .selects RX9 yX9_refuseHere yX9_refuseHere, .code yX9_refuseHere cX9_refuseHere 1 none, .methodLink RX9 25 yX9_refuse, .instanceMethod yX9_refuse, .selects RX9 yX9_refuse yX9_refuse, .code yX9_refuse cX9_refuse 2 none, .fieldLink RX9 15 "BuoyVote$Tape" "wrong" "I", .methodLink RX4 79 yX9_skip, .instanceMethod yX9_skip, .selects RX9 yX9_skip yX9_skip, .code yX9_skip cX9_skip 1 none, .methodLink RX4 49 yX4_readSum, .instanceMethod yX4_readSum, .selects RX4 yX4_readSum yX4_readSum, .initialized RX4, .code yX4_readSum cX4_readSum 6 none, .methodLink RX4 72 yX9_isRight, .instanceMethod yX9_isRight, .selects RX9 yX9_isRight yX9_isRight, .code yX9_isRight cX9_isRight 1 (some .boolean), .methodLink RX4 85 yX4_readAtom, .instanceMethod yX4_readAtom, .selects RX4 yX4_readAtom yX4_readAtom, .methodLink RX4 60 yX4_emit, .instanceMethod yX4_emit, .selects RX4 yX4_emit yX4_emit, .code yX4_emit cX4_emit 2 none, .fieldLink RX4 20 "BuoyVote$Law" "length" "I", .fieldLink RX4 11 "BuoyVote$Law" "code" "[I", .methodLink RX4 88 yX9_takeEither, .instanceMethod yX9_takeEither, .selects RX9 yX9_takeEither yX9_takeEither, .code yX9_takeEither cX9_takeEither 4 (some .int), .methodLink RX9 29 yX9_peek, .methodLink RX4 37 yX9_expect, .instanceMethod yX9_expect, .selects RX9 yX9_expect yX9_expect, .code yX9_expect cX9_expect 2 none] wsX90) wsX40)
theorem iw_c_X4_readAtom_2_X9 : ∀ w ∈ wsX90, w ∈ wf_c_X4_readAtom_2 := fun w h => List.mem_cons_of_mem _ (List.mem_append_left _ (List.mem_append_right _ h))
theorem iw_c_X4_readAtom_2_X4 : ∀ w ∈ wsX40, w ∈ wf_c_X4_readAtom_2 := fun w h => List.mem_cons_of_mem _ (List.mem_append_right _ h)
set_option maxRecDepth 20000 in
theorem gf_c_X4_readAtom_2_c_X4_emit_1 : GoodIn wf_c_X4_readAtom_2 (wsV RX4 60 RX4 yX4_emit wf_c_X4_emit_1) := goodIn_app (gi_l [79, 80, 81, 70] rfl rfl) (gi_cons (j := 82) rfl rfl (goodIn_app (gi_l [83, 84] rfl rfl) (goodIn_sub iw_c_X4_readAtom_2_X4 gw_X4)))
set_option maxRecDepth 20000 in
theorem gf_c_X4_readAtom_2_c_X9_number_1 : GoodIn wf_c_X4_readAtom_2 (wsV RX4 99 RX9 yX9_number wf_c_X9_number_1) := goodIn_app (gi_l [50, 51, 52, 4] rfl rfl) (gi_cons (j := 53) rfl rfl (goodIn_app (gi_l [6, 7, 8] rfl rfl) (goodIn_sub iw_c_X4_readAtom_2_X9 gw_X9)))
set_option maxRecDepth 20000 in
theorem gf_c_X4_readAtom_2_c_X9_refuseHere : GoodIn wf_c_X4_readAtom_2 (wsV RX4 82 RX9 yX9_refuseHere wf_c_X9_refuseHere) := goodIn_app (gi_l [54, 55, 56, 4] rfl rfl) (gi_cons (j := 57) rfl rfl (goodIn_app (gi_l [6, 58, 59, 60, 4, 61, 62] rfl rfl) (goodIn_sub iw_c_X4_readAtom_2_X9 gw_X9)))
set_option maxRecDepth 20000 in
theorem gf_c_X4_readAtom_2_c_X9_skip : GoodIn wf_c_X4_readAtom_2 (wsV RX4 79 RX9 yX9_skip wf_c_X9_skip) := goodIn_app (gi_l [63, 64, 65, 4] rfl rfl) (gi_cons (j := 66) rfl rfl (goodIn_app (gi_l [6] rfl rfl) (goodIn_sub iw_c_X4_readAtom_2_X9 gw_X9)))
set_option maxRecDepth 20000 in
theorem gf_c_X4_readAtom_2_c_X4_readSum_3 : GoodIn wf_c_X4_readAtom_2 (wsV RX4 49 RX4 yX4_readSum wf_c_X4_readSum_3) := goodIn_app (gi_l [67, 68, 69, 70] rfl rfl) (gi_cons (j := 71) rfl rfl (goodIn_app (goodIn_app (gi_l [72, 73, 74, 4, 75, 62, 76, 77, 78, 70, 0, 1, 2, 3, 5, 6, 7, 8, 9, 10, 11, 12, 13, 14, 15, 16, 17, 18, 19, 20, 21, 22, 23, 24, 25, 26, 27, 28, 29, 30, 31, 32, 33, 34, 35, 36, 37, 38, 39, 40, 41, 42, 43, 44, 45, 46, 47, 48, 49, 50, 51, 52, 53, 54, 55, 56, 57, 58, 59, 60, 61, 63, 64, 65, 66, 67, 68, 69, 79, 80, 81, 82, 83, 84, 85, 86, 87, 88, 89, 90, 91, 92, 93] rfl rfl) (goodIn_sub iw_c_X4_readAtom_2_X9 gw_X9)) (goodIn_sub iw_c_X4_readAtom_2_X4 gw_X4)))
set_option maxRecDepth 20000 in
theorem gf_c_X4_readAtom_2_c_X9_expect_2 : GoodIn wf_c_X4_readAtom_2 (wsV RX4 37 RX9 yX9_expect wf_c_X9_expect_2) := goodIn_app (gi_l [90, 91, 92, 4] rfl rfl) (gi_cons (j := 93) rfl rfl (goodIn_app (gi_l [62, 89, 2, 3, 4, 5, 6, 7, 8, 58, 59, 60, 61] rfl rfl) (goodIn_sub iw_c_X4_readAtom_2_X9 gw_X9)))
set_option maxRecDepth 20000 in
theorem gf_c_X4_readAtom_2_c_X4_emit : GoodIn wf_c_X4_readAtom_2 (wsV RX4 60 RX4 yX4_emit wf_c_X4_emit) := goodIn_app (gi_l [79, 80, 81, 70] rfl rfl) (gi_cons (j := 82) rfl rfl (goodIn_app (gi_l [83, 84] rfl rfl) (goodIn_sub iw_c_X4_readAtom_2_X4 gw_X4)))
set_option maxRecDepth 20000 in
theorem gf_c_X4_readAtom_2_c_X9_peek : GoodIn wf_c_X4_readAtom_2 (wsV RX4 41 RX9 yX9_peek wf_c_X9_peek) := goodIn_app (gi_l [1, 2, 3, 4] rfl rfl) (gi_cons (j := 5) rfl rfl (goodIn_app (gi_l [6, 7, 8] rfl rfl) (goodIn_sub iw_c_X4_readAtom_2_X9 gw_X9)))
set_option maxRecDepth 20000 in
theorem gf_c_X4_readAtom_2_c_J0_indexOf_0f7a4_4 : GoodIn wf_c_X4_readAtom_2 (wsV RX4 93 RJ0 yJ0_indexOf_0f7a4 wf_c_J0_indexOf_0f7a4_4) := goodIn_app (gi_l [9, 10, 11, 12] rfl rfl) (gi_cons (j := 13) rfl rfl (gi_l [14, 15, 16, 12, 17, 18, 19, 20, 21, 22, 23, 24, 25, 26, 27, 28, 29, 30, 31, 32, 33, 34, 35, 36, 37, 38, 39, 40, 41, 42, 43, 44, 45, 46, 47, 48, 49] rfl rfl))
set_option maxHeartbeats 4000000 in
set_option maxRecDepth 100000 in
theorem c_X4_readAtom_2 (l : Launch) (dC : Nat → ClassId) (dI : Nat → Nat → Nat) (sz : Nat) (h0 : Nat) (h1 : Nat) (h1_0 : Nat) (h1_f1 : Int32) (h1_f2 : Int32) (h1_f3 : Int32) (h1_0k : ClassId) (h1_0c : Nat → Int32) (h0_0 : Nat) (h0_f1 : Int32) (h0_2 : Nat) (h0_0k : ClassId) (h0_0c : Nat → Int32) (ts4 : Nat) (tv4 : Nat) (g_h1_f1 : RG h1_f1 0 240) (g_h1_f2 : RG h1_f2 0 240) (g_h1_f3 : RG h1_f3 (-1) 240) (a_h1_0c : AI h1_0c 0 255) (g_h0_f1 : RG h0_f1 0 240) : Met l yX4_readAtom wf_c_X4_readAtom_2 ({ frames := 12, cells := 0, slots := 0, locals := 291 }) (va_Pc [.ref h0, .ref h1, .int 2] (fun U => U.heap.size = sz ∧ va_P (dC, dI) vwCl (wd_c_X4_readAtom_2 h1 h1_0 h1_f1 h1_f2 h1_f3 h1_0 h1_0k h1_0c h0 h0_0 h0_f1 h0_2 h0_0 h0_0k h0_0c) U.heap ∧ va_K (dC, dI) vwCl [(h1_0k, .int), (h0_0k, .int)] U ∧ va_D (fun _ => True) (wd_c_X4_readAtom_2 h1 h1_0 h1_f1 h1_f2 h1_f3 h1_0 h1_0k h1_0c h0 h0_0 h0_f1 h0_2 h0_0 h0_0k h0_0c) ∧ vk_R RX4 91 "vlrdph" ts4 U ∧ va_Z "java/lang/String" "COMPACT_STRINGS" "Z" (.int 1) (va_A (wd_c_X4_readAtom_2 h1 h1_0 h1_f1 h1_f2 h1_f3 h1_0 h1_0k h1_0c h0 h0_0 h0_f1 h0_2 h0_0 h0_0k h0_0c) sz) U U.heap ∧ va_OF "java/lang/String" "coder" "B" (.int 0) ts4 (va_A (wd_c_X4_readAtom_2 h1 h1_0 h1_f1 h1_f2 h1_f3 h1_0 h1_0k h1_0c h0 h0_0 h0_f1 h0_2 h0_0 h0_0k h0_0c) sz) U U.heap ∧ va_O "java/lang/String" ts4 (va_A (wd_c_X4_readAtom_2 h1 h1_0 h1_f1 h1_f2 h1_f3 h1_0 h1_0k h1_0c h0 h0_0 h0_f1 h0_2 h0_0 h0_0k h0_0c) sz) U U.heap ∧ va_OF "java/lang/String" "value" "[B" (.ref tv4) ts4 (va_A (wd_c_X4_readAtom_2 h1 h1_0 h1_f1 h1_f2 h1_f3 h1_0 h1_0k h1_0c h0 h0_0 h0_f1 h0_2 h0_0 h0_0k h0_0c) sz) U U.heap ∧ va_T .byte tv4 6 (fun j => .int ([118, 108, 114, 100, 112, 104].getD j 0)) (va_A (wd_c_X4_readAtom_2 h1 h1_0 h1_f1 h1_f2 h1_f3 h1_0 h1_0k h1_0c h0 h0_0 h0_f1 h0_2 h0_0 h0_0k h0_0c) sz) U U.heap)) (va_Qv (fun (u : (Int32) × (Int32) × (Int32) × (Nat → Int32)) => (RG u.1 0 240 ∧ RG u.2.1 (-1) 240 ∧ RG u.2.2.1 0 240)) (fun (u : (Int32) × (Int32) × (Int32) × (Nat → Int32)) t => va_P (dC, dI) vwCl (wd_c_X4_readAtom_2 h1 h1_0 h1_f1 (u.1) (u.2.1) h1_0 h1_0k h1_0c h0 h0_0 (u.2.2.1) h0_2 h0_0 h0_0k (u.2.2.2)) t.heap ∧ va_K (dC, dI) vwCl [] t ∧ va_D (va_A (wd_c_X4_readAtom_2 h1 h1_0 h1_f1 h1_f2 h1_f3 h1_0 h1_0k h1_0c h0 h0_0 h0_f1 h0_2 h0_0 h0_0k h0_0c) sz) (wd_c_X4_readAtom_2 h1 h1_0 h1_f1 (u.1) (u.2.1) h1_0 h1_0k h1_0c h0 h0_0 (u.2.2.1) h0_2 h0_0 h0_0k (u.2.2.2))) (va_A (wd_c_X4_readAtom_2 h1 h1_0 h1_f1 h1_f2 h1_f3 h1_0 h1_0k h1_0c h0 h0_0 h0_f1 h0_2 h0_0 h0_0k h0_0c) sz)) 0 0 (va_A (wd_c_X4_readAtom_2 h1 h1_0 h1_f1 h1_f2 h1_f3 h1_0 h1_0k h1_0c h0 h0_0 h0_f1 h0_2 h0_0 h0_0k h0_0c) sz) := by
  refine Met.ofW (cc := cX4_readAtom) (maxL := 6) (ret := none) (by decide +kernel) rfl ?_
  intro p e s m args below meth c s₁ B hml hv
  obtain ⟨rfl, hsz, hP, hK, hD0, hE_32, hE_10, hE_34, hE_33, hE_35, hE_36⟩ := hv
  have hx := B.exec
  have hb := B.bytes
  have hr := B.returns
  have hts := atoms_spec (ws := wf_c_X4_readAtom_2) B.pre
  have hown : s.vm.findClass RX4 = some m.cls := findClass_of_methodNamed B.named
  have hlocks := B.notSynchronized
  subst hsz
  have hD := hD0.self (sz := s.heap.size)
  generalize hAe : va_A (wd_c_X4_readAtom_2 h1 h1_0 h1_f1 h1_f2 h1_f3 h1_0 h1_0k h1_0c h0 h0_0 h0_f1 h0_2 h0_0 h0_0k h0_0c) s.heap.size = A at hD hE_10 hE_34 hE_33 hE_35 hE_36 ⊢
  have hA : ∀ q : Nat, s.heap.size ≤ q → A q := fun q h => by rw [← hAe]; exact Or.inr h
  have hP : va_P (dC, dI) vwCl (wd_c_X4_readAtom_2 h1 h1_0 h1_f1 h1_f2 h1_f3 h1_0 h1_0k h1_0c h0 h0_0 h0_f1 h0_2 h0_0 h0_0k h0_0c) s.heap := hP
  have hl := lv_entry ([.ref h0, .ref h1, .int 2]) (n := 6) (Nat.le_of_ble_eq_true rfl)
  rw [lg_entry_eq]
  generalize (lg_sl ([.ref h0, .ref h1, .int 2]) ++ List.replicate (6 - (lg_sl ([.ref h0, .ref h1, .int 2])).length) Slot.unset).toArray = ls at hl ⊢
  have hl : lv_has ls 6 [(0, .ref h0), (1, .ref h1), (2, .int 2)] := hl
  obtain ⟨H, hHe⟩ : ∃ H : Heap, s.heap = H := ⟨_, rfl⟩
  have hS : va_S A s.heap H [] := by rw [hHe]; exact va_S.rf
  have hP : va_P (dC, dI) vwCl (wd_c_X4_readAtom_2 h1 h1_0 h1_f1 h1_f2 h1_f3 h1_0 h1_0k h1_0c h0 h0_0 h0_f1 h0_2 h0_0 h0_0k h0_0c) H := by rw [← hHe]; exact hP
  rw [hHe]
  refine wj (fun G hG hU => ?_)
  as_aux_lemma =>
  have J65 : ∀ (j65_l5 : Int32) (j65_h1_f2 : Int32) (j65_h1_f3 : Int32) (g_h0_f1 : RG h0_f1 0 240) (g_h1_f1 : RG h1_f1 0 240) (g_h1_f2 : RG h1_f2 0 240) (g_h1_f3 : RG h1_f3 (-1) 240) (g_j65_h1_f2 : RG j65_h1_f2 0 240) (g_j65_h1_f3 : RG j65_h1_f3 (-1) 240) (g_j65_l5 : RG j65_l5 (-1) 9999) (H : Heap) (locs : List Loc) (ls : Array Slot) (hP : va_P (dC, dI) vwCl (wd_c_X4_readAtom_2 h1 h1_0 h1_f1 j65_h1_f2 j65_h1_f3 h1_0 h1_0k h1_0c h0 h0_0 h0_f1 h0_2 h0_0 h0_0k h0_0c) H) (hD : va_D A (wd_c_X4_readAtom_2 h1 h1_0 h1_f1 j65_h1_f2 j65_h1_f3 h1_0 h1_0k h1_0c h0 h0_0 h0_f1 h0_2 h0_0 h0_0k h0_0c)) (hS : va_S A s.heap H locs) (hl : lv_has ls 6 [(5, .int j65_l5), (0, .ref h0)]), G H locs (F0 m 65 ls []) := by
    as_aux_lemma =>
    intro j65_l5 j65_h1_f2 j65_h1_f3 g_h0_f1 g_h1_f1 g_h1_f2 g_h1_f3 g_j65_h1_f2 g_j65_h1_f3 g_j65_l5 H locs ls hP hD hS hl
    refine hG _ _ _ ?_
    refine lv_aload_n hx hb dX4_readAtom_65 rfl (lv_at hl 1 rfl) ?_
    refine lv_iload hx hb dX4_readAtom_66 (lv_at hl 0 rfl) ?_
    obtain ⟨hPc, hDc, hFc, hqc⟩ := cl_cut (wc := (wd_c_X4_emit_1 h0 h0_0 h0_f1 h0_2 h0_0 h0_0k h0_0c)) hP hD hS hA [2, 3] (by decide +kernel) rfl
    have hKc := hK.sub (tys' := [(h0_0k, .int)]) [1] rfl
    have hrv := va_recv hKc hPc (ci := 4) (q0 := 0) rfl rfl
    refine va_callv (va_runV (As := [.int j65_l5]) (rest := []) ⟨hx, hb, hml, hown, hts⟩ (c_X4_emit_1 l dC dI H.size h0 j65_l5 h0_0 h0_f1 h0_2 h0_0k h0_0c (RG_w g_j65_l5 (by decide +kernel)) g_h0_f1) (cwV 1 hts gf_c_X4_readAtom_2_c_X4_emit_1 rfl rfl rfl mdV_X4_emit ⟨Nat.le_of_ble_eq_true rfl, Nat.le_of_ble_eq_true rfl⟩) ⟨fun a U g mk q => by obtain ⟨q0, q1, qP, qK, qD⟩ := q; exact ⟨q0, q1, qP, va_K.moved (u := U) (U := U.calling g mk a) (Vm.Alike.refl U.vm) qK, qD⟩, hrv, fun U hU hW => ⟨rfl, by rw [hU], by rw [hU]; exact hPc, va_K.moved hW.alike hKc, hDc.weaken (fun _ _ _ _ => trivial)⟩⟩ rfl rfl hl.1 rfl (lv_room (Nat.le_of_ble_eq_true rfl)) dX4_readAtom_68 ⟨Nat.le_of_ble_eq_true rfl, Nat.le_of_ble_eq_true rfl⟩) hS (fun q _ h => hFc q h) hFc (fun u t H1 locs ht hvm hw hB hz1 hk1 hS => ?_)
    obtain ⟨x_2, w_3⟩ := u
    obtain ⟨hP1, hK1, hD1⟩ := hB
    rw [ht] at hP1
    obtain ⟨hP, hD⟩ := cl_put (w1 := (wd_c_X4_emit_1 h0 h0_0 x_2 h0_2 h0_0 h0_0k w_3)) (nw := (wd_c_X4_readAtom_2 h1 h1_0 h1_f1 j65_h1_f2 j65_h1_f3 h1_0 h1_0k h1_0c h0 h0_0 x_2 h0_2 h0_0 h0_0k w_3)) hP hD [2, 3] [0, 1, 4, 5] 4 rfl hqc (by decide +kernel) rfl hk1 hFc hP1 hD1
    generalize H1 = H at hP hS ⊢
    as_aux_lemma =>
    have h_4 := hw
    refine lv_goto (tgt := 105) hx hb dX4_readAtom_71 rfl ?_
    have hK9 := hK.sub (tys' := []) [] rfl
    exact W.vret hx hb hr (fun t ht hW => ⟨⟨(j65_h1_f2, j65_h1_f3, x_2, w_3), rfl, ⟨g_j65_h1_f2, g_j65_h1_f3, (RG_w h_4 (by decide +kernel))⟩, by rw [ht]; exact hP, va_K.moved hW.alike hK9, hD⟩, hS.F ht⟩) hS.2.2 dX4_readAtom_105
  have J20 : ∀ (j20_h1_f2 : Int32) (g_h0_f1 : RG h0_f1 0 240) (g_h1_f1 : RG h1_f1 0 240) (g_h1_f2 : RG h1_f2 0 240) (g_h1_f3 : RG h1_f3 (-1) 240) (g_j20_h1_f2 : RG j20_h1_f2 0 240) (H : Heap) (locs : List Loc) (ls : Array Slot) (hP : va_P (dC, dI) vwCl (wd_c_X4_readAtom_2 h1 h1_0 h1_f1 j20_h1_f2 h1_f3 h1_0 h1_0k h1_0c h0 h0_0 h0_f1 h0_2 h0_0 h0_0k h0_0c) H) (hD : va_D A (wd_c_X4_readAtom_2 h1 h1_0 h1_f1 j20_h1_f2 h1_f3 h1_0 h1_0k h1_0c h0 h0_0 h0_f1 h0_2 h0_0 h0_0k h0_0c)) (hS : va_S A s.heap H locs) (hl : lv_has ls 6 [(3, .int (-1)), (0, .ref h0), (1, .ref h1), (2, .int 2)]), G H locs (F0 m 20 ls [.int (-1)]) := by
    as_aux_lemma =>
    intro j20_h1_f2 g_h0_f1 g_h1_f1 g_h1_f2 g_h1_f3 g_j20_h1_f2 H locs ls hP hD hS hl
    refine hG _ _ _ ?_
    refine lv_istore (lv' := [(4, .int (-1)), (3, .int (-1)), (0, .ref h0), (1, .ref h1), (2, .int 2)]) hx hb dX4_readAtom_20 hl (Nat.le_of_ble_eq_true rfl) rfl (fun ls hl => ?_)
    refine lv_iload hx hb dX4_readAtom_22 (lv_at hl 0 rfl) ?_
    refine lv_if_lt (tgt := 42) hx hb dX4_readAtom_24 rfl (fun c_5 => ?_) (fun c_5 => absurd c_5 (by decide +kernel))
    refine lv_iload_n hx hb dX4_readAtom_42 rfl (lv_at hl 1 rfl) ?_
    refine lv_bipush (v := 91) hx hb dX4_readAtom_43 kc_bipush_91 ?_
    refine lv_icmp_eq (tgt := 74) hx hb dX4_readAtom_45 rfl (fun c_6 => absurd c_6 (by decide +kernel)) (fun c_6 => ?_)
    refine lv_aload_n hx hb dX4_readAtom_48 rfl (lv_at hl 3 rfl) ?_
    refine lv_iconst (v := 4) hx hb dX4_readAtom_49 kc_iconst_4 ?_
    obtain ⟨hPc, hDc, hFc, hqc⟩ := cl_cut (wc := (wd_c_X9_number_1 h1 h1_0 h1_f1 j20_h1_f2 h1_f3 h1_0 h1_0k h1_0c)) hP hD hS hA [0, 1] (by decide +kernel) rfl
    have hKc := hK.sub (tys' := [(h1_0k, .int)]) [0] rfl
    have hrv := va_recv hKc hPc (ci := 9) (q0 := 0) rfl rfl
    refine va_calli (va_runV (As := [.int 4]) (rest := []) ⟨hx, hb, hml, hown, hts⟩ (c_X9_number_1 l dC dI H.size h1 h1_0 h1_f1 j20_h1_f2 h1_f3 h1_0k h1_0c g_h1_f1 g_j20_h1_f2 g_h1_f3 a_h1_0c) (cwV 1 hts gf_c_X4_readAtom_2_c_X9_number_1 rfl rfl rfl mdV_X9_number ⟨Nat.le_of_ble_eq_true rfl, Nat.le_of_ble_eq_true rfl⟩) ⟨fun a U g mk q => by obtain ⟨q0, q1, qP, qK, qD⟩ := q; exact ⟨q0, q1, qP, va_K.moved (u := U) (U := U.calling g mk a) (Vm.Alike.refl U.vm) qK, qD⟩, hrv, fun U hU hW => ⟨rfl, by rw [hU], by rw [hU]; exact hPc, va_K.moved hW.alike hKc, hDc.weaken (fun _ _ _ _ => trivial)⟩⟩ rfl rfl hl.1 rfl (lv_room (Nat.le_of_ble_eq_true rfl)) dX4_readAtom_50 ⟨Nat.le_of_ble_eq_true rfl, Nat.le_of_ble_eq_true rfl⟩) hS (fun q _ h => hFc q h) hFc (fun r_7 x_8 t H1 locs ht hvm hw hB hz1 hk1 hS => ?_)
    as_aux_lemma =>
    obtain ⟨hP1, hK1, hD1⟩ := hB
    rw [ht] at hP1
    obtain ⟨hP, hD⟩ := cl_put (w1 := (wd_c_X9_number_1 h1 h1_0 h1_f1 x_8 h1_f3 h1_0 h1_0k h1_0c)) (nw := (wd_c_X4_readAtom_2 h1 h1_0 h1_f1 x_8 h1_f3 h1_0 h1_0k h1_0c h0 h0_0 h0_f1 h0_2 h0_0 h0_0k h0_0c)) hP hD [0, 1] [4, 5, 2, 3] 4 rfl hqc (by decide +kernel) rfl hk1 hFc hP1 hD1
    generalize H1 = H at hP hS ⊢
    as_aux_lemma =>
    rcases hw with ⟨h_9, h_10, h_11⟩ | ⟨h_12, h_13, h_14, h_15, h_16⟩
    · rw [h_9]
      refine lv_istore (lv' := [(5, .int (-1)), (4, .int (-1)), (3, .int (-1)), (0, .ref h0), (1, .ref h1), (2, .int 2)]) hx hb dX4_readAtom_53 hl (Nat.le_of_ble_eq_true rfl) rfl (fun ls hl => ?_)
      refine lv_iload hx hb dX4_readAtom_55 (lv_at hl 0 rfl) ?_
      refine lv_iconst (v := (-1)) hx hb dX4_readAtom_57 kc_iconst_m1 ?_
      refine lv_icmp_ne (tgt := 65) hx hb dX4_readAtom_58 rfl (fun c_17 => absurd c_17 (by decide +kernel)) (fun c_17 => ?_)
      refine lv_aload_n hx hb dX4_readAtom_61 rfl (lv_at hl 4 rfl) ?_
      obtain ⟨hPc, hDc, hFc, hqc⟩ := cl_cut (wc := (wd_c_X9_refuseHere h1 h1_0 h1_f1 x_8 h1_f3)) hP hD hS hA [0] (by decide +kernel) rfl
      have hKc := hK.sub (tys' := []) [] rfl
      have hrv := va_recv hKc hPc (ci := 9) (q0 := 0) rfl rfl
      refine va_callv (va_runV (As := []) (rest := []) ⟨hx, hb, hml, hown, hts⟩ (c_X9_refuseHere l dC dI H.size h1 h1_0 h1_f1 x_8 h1_f3 g_h1_f1 h_10 g_h1_f3) (cwV 0 hts gf_c_X4_readAtom_2_c_X9_refuseHere rfl rfl rfl mdV_X9_refuseHere ⟨Nat.le_of_ble_eq_true rfl, Nat.le_of_ble_eq_true rfl⟩) ⟨fun a U g mk q => by obtain ⟨q0, q1, qP, qK, qD⟩ := q; exact ⟨q0, q1, qP, va_K.moved (u := U) (U := U.calling g mk a) (Vm.Alike.refl U.vm) qK, qD⟩, hrv, fun U hU hW => ⟨rfl, by rw [hU], by rw [hU]; exact hPc, va_K.moved hW.alike hKc, hDc.weaken (fun _ _ _ _ => trivial)⟩⟩ rfl rfl hl.1 rfl (lv_room (Nat.le_of_ble_eq_true rfl)) dX4_readAtom_62 ⟨Nat.le_of_ble_eq_true rfl, Nat.le_of_ble_eq_true rfl⟩) hS (fun q _ h => hFc q h) hFc (fun x_19 t H1 locs ht hvm hw hB hz1 hk1 hS => ?_)
      obtain ⟨hP1, hK1, hD1⟩ := hB
      rw [ht] at hP1
      obtain ⟨hP, hD⟩ := cl_put (w1 := (wd_c_X9_refuseHere h1 h1_0 h1_f1 x_8 x_19)) (nw := (wd_c_X4_readAtom_2 h1 h1_0 h1_f1 x_8 x_19 h1_0 h1_0k h1_0c h0 h0_0 h0_f1 h0_2 h0_0 h0_0k h0_0c)) hP hD [0] [4, 1, 2, 3] 4 rfl hqc (by decide +kernel) rfl hk1 hFc hP1 hD1
      generalize H1 = H at hP hS ⊢
      as_aux_lemma =>
      have h_20 := hw
      exact hU _ _ _ (J65 (-1) x_8 x_19 g_h0_f1 g_h1_f1 g_h1_f2 g_h1_f3 h_10 (RG_w h_20 (by decide +kernel)) (RG_w (RG_k (-1) (-1) rfl) (by decide +kernel)) _ _ _ hP hD hS (lv_sub hl [0, 3] rfl))
    · refine lv_istore (lv' := [(5, .int r_7), (4, .int (-1)), (3, .int (-1)), (0, .ref h0), (1, .ref h1), (2, .int 2)]) hx hb dX4_readAtom_53 hl (Nat.le_of_ble_eq_true rfl) rfl (fun ls hl => ?_)
      refine lv_iload hx hb dX4_readAtom_55 (lv_at hl 0 rfl) ?_
      refine lv_iconst (v := (-1)) hx hb dX4_readAtom_57 kc_iconst_m1 ?_
      refine lv_icmp_ne (tgt := 65) hx hb dX4_readAtom_58 rfl (fun c_21 => ?_) (fun c_21 => ?_)
      · exact hU _ _ _ (J65 r_7 x_8 h1_f3 g_h0_f1 (RG_w h_14 (by decide +kernel)) g_h1_f2 g_h1_f3 (RG_w h_13 (by decide +kernel)) g_h1_f3 (RG_w h_12 (by decide +kernel)) _ _ _ hP hD hS (lv_sub hl [0, 3] rfl))
      · exact RG_dead (RG_eq1 h_12 (RG_k (-1) (-1) rfl) c_21 (a' := 0) (b' := (-1)) (by decide +kernel)) (by decide +kernel)
  have J65b : ∀ (j65b_l5 : Int32) (j65b_h1_f2 : Int32) (j65b_h1_f3 : Int32) (g_h0_f1 : RG h0_f1 0 240) (g_h1_f1 : RG h1_f1 1 240) (g_h1_f2 : RG h1_f2 0 240) (g_h1_f3 : RG h1_f3 (-1) 240) (g_j65b_h1_f2 : RG j65b_h1_f2 0 240) (g_j65b_h1_f3 : RG j65b_h1_f3 (-1) 240) (g_j65b_l5 : RG j65b_l5 (-1) 9999) (H : Heap) (locs : List Loc) (ls : Array Slot) (hP : va_P (dC, dI) vwCl (wd_c_X4_readAtom_2 h1 h1_0 h1_f1 j65b_h1_f2 j65b_h1_f3 h1_0 h1_0k h1_0c h0 h0_0 h0_f1 h0_2 h0_0 h0_0k h0_0c) H) (hD : va_D A (wd_c_X4_readAtom_2 h1 h1_0 h1_f1 j65b_h1_f2 j65b_h1_f3 h1_0 h1_0k h1_0c h0 h0_0 h0_f1 h0_2 h0_0 h0_0k h0_0c)) (hS : va_S A s.heap H locs) (hl : lv_has ls 6 [(5, .int j65b_l5), (0, .ref h0)]), G H locs (F0 m 65 ls []) := by
    as_aux_lemma =>
    intro j65b_l5 j65b_h1_f2 j65b_h1_f3 g_h0_f1 g_h1_f1 g_h1_f2 g_h1_f3 g_j65b_h1_f2 g_j65b_h1_f3 g_j65b_l5 H locs ls hP hD hS hl
    refine hG _ _ _ ?_
    refine lv_aload_n hx hb dX4_readAtom_65 rfl (lv_at hl 1 rfl) ?_
    refine lv_iload hx hb dX4_readAtom_66 (lv_at hl 0 rfl) ?_
    obtain ⟨hPc, hDc, hFc, hqc⟩ := cl_cut (wc := (wd_c_X4_emit_1 h0 h0_0 h0_f1 h0_2 h0_0 h0_0k h0_0c)) hP hD hS hA [2, 3] (by decide +kernel) rfl
    have hKc := hK.sub (tys' := [(h0_0k, .int)]) [1] rfl
    have hrv := va_recv hKc hPc (ci := 4) (q0 := 0) rfl rfl
    refine va_callv (va_runV (As := [.int j65b_l5]) (rest := []) ⟨hx, hb, hml, hown, hts⟩ (c_X4_emit_1 l dC dI H.size h0 j65b_l5 h0_0 h0_f1 h0_2 h0_0k h0_0c (RG_w g_j65b_l5 (by decide +kernel)) g_h0_f1) (cwV 1 hts gf_c_X4_readAtom_2_c_X4_emit_1 rfl rfl rfl mdV_X4_emit ⟨Nat.le_of_ble_eq_true rfl, Nat.le_of_ble_eq_true rfl⟩) ⟨fun a U g mk q => by obtain ⟨q0, q1, qP, qK, qD⟩ := q; exact ⟨q0, q1, qP, va_K.moved (u := U) (U := U.calling g mk a) (Vm.Alike.refl U.vm) qK, qD⟩, hrv, fun U hU hW => ⟨rfl, by rw [hU], by rw [hU]; exact hPc, va_K.moved hW.alike hKc, hDc.weaken (fun _ _ _ _ => trivial)⟩⟩ rfl rfl hl.1 rfl (lv_room (Nat.le_of_ble_eq_true rfl)) dX4_readAtom_68 ⟨Nat.le_of_ble_eq_true rfl, Nat.le_of_ble_eq_true rfl⟩) hS (fun q _ h => hFc q h) hFc (fun u t H1 locs ht hvm hw hB hz1 hk1 hS => ?_)
    obtain ⟨x_23, w_24⟩ := u
    obtain ⟨hP1, hK1, hD1⟩ := hB
    rw [ht] at hP1
    obtain ⟨hP, hD⟩ := cl_put (w1 := (wd_c_X4_emit_1 h0 h0_0 x_23 h0_2 h0_0 h0_0k w_24)) (nw := (wd_c_X4_readAtom_2 h1 h1_0 h1_f1 j65b_h1_f2 j65b_h1_f3 h1_0 h1_0k h1_0c h0 h0_0 x_23 h0_2 h0_0 h0_0k w_24)) hP hD [2, 3] [0, 1, 4, 5] 4 rfl hqc (by decide +kernel) rfl hk1 hFc hP1 hD1
    generalize H1 = H at hP hS ⊢
    as_aux_lemma =>
    have h_25 := hw
    refine lv_goto (tgt := 105) hx hb dX4_readAtom_71 rfl ?_
    have hK9 := hK.sub (tys' := []) [] rfl
    exact W.vret hx hb hr (fun t ht hW => ⟨⟨(j65b_h1_f2, j65b_h1_f3, x_23, w_24), rfl, ⟨g_j65b_h1_f2, g_j65b_h1_f3, (RG_w h_25 (by decide +kernel))⟩, by rw [ht]; exact hP, va_K.moved hW.alike hK9, hD⟩, hS.F ht⟩) hS.2.2 dX4_readAtom_105
  have J20b : ∀ (j20b_l3 : Int32) (j20b_h1_f2 : Int32) (g_h0_f1 : RG h0_f1 0 240) (g_h1_f1 : RG h1_f1 1 240) (g_h1_f2 : RG h1_f2 0 240) (g_h1_f3 : RG h1_f3 (-1) 240) (g_j20b_h1_f2 : RG j20b_h1_f2 0 239) (g_j20b_l3 : RG j20b_l3 0 255) (H : Heap) (locs : List Loc) (ls : Array Slot) (hP : va_P (dC, dI) vwCl (wd_c_X4_readAtom_2 h1 h1_0 h1_f1 j20b_h1_f2 h1_f3 h1_0 h1_0k h1_0c h0 h0_0 h0_f1 h0_2 h0_0 h0_0k h0_0c) H) (hD : va_D A (wd_c_X4_readAtom_2 h1 h1_0 h1_f1 j20b_h1_f2 h1_f3 h1_0 h1_0k h1_0c h0 h0_0 h0_f1 h0_2 h0_0 h0_0k h0_0c)) (hS : va_S A s.heap H locs) (hl : lv_has ls 6 [(3, .int j20b_l3), (0, .ref h0), (1, .ref h1), (2, .int 2)]), G H locs (F0 m 20 ls [.int (-1)]) := by
    as_aux_lemma =>
    intro j20b_l3 j20b_h1_f2 g_h0_f1 g_h1_f1 g_h1_f2 g_h1_f3 g_j20b_h1_f2 g_j20b_l3 H locs ls hP hD hS hl
    refine hG _ _ _ ?_
    refine lv_istore (lv' := [(4, .int (-1)), (3, .int j20b_l3), (0, .ref h0), (1, .ref h1), (2, .int 2)]) hx hb dX4_readAtom_20 hl (Nat.le_of_ble_eq_true rfl) rfl (fun ls hl => ?_)
    refine lv_iload hx hb dX4_readAtom_22 (lv_at hl 0 rfl) ?_
    refine lv_if_lt (tgt := 42) hx hb dX4_readAtom_24 rfl (fun c_26 => ?_) (fun c_26 => absurd c_26 (by decide +kernel))
    refine lv_iload_n hx hb dX4_readAtom_42 rfl (lv_at hl 1 rfl) ?_
    refine lv_bipush (v := 91) hx hb dX4_readAtom_43 kc_bipush_91 ?_
    refine lv_icmp_eq (tgt := 74) hx hb dX4_readAtom_45 rfl (fun c_27 => ?_) (fun c_27 => ?_)
    · have g_28 : RG j20b_l3 91 91 := RG_eq1 g_j20b_l3 (RG_k 91 91 rfl) c_27 (by decide +kernel)
      refine lv_iload_n hx hb dX4_readAtom_74 rfl (lv_at hl 4 rfl) ?_
      refine lv_bipush (v := 6) hx hb dX4_readAtom_75 kc_bipush_6 ?_
      refine lv_icmp_lt (tgt := 87) hx hb dX4_readAtom_77 rfl (fun c_29 => ?_) (fun c_29 => absurd c_29 (by decide +kernel))
      refine lv_aload_n hx hb dX4_readAtom_87 rfl (lv_at hl 3 rfl) ?_
      obtain ⟨hPc, hDc, hFc, hqc⟩ := cl_cut (wc := (wd_c_X9_skip h1 h1_0 h1_f1 j20b_h1_f2 h1_f3)) hP hD hS hA [0] (by decide +kernel) rfl
      have hKc := hK.sub (tys' := []) [] rfl
      have hrv := va_recv hKc hPc (ci := 9) (q0 := 0) rfl rfl
      refine va_callv (va_runV (As := []) (rest := []) ⟨hx, hb, hml, hown, hts⟩ (c_X9_skip l dC dI H.size h1 h1_0 h1_f1 j20b_h1_f2 h1_f3 (RG_w g_h1_f1 (by decide +kernel)) g_j20b_h1_f2 g_h1_f3) (cwV 0 hts gf_c_X4_readAtom_2_c_X9_skip rfl rfl rfl mdV_X9_skip ⟨Nat.le_of_ble_eq_true rfl, Nat.le_of_ble_eq_true rfl⟩) ⟨fun a U g mk q => by obtain ⟨q0, q1, qP, qK, qD⟩ := q; exact ⟨q0, q1, qP, va_K.moved (u := U) (U := U.calling g mk a) (Vm.Alike.refl U.vm) qK, qD⟩, hrv, fun U hU hW => ⟨rfl, by rw [hU], by rw [hU]; exact hPc, va_K.moved hW.alike hKc, hDc.weaken (fun _ _ _ _ => trivial)⟩⟩ rfl rfl hl.1 rfl (lv_room (Nat.le_of_ble_eq_true rfl)) dX4_readAtom_88 ⟨Nat.le_of_ble_eq_true rfl, Nat.le_of_ble_eq_true rfl⟩) hS (fun q _ h => hFc q h) hFc (fun x_31 t H1 locs ht hvm hw hB hz1 hk1 hS => ?_)
      as_aux_lemma =>
      obtain ⟨hP1, hK1, hD1⟩ := hB
      rw [ht] at hP1
      obtain ⟨hP, hD⟩ := cl_put (w1 := (wd_c_X9_skip h1 h1_0 h1_f1 x_31 h1_f3)) (nw := (wd_c_X4_readAtom_2 h1 h1_0 h1_f1 x_31 h1_f3 h1_0 h1_0k h1_0c h0 h0_0 h0_f1 h0_2 h0_0 h0_0k h0_0c)) hP hD [0] [4, 1, 2, 3] 4 rfl hqc (by decide +kernel) rfl hk1 hFc hP1 hD1
      generalize H1 = H at hP hS ⊢
      as_aux_lemma =>
      rcases hw with ⟨h_32, h_33, h_34⟩
      refine lv_aload_n hx hb dX4_readAtom_91 rfl (lv_at hl 2 rfl) ?_
      refine lv_aload_n hx hb dX4_readAtom_92 rfl (lv_at hl 3 rfl) ?_
      refine lv_iload_n hx hb dX4_readAtom_93 rfl (lv_at hl 4 rfl) ?_
      refine lv_iconst (v := 1) hx hb dX4_readAtom_94 kc_iconst_1 ?_
      refine lv_iadd hx hb dX4_readAtom_95 ?_
      refine lv_topi (fun x_35 ex_35 => ?_)
      obtain rfl : x_35 = 3 := ex_35.trans (by decide +kernel)
      obtain ⟨hPc, hDc, hFc, hqc⟩ := cl_cut (wc := (wd_c_X4_readSum_3 h1 h1_0 h1_f1 x_31 h1_f3 h1_0 h1_0k h1_0c h0 h0_0 h0_f1 h0_2 h0_0 h0_0k h0_0c)) hP hD hS hA [0, 1, 2, 3] (by decide +kernel) rfl
      have hKc := hK.sub (tys' := [(h1_0k, .int), (h0_0k, .int)]) [0, 1] rfl
      have hrv := va_recv hKc hPc (ci := 4) (q0 := 2) rfl rfl
      refine va_callv (va_runV (As := [.ref h1, .int 3]) (rest := []) ⟨hx, hb, hml, hown, hts⟩ (c_X4_readSum_3 l dC dI H.size h0 h1 h1_0 h1_f1 x_31 h1_f3 h1_0k h1_0c h0_0 h0_f1 h0_2 h0_0k h0_0c ts4 tv4 (RG_w g_h1_f1 (by decide +kernel)) (RG_w h_32 (by decide +kernel)) g_h1_f3 a_h1_0c g_h0_f1) (cwV 2 hts gf_c_X4_readAtom_2_c_X4_readSum_3 rfl rfl rfl mdV_X4_readSum ⟨Nat.le_of_ble_eq_true rfl, Nat.le_of_ble_eq_true rfl⟩) ⟨fun a U g mk q => by obtain ⟨q0, q1, qP, qK, qD, qE0, qE1, qE2, qE3, qE4, qE5⟩ := q; exact ⟨q0, q1, qP, va_K.moved (u := U) (U := U.calling g mk a) (Vm.Alike.refl U.vm) qK, qD, vk_R.same rfl qE0, va_Z.moved (u := U) (U := U.calling g mk a) (Vm.Alike.refl U.vm) qE1, va_OF.moved (u := U) (U := U.calling g mk a) (Vm.Alike.refl U.vm) qE2, va_O.moved (u := U) (U := U.calling g mk a) (Vm.Alike.refl U.vm) qE3, va_OF.moved (u := U) (U := U.calling g mk a) (Vm.Alike.refl U.vm) qE4, va_T.moved (u := U) (U := U.calling g mk a) (Vm.Alike.refl U.vm) qE5⟩, hrv, fun U hU hW => ⟨rfl, by rw [hU], by rw [hU]; exact hPc, va_K.moved hW.alike hKc, hDc.weaken (fun _ _ _ _ => trivial), vk_R.warm hW hE_32, va_Z.moved hW.alike (by rw [hU]; exact (hE_10.kept hS.2.1).narrow hFc), va_OF.moved hW.alike (by rw [hU]; exact (hE_34.kept hS.2.1).narrow hFc), va_O.moved hW.alike (by rw [hU]; exact (hE_33.kept hS.2.1).narrow hFc), va_OF.moved hW.alike (by rw [hU]; exact (hE_35.kept hS.2.1).narrow hFc), va_T.moved hW.alike (by rw [hU]; exact (hE_36.kept hS.2.1).narrow hFc)⟩⟩ rfl rfl hl.1 rfl (lv_room (Nat.le_of_ble_eq_true rfl)) dX4_readAtom_96 ⟨Nat.le_of_ble_eq_true rfl, Nat.le_of_ble_eq_true rfl⟩) hS (fun q _ h => hFc q h) hFc (fun u t H1 locs ht hvm hw hB hz1 hk1 hS => ?_)
      obtain ⟨x_37, x_38, x_39, w_40⟩ := u
      obtain ⟨hP1, hK1, hD1⟩ := hB
      rw [ht] at hP1
      obtain ⟨hP, hD⟩ := cl_put (w1 := (wd_c_X4_readSum_3 h1 h1_0 h1_f1 x_37 x_38 h1_0 h1_0k h1_0c h0 h0_0 x_39 h0_2 h0_0 h0_0k w_40)) (nw := (wd_c_X4_readAtom_2 h1 h1_0 h1_f1 x_37 x_38 h1_0 h1_0k h1_0c h0 h0_0 x_39 h0_2 h0_0 h0_0k w_40)) hP hD [0, 1, 2, 3] [4, 5, 6, 7] 4 rfl hqc (by decide +kernel) rfl hk1 hFc hP1 hD1
      generalize H1 = H at hP hS ⊢
      as_aux_lemma =>
      rcases hw with ⟨h_41, h_42, h_43⟩
      refine lv_aload_n hx hb dX4_readAtom_99 rfl (lv_at hl 3 rfl) ?_
      refine lv_bipush (v := 93) hx hb dX4_readAtom_100 kc_bipush_93 ?_
      obtain ⟨hPc, hDc, hFc, hqc⟩ := cl_cut (wc := (wd_c_X9_expect_2 h1 h1_0 h1_f1 x_37 x_38 h1_0 h1_0k h1_0c)) hP hD hS hA [0, 1] (by decide +kernel) rfl
      have hKc := hK.sub (tys' := [(h1_0k, .int)]) [0] rfl
      have hrv := va_recv hKc hPc (ci := 9) (q0 := 0) rfl rfl
      refine va_callv (va_runV (As := [.int 93]) (rest := []) ⟨hx, hb, hml, hown, hts⟩ (c_X9_expect_2 l dC dI H.size h1 93 h1_0 h1_f1 x_37 x_38 h1_0k h1_0c (RG_w (RG_k 93 93 rfl) (by decide +kernel)) (RG_w g_h1_f1 (by decide +kernel)) h_41 h_42 a_h1_0c) (cwV 1 hts gf_c_X4_readAtom_2_c_X9_expect_2 rfl rfl rfl mdV_X9_expect ⟨Nat.le_of_ble_eq_true rfl, Nat.le_of_ble_eq_true rfl⟩) ⟨fun a U g mk q => by obtain ⟨q0, q1, qP, qK, qD⟩ := q; exact ⟨q0, q1, qP, va_K.moved (u := U) (U := U.calling g mk a) (Vm.Alike.refl U.vm) qK, qD⟩, hrv, fun U hU hW => ⟨rfl, by rw [hU], by rw [hU]; exact hPc, va_K.moved hW.alike hKc, hDc.weaken (fun _ _ _ _ => trivial)⟩⟩ rfl rfl hl.1 rfl (lv_room (Nat.le_of_ble_eq_true rfl)) dX4_readAtom_102 ⟨Nat.le_of_ble_eq_true rfl, Nat.le_of_ble_eq_true rfl⟩) hS (fun q _ h => hFc q h) hFc (fun u t H1 locs ht hvm hw hB hz1 hk1 hS => ?_)
      obtain ⟨x_45, x_46⟩ := u
      obtain ⟨hP1, hK1, hD1⟩ := hB
      rw [ht] at hP1
      obtain ⟨hP, hD⟩ := cl_put (w1 := (wd_c_X9_expect_2 h1 h1_0 h1_f1 x_45 x_46 h1_0 h1_0k h1_0c)) (nw := (wd_c_X4_readAtom_2 h1 h1_0 h1_f1 x_45 x_46 h1_0 h1_0k h1_0c h0 h0_0 x_39 h0_2 h0_0 h0_0k w_40)) hP hD [0, 1] [4, 5, 2, 3] 4 rfl hqc (by decide +kernel) rfl hk1 hFc hP1 hD1
      generalize H1 = H at hP hS ⊢
      as_aux_lemma =>
      rcases hw with ⟨h_47, h_48, h_49⟩
      have hK9 := hK.sub (tys' := []) [] rfl
      exact W.vret hx hb hr (fun t ht hW => ⟨⟨(x_45, x_46, x_39, w_40), rfl, ⟨h_47, h_48, h_43⟩, by rw [ht]; exact hP, va_K.moved hW.alike hK9, hD⟩, hS.F ht⟩) hS.2.2 dX4_readAtom_105
    · refine lv_aload_n hx hb dX4_readAtom_48 rfl (lv_at hl 3 rfl) ?_
      refine lv_iconst (v := 4) hx hb dX4_readAtom_49 kc_iconst_4 ?_
      obtain ⟨hPc, hDc, hFc, hqc⟩ := cl_cut (wc := (wd_c_X9_number_1 h1 h1_0 h1_f1 j20b_h1_f2 h1_f3 h1_0 h1_0k h1_0c)) hP hD hS hA [0, 1] (by decide +kernel) rfl
      have hKc := hK.sub (tys' := [(h1_0k, .int)]) [0] rfl
      have hrv := va_recv hKc hPc (ci := 9) (q0 := 0) rfl rfl
      refine va_calli (va_runV (As := [.int 4]) (rest := []) ⟨hx, hb, hml, hown, hts⟩ (c_X9_number_1 l dC dI H.size h1 h1_0 h1_f1 j20b_h1_f2 h1_f3 h1_0k h1_0c (RG_w g_h1_f1 (by decide +kernel)) (RG_w g_j20b_h1_f2 (by decide +kernel)) g_h1_f3 a_h1_0c) (cwV 1 hts gf_c_X4_readAtom_2_c_X9_number_1 rfl rfl rfl mdV_X9_number ⟨Nat.le_of_ble_eq_true rfl, Nat.le_of_ble_eq_true rfl⟩) ⟨fun a U g mk q => by obtain ⟨q0, q1, qP, qK, qD⟩ := q; exact ⟨q0, q1, qP, va_K.moved (u := U) (U := U.calling g mk a) (Vm.Alike.refl U.vm) qK, qD⟩, hrv, fun U hU hW => ⟨rfl, by rw [hU], by rw [hU]; exact hPc, va_K.moved hW.alike hKc, hDc.weaken (fun _ _ _ _ => trivial)⟩⟩ rfl rfl hl.1 rfl (lv_room (Nat.le_of_ble_eq_true rfl)) dX4_readAtom_50 ⟨Nat.le_of_ble_eq_true rfl, Nat.le_of_ble_eq_true rfl⟩) hS (fun q _ h => hFc q h) hFc (fun r_50 x_51 t H1 locs ht hvm hw hB hz1 hk1 hS => ?_)
      obtain ⟨hP1, hK1, hD1⟩ := hB
      rw [ht] at hP1
      obtain ⟨hP, hD⟩ := cl_put (w1 := (wd_c_X9_number_1 h1 h1_0 h1_f1 x_51 h1_f3 h1_0 h1_0k h1_0c)) (nw := (wd_c_X4_readAtom_2 h1 h1_0 h1_f1 x_51 h1_f3 h1_0 h1_0k h1_0c h0 h0_0 h0_f1 h0_2 h0_0 h0_0k h0_0c)) hP hD [0, 1] [4, 5, 2, 3] 4 rfl hqc (by decide +kernel) rfl hk1 hFc hP1 hD1
      generalize H1 = H at hP hS ⊢
      as_aux_lemma =>
      rcases hw with ⟨h_52, h_53, h_54⟩ | ⟨h_55, h_56, h_57, h_58, h_59⟩
      · rw [h_52]
        refine lv_istore (lv' := [(5, .int (-1)), (4, .int (-1)), (3, .int j20b_l3), (0, .ref h0), (1, .ref h1), (2, .int 2)]) hx hb dX4_readAtom_53 hl (Nat.le_of_ble_eq_true rfl) rfl (fun ls hl => ?_)
        refine lv_iload hx hb dX4_readAtom_55 (lv_at hl 0 rfl) ?_
        refine lv_iconst (v := (-1)) hx hb dX4_readAtom_57 kc_iconst_m1 ?_
        refine lv_icmp_ne (tgt := 65) hx hb dX4_readAtom_58 rfl (fun c_60 => absurd c_60 (by decide +kernel)) (fun c_60 => ?_)
        refine lv_aload_n hx hb dX4_readAtom_61 rfl (lv_at hl 4 rfl) ?_
        obtain ⟨hPc, hDc, hFc, hqc⟩ := cl_cut (wc := (wd_c_X9_refuseHere h1 h1_0 h1_f1 x_51 h1_f3)) hP hD hS hA [0] (by decide +kernel) rfl
        have hKc := hK.sub (tys' := []) [] rfl
        have hrv := va_recv hKc hPc (ci := 9) (q0 := 0) rfl rfl
        refine va_callv (va_runV (As := []) (rest := []) ⟨hx, hb, hml, hown, hts⟩ (c_X9_refuseHere l dC dI H.size h1 h1_0 h1_f1 x_51 h1_f3 (RG_w g_h1_f1 (by decide +kernel)) h_53 g_h1_f3) (cwV 0 hts gf_c_X4_readAtom_2_c_X9_refuseHere rfl rfl rfl mdV_X9_refuseHere ⟨Nat.le_of_ble_eq_true rfl, Nat.le_of_ble_eq_true rfl⟩) ⟨fun a U g mk q => by obtain ⟨q0, q1, qP, qK, qD⟩ := q; exact ⟨q0, q1, qP, va_K.moved (u := U) (U := U.calling g mk a) (Vm.Alike.refl U.vm) qK, qD⟩, hrv, fun U hU hW => ⟨rfl, by rw [hU], by rw [hU]; exact hPc, va_K.moved hW.alike hKc, hDc.weaken (fun _ _ _ _ => trivial)⟩⟩ rfl rfl hl.1 rfl (lv_room (Nat.le_of_ble_eq_true rfl)) dX4_readAtom_62 ⟨Nat.le_of_ble_eq_true rfl, Nat.le_of_ble_eq_true rfl⟩) hS (fun q _ h => hFc q h) hFc (fun x_62 t H1 locs ht hvm hw hB hz1 hk1 hS => ?_)
        obtain ⟨hP1, hK1, hD1⟩ := hB
        rw [ht] at hP1
        obtain ⟨hP, hD⟩ := cl_put (w1 := (wd_c_X9_refuseHere h1 h1_0 h1_f1 x_51 x_62)) (nw := (wd_c_X4_readAtom_2 h1 h1_0 h1_f1 x_51 x_62 h1_0 h1_0k h1_0c h0 h0_0 h0_f1 h0_2 h0_0 h0_0k h0_0c)) hP hD [0] [4, 1, 2, 3] 4 rfl hqc (by decide +kernel) rfl hk1 hFc hP1 hD1
        generalize H1 = H at hP hS ⊢
        as_aux_lemma =>
        have h_63 := hw
        exact hU _ _ _ (J65b (-1) x_51 x_62 g_h0_f1 g_h1_f1 g_h1_f2 g_h1_f3 h_53 (RG_w h_63 (by decide +kernel)) (RG_w (RG_k (-1) (-1) rfl) (by decide +kernel)) _ _ _ hP hD hS (lv_sub hl [0, 3] rfl))
      · refine lv_istore (lv' := [(5, .int r_50), (4, .int (-1)), (3, .int j20b_l3), (0, .ref h0), (1, .ref h1), (2, .int 2)]) hx hb dX4_readAtom_53 hl (Nat.le_of_ble_eq_true rfl) rfl (fun ls hl => ?_)
        refine lv_iload hx hb dX4_readAtom_55 (lv_at hl 0 rfl) ?_
        refine lv_iconst (v := (-1)) hx hb dX4_readAtom_57 kc_iconst_m1 ?_
        refine lv_icmp_ne (tgt := 65) hx hb dX4_readAtom_58 rfl (fun c_64 => ?_) (fun c_64 => ?_)
        · exact hU _ _ _ (J65b r_50 x_51 h1_f3 g_h0_f1 g_h1_f1 g_h1_f2 g_h1_f3 (RG_w h_56 (by decide +kernel)) g_h1_f3 (RG_w h_55 (by decide +kernel)) _ _ _ hP hD hS (lv_sub hl [0, 3] rfl))
        · exact RG_dead (RG_eq1 h_55 (RG_k (-1) (-1) rfl) c_64 (a' := 0) (b' := (-1)) (by decide +kernel)) (by decide +kernel)
  have J20c : ∀ (j20c_l3 : Int32) (j20c_s0 : Int32) (j20c_h1_f2 : Int32) (g_h0_f1 : RG h0_f1 0 240) (g_h1_f1 : RG h1_f1 1 240) (g_h1_f2 : RG h1_f2 0 240) (g_h1_f3 : RG h1_f3 (-1) 240) (g_j20c_h1_f2 : RG j20c_h1_f2 0 239) (g_j20c_l3 : RG j20c_l3 0 255) (g_j20c_s0 : RG j20c_s0 0 5) (H : Heap) (locs : List Loc) (ls : Array Slot) (hP : va_P (dC, dI) vwCl (wd_c_X4_readAtom_2 h1 h1_0 h1_f1 j20c_h1_f2 h1_f3 h1_0 h1_0k h1_0c h0 h0_0 h0_f1 h0_2 h0_0 h0_0k h0_0c) H) (hD : va_D A (wd_c_X4_readAtom_2 h1 h1_0 h1_f1 j20c_h1_f2 h1_f3 h1_0 h1_0k h1_0c h0 h0_0 h0_f1 h0_2 h0_0 h0_0k h0_0c)) (hS : va_S A s.heap H locs) (hl : lv_has ls 6 [(3, .int j20c_l3), (0, .ref h0), (1, .ref h1), (2, .int 2)]), G H locs (F0 m 20 ls [.int j20c_s0]) := by
    as_aux_lemma =>
    intro j20c_l3 j20c_s0 j20c_h1_f2 g_h0_f1 g_h1_f1 g_h1_f2 g_h1_f3 g_j20c_h1_f2 g_j20c_l3 g_j20c_s0 H locs ls hP hD hS hl
    refine hG _ _ _ ?_
    refine lv_istore (lv' := [(4, .int j20c_s0), (3, .int j20c_l3), (0, .ref h0), (1, .ref h1), (2, .int 2)]) hx hb dX4_readAtom_20 hl (Nat.le_of_ble_eq_true rfl) rfl (fun ls hl => ?_)
    refine lv_iload hx hb dX4_readAtom_22 (lv_at hl 0 rfl) ?_
    refine lv_if_lt (tgt := 42) hx hb dX4_readAtom_24 rfl (fun c_65 => ?_) (fun c_65 => ?_)
    · have g_66 : RG j20c_s0 0 (-1) := RG_lt1 g_j20c_s0 (RG_k 0 0 rfl) c_65 (by decide +kernel)
      exact RG_dead (RG_lt1 g_j20c_s0 (RG_k 0 0 rfl) c_65 (b' := (-1)) (by decide +kernel)) (by decide +kernel)
    · have d_67 := Int32.not_lt.mp c_65
      refine lv_aload_n hx hb dX4_readAtom_27 rfl (lv_at hl 3 rfl) ?_
      obtain ⟨hPc, hDc, hFc, hqc⟩ := cl_cut (wc := (wd_c_X9_skip h1 h1_0 h1_f1 j20c_h1_f2 h1_f3)) hP hD hS hA [0] (by decide +kernel) rfl
      have hKc := hK.sub (tys' := []) [] rfl
      have hrv := va_recv hKc hPc (ci := 9) (q0 := 0) rfl rfl
      refine va_callv (va_runV (As := []) (rest := []) ⟨hx, hb, hml, hown, hts⟩ (c_X9_skip l dC dI H.size h1 h1_0 h1_f1 j20c_h1_f2 h1_f3 (RG_w g_h1_f1 (by decide +kernel)) g_j20c_h1_f2 g_h1_f3) (cwV 0 hts gf_c_X4_readAtom_2_c_X9_skip rfl rfl rfl mdV_X9_skip ⟨Nat.le_of_ble_eq_true rfl, Nat.le_of_ble_eq_true rfl⟩) ⟨fun a U g mk q => by obtain ⟨q0, q1, qP, qK, qD⟩ := q; exact ⟨q0, q1, qP, va_K.moved (u := U) (U := U.calling g mk a) (Vm.Alike.refl U.vm) qK, qD⟩, hrv, fun U hU hW => ⟨rfl, by rw [hU], by rw [hU]; exact hPc, va_K.moved hW.alike hKc, hDc.weaken (fun _ _ _ _ => trivial)⟩⟩ rfl rfl hl.1 rfl (lv_room (Nat.le_of_ble_eq_true rfl)) dX4_readAtom_28 ⟨Nat.le_of_ble_eq_true rfl, Nat.le_of_ble_eq_true rfl⟩) hS (fun q _ h => hFc q h) hFc (fun x_69 t H1 locs ht hvm hw hB hz1 hk1 hS => ?_)
      obtain ⟨hP1, hK1, hD1⟩ := hB
      rw [ht] at hP1
      obtain ⟨hP, hD⟩ := cl_put (w1 := (wd_c_X9_skip h1 h1_0 h1_f1 x_69 h1_f3)) (nw := (wd_c_X4_readAtom_2 h1 h1_0 h1_f1 x_69 h1_f3 h1_0 h1_0k h1_0c h0 h0_0 h0_f1 h0_2 h0_0 h0_0k h0_0c)) hP hD [0] [4, 1, 2, 3] 4 rfl hqc (by decide +kernel) rfl hk1 hFc hP1 hD1
      generalize H1 = H at hP hS ⊢
      as_aux_lemma =>
      rcases hw with ⟨h_70, h_71, h_72⟩
      refine lv_aload_n hx hb dX4_readAtom_31 rfl (lv_at hl 2 rfl) ?_
      refine lv_iconst (v := (-1)) hx hb dX4_readAtom_32 kc_iconst_m1 ?_
      refine lv_iload hx hb dX4_readAtom_33 (lv_at hl 0 rfl) ?_
      refine lv_isub hx hb dX4_readAtom_35 ?_
      refine lv_topi (fun x_73 ex_73 => ?_)
      have g_74 : RG x_73 (-6) (-1) := RG_sub ex_73 (RG_k (-1) (-1) rfl) g_j20c_s0 (by decide +kernel)
      obtain ⟨hPc, hDc, hFc, hqc⟩ := cl_cut (wc := (wd_c_X4_emit h0 h0_0 h0_f1 h0_2 h0_0 h0_0k h0_0c)) hP hD hS hA [2, 3] (by decide +kernel) rfl
      have hKc := hK.sub (tys' := [(h0_0k, .int)]) [1] rfl
      have hrv := va_recv hKc hPc (ci := 4) (q0 := 0) rfl rfl
      refine va_callv (va_runV (As := [.int x_73]) (rest := []) ⟨hx, hb, hml, hown, hts⟩ (c_X4_emit l dC dI H.size h0 x_73 h0_0 h0_f1 h0_2 h0_0k h0_0c g_h0_f1) (cwV 1 hts gf_c_X4_readAtom_2_c_X4_emit rfl rfl rfl mdV_X4_emit ⟨Nat.le_of_ble_eq_true rfl, Nat.le_of_ble_eq_true rfl⟩) ⟨fun a U g mk q => by obtain ⟨q0, q1, qP, qK, qD⟩ := q; exact ⟨q0, q1, qP, va_K.moved (u := U) (U := U.calling g mk a) (Vm.Alike.refl U.vm) qK, qD⟩, hrv, fun U hU hW => ⟨rfl, by rw [hU], by rw [hU]; exact hPc, va_K.moved hW.alike hKc, hDc.weaken (fun _ _ _ _ => trivial)⟩⟩ rfl rfl hl.1 rfl (lv_room (Nat.le_of_ble_eq_true rfl)) dX4_readAtom_36 ⟨Nat.le_of_ble_eq_true rfl, Nat.le_of_ble_eq_true rfl⟩) hS (fun q _ h => hFc q h) hFc (fun u t H1 locs ht hvm hw hB hz1 hk1 hS => ?_)
      obtain ⟨x_76, w_77⟩ := u
      obtain ⟨hP1, hK1, hD1⟩ := hB
      rw [ht] at hP1
      obtain ⟨hP, hD⟩ := cl_put (w1 := (wd_c_X4_emit h0 h0_0 x_76 h0_2 h0_0 h0_0k w_77)) (nw := (wd_c_X4_readAtom_2 h1 h1_0 h1_f1 x_69 h1_f3 h1_0 h1_0k h1_0c h0 h0_0 x_76 h0_2 h0_0 h0_0k w_77)) hP hD [2, 3] [0, 1, 4, 5] 4 rfl hqc (by decide +kernel) rfl hk1 hFc hP1 hD1
      generalize H1 = H at hP hS ⊢
      as_aux_lemma =>
      have h_78 := hw
      refine lv_goto (tgt := 105) hx hb dX4_readAtom_39 rfl ?_
      have hK9 := hK.sub (tys' := []) [] rfl
      exact W.vret hx hb hr (fun t ht hW => ⟨⟨(x_69, h1_f3, x_76, w_77), rfl, ⟨(RG_w h_70 (by decide +kernel)), g_h1_f3, (RG_w h_78 (by decide +kernel))⟩, by rw [ht]; exact hP, va_K.moved hW.alike hK9, hD⟩, hS.F ht⟩) hS.2.2 dX4_readAtom_105
  refine hG _ _ _ ?_
  refine lv_aload_n hx hb dX4_readAtom_0 rfl (lv_at hl 1 rfl) ?_
  obtain ⟨hPc, hDc, hFc, hqc⟩ := cl_cut (wc := (wd_c_X9_peek h1 h1_0 h1_f1 h1_f2 h1_f3 h1_0 h1_0k h1_0c)) hP hD hS hA [0, 1] (by decide +kernel) rfl
  have hKc := hK.sub (tys' := [(h1_0k, .int)]) [0] rfl
  have hrv := va_recv hKc hPc (ci := 9) (q0 := 0) rfl rfl
  refine va_calli (va_runV (As := []) (rest := []) ⟨hx, hb, hml, hown, hts⟩ (c_X9_peek l dC dI H.size h1 h1_0 h1_f1 h1_f2 h1_f3 h1_0k h1_0c g_h1_f1 g_h1_f2 g_h1_f3 a_h1_0c) (cwV 0 hts gf_c_X4_readAtom_2_c_X9_peek rfl rfl rfl mdV_X9_peek ⟨Nat.le_of_ble_eq_true rfl, Nat.le_of_ble_eq_true rfl⟩) ⟨fun a U g mk q => by obtain ⟨q0, q1, qP, qK, qD⟩ := q; exact ⟨q0, q1, qP, va_K.moved (u := U) (U := U.calling g mk a) (Vm.Alike.refl U.vm) qK, qD⟩, hrv, fun U hU hW => ⟨rfl, by rw [hU], by rw [hU]; exact hPc, va_K.moved hW.alike hKc, hDc.weaken (fun _ _ _ _ => trivial)⟩⟩ rfl rfl hl.1 rfl (lv_room (Nat.le_of_ble_eq_true rfl)) dX4_readAtom_1 ⟨Nat.le_of_ble_eq_true rfl, Nat.le_of_ble_eq_true rfl⟩) hS (fun q _ h => hFc q h) hFc (fun r_79 x_80 t H1 locs ht hvm hw hB hz1 hk1 hS => ?_)
  obtain ⟨hP1, hK1, hD1⟩ := hB
  rw [ht] at hP1
  obtain ⟨hP, hD⟩ := cl_put (w1 := (wd_c_X9_peek h1 h1_0 h1_f1 x_80 h1_f3 h1_0 h1_0k h1_0c)) (nw := (wd_c_X4_readAtom_2 h1 h1_0 h1_f1 x_80 h1_f3 h1_0 h1_0k h1_0c h0 h0_0 h0_f1 h0_2 h0_0 h0_0k h0_0c)) hP hD [0, 1] [4, 5, 2, 3] 4 rfl hqc (by decide +kernel) rfl hk1 hFc hP1 hD1
  generalize H1 = H at hP hS ⊢
  as_aux_lemma =>
  rcases hw with ⟨h_81, h_82, h_83⟩ | ⟨h_84, h_85, h_86, h_87⟩
  · rw [h_81]
    refine lv_istore_n (lv' := [(3, .int (-1)), (0, .ref h0), (1, .ref h1), (2, .int 2)]) hx hb dX4_readAtom_4 rfl hl (Nat.le_of_ble_eq_true rfl) rfl (fun ls hl => ?_)
    refine lv_iload_n hx hb dX4_readAtom_5 rfl (lv_at hl 0 rfl) ?_
    refine lv_if_ge (tgt := 13) hx hb dX4_readAtom_6 rfl (fun c_88 => absurd c_88 (by decide +kernel)) (fun c_88 => ?_)
    refine lv_iconst (v := (-1)) hx hb dX4_readAtom_9 kc_iconst_m1 ?_
    refine lv_goto (tgt := 20) hx hb dX4_readAtom_10 rfl ?_
    exact hU _ _ _ (J20 x_80 g_h0_f1 g_h1_f1 g_h1_f2 g_h1_f3 h_82 _ _ _ hP hD hS (lv_sub hl [0, 1, 2, 3] rfl))
  · refine lv_istore_n (lv' := [(3, .int r_79), (0, .ref h0), (1, .ref h1), (2, .int 2)]) hx hb dX4_readAtom_4 rfl hl (Nat.le_of_ble_eq_true rfl) rfl (fun ls hl => ?_)
    refine lv_iload_n hx hb dX4_readAtom_5 rfl (lv_at hl 0 rfl) ?_
    refine lv_if_ge (tgt := 13) hx hb dX4_readAtom_6 rfl (fun c_89 => ?_) (fun c_89 => ?_)
    · refine va_ldcS hx hb hown hE_32 dX4_readAtom_13 ?_
      refine lv_iload_n hx hb dX4_readAtom_15 rfl (lv_at hl 0 rfl) ?_
      refine lv_i2c hx hb dX4_readAtom_16 rfl ?_
      as_aux_lemma =>
      refine lv_topi (fun x_90 ex_90 => ?_)
      have g_91 : RG x_90 0 65535 := RG_i2c ex_90
      obtain ⟨hPc, hDc, hFc, hqc⟩ := cl_cut (wc := []) hP hD hS hA [] (by decide +kernel) rfl
      have hKc := hK.sub (tys' := []) [] rfl
      have hrv := bv_Orecv hE_33 hS
      refine va_calli (va_runV (As := [.int x_90]) (rest := []) ⟨hx, hb, hml, hown, hts⟩ (c_J0_indexOf_0f7a4_4 l dC dI H.size ts4 x_90 tv4 g_91) (cwV 1 hts gf_c_X4_readAtom_2_c_J0_indexOf_0f7a4_4 rfl rfl rfl mdV_J0_indexOf_0f7a4 ⟨Nat.le_of_ble_eq_true rfl, Nat.le_of_ble_eq_true rfl⟩) ⟨fun a U g mk q => by obtain ⟨q0, q1, qP, qK, qD, qE0, qE1, qE2, qE3, qE4⟩ := q; exact ⟨q0, q1, qP, va_K.moved (u := U) (U := U.calling g mk a) (Vm.Alike.refl U.vm) qK, qD, va_Z.moved (u := U) (U := U.calling g mk a) (Vm.Alike.refl U.vm) qE0, va_OF.moved (u := U) (U := U.calling g mk a) (Vm.Alike.refl U.vm) qE1, va_O.moved (u := U) (U := U.calling g mk a) (Vm.Alike.refl U.vm) qE2, va_OF.moved (u := U) (U := U.calling g mk a) (Vm.Alike.refl U.vm) qE3, va_T.moved (u := U) (U := U.calling g mk a) (Vm.Alike.refl U.vm) qE4⟩, hrv, fun U hU hW => ⟨rfl, by rw [hU], by rw [hU]; exact hPc, va_K.moved hW.alike hKc, hDc.weaken (fun _ _ _ _ => trivial), va_Z.moved hW.alike (by rw [hU]; exact (hE_10.kept hS.2.1).narrow hFc), va_OF.moved hW.alike (by rw [hU]; exact (hE_34.kept hS.2.1).narrow hFc), va_O.moved hW.alike (by rw [hU]; exact (hE_33.kept hS.2.1).narrow hFc), va_OF.moved hW.alike (by rw [hU]; exact (hE_35.kept hS.2.1).narrow hFc), va_T.moved hW.alike (by rw [hU]; exact (hE_36.kept hS.2.1).narrow hFc)⟩⟩ rfl rfl hl.1 rfl (lv_room (Nat.le_of_ble_eq_true rfl)) dX4_readAtom_17 ⟨Nat.le_of_ble_eq_true rfl, Nat.le_of_ble_eq_true rfl⟩) hS (fun q _ h => hFc q h) hFc (fun r_92 u t H1 locs ht hvm hw hB hz1 hk1 hS => ?_)
      obtain ⟨hP1, hK1, hD1⟩ := hB
      rw [ht] at hP1
      have hP := bv_still hP hk1
      generalize H1 = H at hP hS ⊢
      as_aux_lemma =>
      rcases hw with h_93 | ⟨h_94, h_95⟩
      · rw [h_93]
        exact hU _ _ _ (J20b r_79 x_80 g_h0_f1 h_86 g_h1_f2 g_h1_f3 h_85 h_84 _ _ _ hP hD hS (lv_sub hl [0, 1, 2, 3] rfl))
      · exact hU _ _ _ (J20c r_79 r_92 x_80 g_h0_f1 h_86 g_h1_f2 g_h1_f3 h_85 h_84 h_94 _ _ _ hP hD hS (lv_sub hl [0, 1, 2, 3] rfl))
    · have d_96 := Int32.not_le.mp c_89
      have g_97 : RG r_79 0 (-1) := RG_lt1 h_84 (RG_k 0 0 rfl) d_96 (by decide +kernel)
      exact RG_dead (RG_lt1 h_84 (RG_k 0 0 rfl) d_96 (b' := (-1)) (by decide +kernel)) (by decide +kernel)
noncomputable def wd_c_X4_readSum_2 (a0 : Nat) (a1 : Nat) (a2 : Int32) (a3 : Int32) (a4 : Int32) (a5 : Nat) (a6 : ClassId) (a7 : Nat → Int32) (a8 : Nat) (a9 : Nat) (a10 : Int32) (a11 : Nat) (a12 : Nat) (a13 : ClassId) (a14 : Nat → Int32) : va_W := [(a0, .inr (9, [.ref a1, .int a2, .int a3, .int a4])), (a5, .inl (a6, 240, .inl a7)), (a8, .inr (4, [.ref a9, .int a10, .ref a11])), (a12, .inl (a13, 240, .inl a14))]
noncomputable def wf_c_X4_readSum_2 : List Cond := List.cons (.code yX4_readSum cX4_readSum 6 none) (@HAppend.hAppend (List Cond) (List Cond) (List Cond) _ (@HAppend.hAppend (List Cond) (List Cond) (List Cond) _ [.methodLink RX4 72 yX9_isRight, .instanceMethod yX9_isRight, .selects RX9 yX9_isRight yX9_isRight, .initialized RX9, .code yX9_isRight cX9_isRight 1 (some .boolean), .fieldLink RX9 15 "BuoyVote$Tape" "wrong" "I", .methodLink RX4 85 yX4_readAtom, .instanceMethod yX4_readAtom, .selects RX4 yX4_readAtom yX4_readAtom, .initialized RX4, .code yX4_readAtom cX4_readAtom 6 none, .methodLink RX4 41 yX9_peek, .instanceMethod yX9_peek, .selects RX9 yX9_peek yX9_peek, .code yX9_peek cX9_peek 1 (some .int), .fieldLink RX9 22 "BuoyVote$Tape" "at" "I", .fieldLink RX9 19 "BuoyVote$Tape" "length" "I", .fieldLink RX9 11 "BuoyVote$Tape" "bytes" "[I", .methodLink RX4 93 yJ0_indexOf_0f7a4, .instanceMethod yJ0_indexOf_0f7a4, .selects RJ0 yJ0_indexOf_0f7a4 yJ0_indexOf_0f7a4, .initialized RJ0, .code yJ0_indexOf_0f7a4 cJ0_indexOf_0f7a4 2 (some .int), .methodLink RJ0 633 yJ0_indexOf_7cf53, .instanceMethod yJ0_indexOf_7cf53, .selects RJ0 yJ0_indexOf_7cf53 yJ0_indexOf_7cf53, .code yJ0_indexOf_7cf53 cJ0_indexOf_7cf53 3 (some .int), .methodLink RJ0 492 yJ0_isLatin1_aae02, .instanceMethod yJ0_isLatin1_aae02, .selects RJ0 yJ0_isLatin1_aae02 yJ0_isLatin1_aae02, .code yJ0_isLatin1_aae02 cJ0_isLatin1_aae02 1 (some .boolean), .fieldLink RJ0 38 "java/lang/String" "COMPACT_STRINGS" "Z", .fieldLink RJ0 15 "java/lang/String" "coder" "B", .fieldLink RJ0 9 "java/lang/String" "value" "[B", .methodLink RJ0 505 yJ0_length_8abf5, .instanceMethod yJ0_length_8abf5, .selects RJ0 yJ0_length_8abf5 yJ0_length_8abf5, .code yJ0_length_8abf5 cJ0_length_8abf5 1 (some .int), .methodLink RJ0 335 yJ0_coder_7d493, .instanceMethod yJ0_coder_7d493, .selects RJ0 yJ0_coder_7d493 yJ0_coder_7d493, .code yJ0_coder_7d493 cJ0_coder_7d493 1 (some .byte), .methodLink RJ0 637 yJ1_indexOf_4cfef, .static yJ1_indexOf_4cfef, .initialized RJ1, .code yJ1_indexOf_4cfef cJ1_indexOf_4cfef 4 (some .int), .methodLink RJ1 88 yJ1_canEncode_9a6ad, .static yJ1_canEncode_9a6ad, .code yJ1_canEncode_9a6ad cJ1_canEncode_9a6ad 1 (some .boolean), .methodLink RJ1 92 Lib.Math.max.name, .static Lib.Math.max.name, .initialized "java/lang/Math", .code Lib.Math.max.name Lib.Math.max.code 2 (some .int), .methodLink RJ1 38 Lib.Math.min.name, .static Lib.Math.min.name, .code Lib.Math.min.name Lib.Math.min.code 2 (some .int), .methodLink RJ1 95 yJ1_indexOfChar_4cfef, .static yJ1_indexOfChar_4cfef, .code yJ1_indexOfChar_4cfef cJ1_indexOfChar_4cfef 6 (some .int), .methodLink RX4 99 yX9_number, .instanceMethod yX9_number, .selects RX9 yX9_number yX9_number, .code yX9_number cX9_number 4 (some .int), .methodLink RX4 82 yX9_refuseHere, .instanceMethod yX9_refuseHere, .selects RX9 yX9_refuseHere yX9_refuseHere, .code yX9_refuseHere cX9_refuseHere 1 none, .methodLink RX9 25 yX9_refuse, .instanceMethod yX9_refuse, .selects RX9 yX9_refuse yX9_refuse, .code yX9_refuse cX9_refuse 2 none, .methodLink RX4 79 yX9_skip, .instanceMethod yX9_skip, .selects RX9 yX9_skip yX9_skip, .code yX9_skip cX9_skip 1 none, .methodLink RX4 49 yX4_readSum, .instanceMethod yX4_readSum, .selects RX4 yX4_readSum yX4_readSum, .methodLink RX4 60 yX4_emit, .instanceMethod yX4_emit, .selects RX4 yX4_emit yX4_emit, .code yX4_emit cX4_emit 2 none, .fieldLink RX4 20 "BuoyVote$Law" "length" "I", .fieldLink RX4 11 "BuoyVote$Law" "code" "[I", .methodLink RX4 88 yX9_takeEither, .instanceMethod yX9_takeEither, .selects RX9 yX9_takeEither yX9_takeEither, .code yX9_takeEither cX9_takeEither 4 (some .int), .methodLink RX9 29 yX9_peek, .methodLink RX4 37 yX9_expect, .instanceMethod yX9_expect, .selects RX9 yX9_expect yX9_expect, .code yX9_expect cX9_expect 2 none] wsX90) wsX40)
theorem iw_c_X4_readSum_2_X9 : ∀ w ∈ wsX90, w ∈ wf_c_X4_readSum_2 := fun w h => List.mem_cons_of_mem _ (List.mem_append_left _ (List.mem_append_right _ h))
theorem iw_c_X4_readSum_2_X4 : ∀ w ∈ wsX40, w ∈ wf_c_X4_readSum_2 := fun w h => List.mem_cons_of_mem _ (List.mem_append_right _ h)
set_option maxRecDepth 20000 in
theorem gf_c_X4_readSum_2_c_X9_takeEither : GoodIn wf_c_X4_readSum_2 (wsV RX4 88 RX9 yX9_takeEither wf_c_X9_takeEither) := goodIn_app (gi_l [85, 86, 87, 4] rfl rfl) (gi_cons (j := 88) rfl rfl (goodIn_app (gi_l [89, 13, 14, 4, 15, 16, 17, 18, 6] rfl rfl) (goodIn_sub iw_c_X4_readSum_2_X9 gw_X9)))
set_option maxRecDepth 20000 in
theorem gf_c_X4_readSum_2_c_X4_emit : GoodIn wf_c_X4_readSum_2 (wsV RX4 60 RX4 yX4_emit wf_c_X4_emit) := goodIn_app (gi_l [79, 80, 81, 10] rfl rfl) (gi_cons (j := 82) rfl rfl (goodIn_app (gi_l [83, 84] rfl rfl) (goodIn_sub iw_c_X4_readSum_2_X4 gw_X4)))
set_option maxRecDepth 20000 in
theorem gf_c_X4_readSum_2_c_X9_isRight : GoodIn wf_c_X4_readSum_2 (wsV RX4 72 RX9 yX9_isRight wf_c_X9_isRight) := goodIn_app (gi_l [1, 2, 3, 4] rfl rfl) (gi_cons (j := 5) rfl rfl (goodIn_app (gi_l [6] rfl rfl) (goodIn_sub iw_c_X4_readSum_2_X9 gw_X9)))
set_option maxRecDepth 20000 in
theorem gf_c_X4_readSum_2_c_X4_readAtom_2 : GoodIn wf_c_X4_readSum_2 (wsV RX4 85 RX4 yX4_readAtom wf_c_X4_readAtom_2) := goodIn_app (gi_l [7, 8, 9, 10] rfl rfl) (gi_cons (j := 11) rfl rfl (goodIn_app (goodIn_app (gi_l [12, 13, 14, 4, 15, 16, 17, 18, 19, 20, 21, 22, 23, 24, 25, 26, 27, 28, 29, 30, 31, 32, 33, 34, 35, 36, 37, 38, 39, 40, 41, 42, 43, 44, 45, 46, 47, 48, 49, 50, 51, 52, 53, 54, 55, 56, 57, 58, 59, 60, 61, 62, 63, 64, 65, 66, 67, 68, 69, 70, 71, 6, 72, 73, 74, 75, 76, 77, 78, 10, 0, 1, 2, 3, 5, 7, 8, 9, 79, 80, 81, 82, 83, 84, 85, 86, 87, 88, 89, 90, 91, 92, 93] rfl rfl) (goodIn_sub iw_c_X4_readSum_2_X9 gw_X9)) (goodIn_sub iw_c_X4_readSum_2_X4 gw_X4)))
set_option maxHeartbeats 4000000 in
set_option maxRecDepth 100000 in
theorem c_X4_readSum_2 (l : Launch) (dC : Nat → ClassId) (dI : Nat → Nat → Nat) (sz : Nat) (h0 : Nat) (h1 : Nat) (h1_0 : Nat) (h1_f1 : Int32) (h1_f2 : Int32) (h1_f3 : Int32) (h1_0k : ClassId) (h1_0c : Nat → Int32) (h0_0 : Nat) (h0_f1 : Int32) (h0_2 : Nat) (h0_0k : ClassId) (h0_0c : Nat → Int32) (ts4 : Nat) (tv4 : Nat) (g_h1_f1 : RG h1_f1 0 240) (g_h1_f2 : RG h1_f2 0 240) (g_h1_f3 : RG h1_f3 (-1) 240) (a_h1_0c : AI h1_0c 0 255) (g_h0_f1 : RG h0_f1 0 240) : Met l yX4_readSum wf_c_X4_readSum_2 ({ frames := 13, cells := 0, slots := 0, locals := 316 }) (va_Pc [.ref h0, .ref h1, .int 2] (fun U => U.heap.size = sz ∧ va_P (dC, dI) vwCl (wd_c_X4_readSum_2 h1 h1_0 h1_f1 h1_f2 h1_f3 h1_0 h1_0k h1_0c h0 h0_0 h0_f1 h0_2 h0_0 h0_0k h0_0c) U.heap ∧ va_K (dC, dI) vwCl [(h1_0k, .int), (h0_0k, .int)] U ∧ va_D (fun _ => True) (wd_c_X4_readSum_2 h1 h1_0 h1_f1 h1_f2 h1_f3 h1_0 h1_0k h1_0c h0 h0_0 h0_f1 h0_2 h0_0 h0_0k h0_0c) ∧ vk_R RX4 91 "vlrdph" ts4 U ∧ va_Z "java/lang/String" "COMPACT_STRINGS" "Z" (.int 1) (va_A (wd_c_X4_readSum_2 h1 h1_0 h1_f1 h1_f2 h1_f3 h1_0 h1_0k h1_0c h0 h0_0 h0_f1 h0_2 h0_0 h0_0k h0_0c) sz) U U.heap ∧ va_OF "java/lang/String" "coder" "B" (.int 0) ts4 (va_A (wd_c_X4_readSum_2 h1 h1_0 h1_f1 h1_f2 h1_f3 h1_0 h1_0k h1_0c h0 h0_0 h0_f1 h0_2 h0_0 h0_0k h0_0c) sz) U U.heap ∧ va_O "java/lang/String" ts4 (va_A (wd_c_X4_readSum_2 h1 h1_0 h1_f1 h1_f2 h1_f3 h1_0 h1_0k h1_0c h0 h0_0 h0_f1 h0_2 h0_0 h0_0k h0_0c) sz) U U.heap ∧ va_OF "java/lang/String" "value" "[B" (.ref tv4) ts4 (va_A (wd_c_X4_readSum_2 h1 h1_0 h1_f1 h1_f2 h1_f3 h1_0 h1_0k h1_0c h0 h0_0 h0_f1 h0_2 h0_0 h0_0k h0_0c) sz) U U.heap ∧ va_T .byte tv4 6 (fun j => .int ([118, 108, 114, 100, 112, 104].getD j 0)) (va_A (wd_c_X4_readSum_2 h1 h1_0 h1_f1 h1_f2 h1_f3 h1_0 h1_0k h1_0c h0 h0_0 h0_f1 h0_2 h0_0 h0_0k h0_0c) sz) U U.heap)) (va_Qv (fun (u : (Int32) × (Int32) × (Int32) × (Nat → Int32)) => (RG u.1 0 240 ∧ RG u.2.1 (-1) 240 ∧ RG u.2.2.1 0 240)) (fun (u : (Int32) × (Int32) × (Int32) × (Nat → Int32)) t => va_P (dC, dI) vwCl (wd_c_X4_readSum_2 h1 h1_0 h1_f1 (u.1) (u.2.1) h1_0 h1_0k h1_0c h0 h0_0 (u.2.2.1) h0_2 h0_0 h0_0k (u.2.2.2)) t.heap ∧ va_K (dC, dI) vwCl [] t ∧ va_D (va_A (wd_c_X4_readSum_2 h1 h1_0 h1_f1 h1_f2 h1_f3 h1_0 h1_0k h1_0c h0 h0_0 h0_f1 h0_2 h0_0 h0_0k h0_0c) sz) (wd_c_X4_readSum_2 h1 h1_0 h1_f1 (u.1) (u.2.1) h1_0 h1_0k h1_0c h0 h0_0 (u.2.2.1) h0_2 h0_0 h0_0k (u.2.2.2))) (va_A (wd_c_X4_readSum_2 h1 h1_0 h1_f1 h1_f2 h1_f3 h1_0 h1_0k h1_0c h0 h0_0 h0_f1 h0_2 h0_0 h0_0k h0_0c) sz)) 0 0 (va_A (wd_c_X4_readSum_2 h1 h1_0 h1_f1 h1_f2 h1_f3 h1_0 h1_0k h1_0c h0 h0_0 h0_f1 h0_2 h0_0 h0_0k h0_0c) sz) := by
  refine Met.ofW (cc := cX4_readSum) (maxL := 6) (ret := none) (by decide +kernel) rfl ?_
  intro p e s m args below meth c s₁ B hml hv
  obtain ⟨rfl, hsz, hP, hK, hD0, hE_32, hE_10, hE_34, hE_33, hE_35, hE_36⟩ := hv
  have hx := B.exec
  have hb := B.bytes
  have hr := B.returns
  have hts := atoms_spec (ws := wf_c_X4_readSum_2) B.pre
  have hown : s.vm.findClass RX4 = some m.cls := findClass_of_methodNamed B.named
  have hlocks := B.notSynchronized
  subst hsz
  have hD := hD0.self (sz := s.heap.size)
  generalize hAe : va_A (wd_c_X4_readSum_2 h1 h1_0 h1_f1 h1_f2 h1_f3 h1_0 h1_0k h1_0c h0 h0_0 h0_f1 h0_2 h0_0 h0_0k h0_0c) s.heap.size = A at hD hE_10 hE_34 hE_33 hE_35 hE_36 ⊢
  have hA : ∀ q : Nat, s.heap.size ≤ q → A q := fun q h => by rw [← hAe]; exact Or.inr h
  have hP : va_P (dC, dI) vwCl (wd_c_X4_readSum_2 h1 h1_0 h1_f1 h1_f2 h1_f3 h1_0 h1_0k h1_0c h0 h0_0 h0_f1 h0_2 h0_0 h0_0k h0_0c) s.heap := hP
  have hl := lv_entry ([.ref h0, .ref h1, .int 2]) (n := 6) (Nat.le_of_ble_eq_true rfl)
  rw [lg_entry_eq]
  generalize (lg_sl ([.ref h0, .ref h1, .int 2]) ++ List.replicate (6 - (lg_sl ([.ref h0, .ref h1, .int 2])).length) Slot.unset).toArray = ls at hl ⊢
  have hl : lv_has ls 6 [(0, .ref h0), (1, .ref h1), (2, .int 2)] := hl
  obtain ⟨H, hHe⟩ : ∃ H : Heap, s.heap = H := ⟨_, rfl⟩
  have hS : va_S A s.heap H [] := by rw [hHe]; exact va_S.rf
  have hP : va_P (dC, dI) vwCl (wd_c_X4_readSum_2 h1 h1_0 h1_f1 h1_f2 h1_f3 h1_0 h1_0k h1_0c h0 h0_0 h0_f1 h0_2 h0_0 h0_0k h0_0c) H := by rw [← hHe]; exact hP
  rw [hHe]
  refine wj (fun G hG hU => ?_)
  as_aux_lemma =>
  have J8 : ∀ (n8 : Nat) (j8_l5 : Int32) (j8_l4 : Int32) (j8_l3 : Int32) (j8_h1_f2 : Int32) (j8_h1_f3 : Int32) (j8_h0_f1 : Int32) (j8_h0_0c : Nat → Int32) (hM8 : MU j8_l5 < n8) (g_h0_f1 : RG h0_f1 0 240) (g_h1_f1 : RG h1_f1 0 240) (g_h1_f2 : RG h1_f2 0 240) (g_h1_f3 : RG h1_f3 (-1) 240) (g_j8_h0_f1 : RG j8_h0_f1 0 240) (g_j8_h1_f2 : RG j8_h1_f2 0 240) (g_j8_h1_f3 : RG j8_h1_f3 (-1) 240) (g_j8_l3 : RG j8_l3 0 60) (g_j8_l4 : RG j8_l4 0 60) (g_j8_l5 : RG j8_l5 0 240) (H : Heap) (locs : List Loc) (ls : Array Slot) (hP : va_P (dC, dI) vwCl (wd_c_X4_readSum_2 h1 h1_0 h1_f1 j8_h1_f2 j8_h1_f3 h1_0 h1_0k h1_0c h0 h0_0 j8_h0_f1 h0_2 h0_0 h0_0k j8_h0_0c) H) (hD : va_D A (wd_c_X4_readSum_2 h1 h1_0 h1_f1 j8_h1_f2 j8_h1_f3 h1_0 h1_0k h1_0c h0 h0_0 j8_h0_f1 h0_2 h0_0 h0_0k j8_h0_0c)) (hS : va_S A s.heap H locs) (hl : lv_has ls 6 [(5, .int j8_l5), (4, .int j8_l4), (3, .int j8_l3), (0, .ref h0), (1, .ref h1), (2, .int 2)]), G H locs (F0 m 8 ls []) := by
    as_aux_lemma =>
    intro n8
    induction n8 with
    | zero => intros; exact absurd (by assumption) (Nat.not_lt_zero _)
    | succ n8 ih8 =>
      intro j8_l5 j8_l4 j8_l3 j8_h1_f2 j8_h1_f3 j8_h0_f1 j8_h0_0c hM8 g_h0_f1 g_h1_f1 g_h1_f2 g_h1_f3 g_j8_h0_f1 g_j8_h1_f2 g_j8_h1_f3 g_j8_l3 g_j8_l4 g_j8_l5 H locs ls hP hD hS hl
      have J80 : ∀ (j80_l3 : Int32) (j80_l4 : Int32) (j80_h1_f2 : Int32) (j80_h1_f3 : Int32) (j80_h0_f1 : Int32) (j80_h0_0c : Nat → Int32) (g_h0_f1 : RG h0_f1 0 240) (g_h1_f1 : RG h1_f1 1 240) (g_h1_f2 : RG h1_f2 0 240) (g_h1_f3 : RG h1_f3 (-1) 240) (g_j80_h0_f1 : RG j80_h0_f1 0 240) (g_j80_h1_f2 : RG j80_h1_f2 1 240) (g_j80_h1_f3 : RG j80_h1_f3 (-1) (-1)) (g_j80_l3 : RG j80_l3 0 60) (g_j80_l4 : RG j80_l4 0 60) (g_j8_h0_f1 : RG j8_h0_f1 0 240) (g_j8_h1_f2 : RG j8_h1_f2 0 240) (g_j8_h1_f3 : RG j8_h1_f3 (-1) (-1)) (g_j8_l3 : RG j8_l3 0 60) (g_j8_l4 : RG j8_l4 0 60) (g_j8_l5 : RG j8_l5 0 239) (H : Heap) (locs : List Loc) (ls : Array Slot) (hP : va_P (dC, dI) vwCl (wd_c_X4_readSum_2 h1 h1_0 h1_f1 j80_h1_f2 j80_h1_f3 h1_0 h1_0k h1_0c h0 h0_0 j80_h0_f1 h0_2 h0_0 h0_0k j80_h0_0c) H) (hD : va_D A (wd_c_X4_readSum_2 h1 h1_0 h1_f1 j80_h1_f2 j80_h1_f3 h1_0 h1_0k h1_0c h0 h0_0 j80_h0_f1 h0_2 h0_0 h0_0k j80_h0_0c)) (hS : va_S A s.heap H locs) (hl : lv_has ls 6 [(3, .int j80_l3), (5, .int j8_l5), (4, .int j80_l4), (0, .ref h0), (1, .ref h1), (2, .int 2)]), G H locs (F0 m 80 ls []) := by
        as_aux_lemma =>
        intro j80_l3 j80_l4 j80_h1_f2 j80_h1_f3 j80_h0_f1 j80_h0_0c g_h0_f1 g_h1_f1 g_h1_f2 g_h1_f3 g_j80_h0_f1 g_j80_h1_f2 g_j80_h1_f3 g_j80_l3 g_j80_l4 g_j8_h0_f1 g_j8_h1_f2 g_j8_h1_f3 g_j8_l3 g_j8_l4 g_j8_l5 H locs ls hP hD hS hl
        refine hG _ _ _ ?_
        obtain ⟨x_1, ex_1⟩ : ∃ y : Int32, y = j8_l5 + 1 := ⟨_, rfl⟩
        have g_2 : RG x_1 1 240 := RG_add ex_1 g_j8_l5 (RG_k 1 1 rfl) (by decide +kernel)
        refine lv_iinc (v := x_1) (lv' := [(5, .int x_1), (3, .int j80_l3), (4, .int j80_l4), (0, .ref h0), (1, .ref h1), (2, .int 2)]) hx hb dX4_readSum_80 hl (k := 1) rfl (by rw [ex_1]; rfl) (Nat.le_of_ble_eq_true rfl) rfl (fun ls hl => ?_)
        refine lv_goto (tgt := 8) hx hb dX4_readSum_83 rfl ?_
        exact hU _ _ _ (ih8 x_1 j80_l4 j80_l3 j80_h1_f2 j80_h1_f3 j80_h0_f1 j80_h0_0c (mu_s (MU_add ex_1 g_j8_l5 (q := 1) rfl (by decide +kernel)) hM8) g_h0_f1 (RG_w g_h1_f1 (by decide +kernel)) g_h1_f2 g_h1_f3 g_j80_h0_f1 (RG_w g_j80_h1_f2 (by decide +kernel)) (RG_w g_j80_h1_f3 (by decide +kernel)) g_j80_l3 g_j80_l4 (RG_w g_2 (by decide +kernel)) _ _ _ hP hD hS (lv_sub hl [0, 2, 1, 3, 4, 5] rfl))
      have J64 : ∀ (j64_l3 : Int32) (j64_h1_f2 : Int32) (j64_h1_f3 : Int32) (j64_h0_f1 : Int32) (j64_h0_0c : Nat → Int32) (g_h0_f1 : RG h0_f1 0 240) (g_h1_f1 : RG h1_f1 0 240) (g_h1_f2 : RG h1_f2 0 240) (g_h1_f3 : RG h1_f3 (-1) 240) (g_j64_h0_f1 : RG j64_h0_f1 0 240) (g_j64_h1_f2 : RG j64_h1_f2 0 240) (g_j64_h1_f3 : RG j64_h1_f3 (-1) 240) (g_j64_l3 : RG j64_l3 0 0) (g_j8_h0_f1 : RG j8_h0_f1 0 240) (g_j8_h1_f2 : RG j8_h1_f2 0 240) (g_j8_h1_f3 : RG j8_h1_f3 (-1) (-1)) (g_j8_l3 : RG j8_l3 0 60) (g_j8_l4 : RG j8_l4 0 60) (g_j8_l5 : RG j8_l5 0 239) (H : Heap) (locs : List Loc) (ls : Array Slot) (hP : va_P (dC, dI) vwCl (wd_c_X4_readSum_2 h1 h1_0 h1_f1 j64_h1_f2 j64_h1_f3 h1_0 h1_0k h1_0c h0 h0_0 j64_h0_f1 h0_2 h0_0 h0_0k j64_h0_0c) H) (hD : va_D A (wd_c_X4_readSum_2 h1 h1_0 h1_f1 j64_h1_f2 j64_h1_f3 h1_0 h1_0k h1_0c h0 h0_0 j64_h0_f1 h0_2 h0_0 h0_0k j64_h0_0c)) (hS : va_S A s.heap H locs) (hl : lv_has ls 6 [(3, .int j64_l3), (5, .int j8_l5), (0, .ref h0), (1, .ref h1), (2, .int 2)]), G H locs (F0 m 64 ls []) := by
        as_aux_lemma =>
        intro j64_l3 j64_h1_f2 j64_h1_f3 j64_h0_f1 j64_h0_0c g_h0_f1 g_h1_f1 g_h1_f2 g_h1_f3 g_j64_h0_f1 g_j64_h1_f2 g_j64_h1_f3 g_j64_l3 g_j8_h0_f1 g_j8_h1_f2 g_j8_h1_f3 g_j8_l3 g_j8_l4 g_j8_l5 H locs ls hP hD hS hl
        refine hG _ _ _ ?_
        refine lv_aload_n hx hb dX4_readSum_64 rfl (lv_at hl 3 rfl) ?_
        refine lv_bipush (v := 43) hx hb dX4_readSum_65 kc_bipush_43 ?_
        refine lv_bipush (v := 45) hx hb dX4_readSum_67 kc_bipush_45 ?_
        obtain ⟨hPc, hDc, hFc, hqc⟩ := cl_cut (wc := (wd_c_X9_takeEither h1 h1_0 h1_f1 j64_h1_f2 j64_h1_f3 h1_0 h1_0k h1_0c)) hP hD hS hA [0, 1] (by decide +kernel) rfl
        have hKc := hK.sub (tys' := [(h1_0k, .int)]) [0] rfl
        have hrv := va_recv hKc hPc (ci := 9) (q0 := 0) rfl rfl
        refine va_calli (va_runV (As := [.int 43, .int 45]) (rest := []) ⟨hx, hb, hml, hown, hts⟩ (c_X9_takeEither l dC dI H.size h1 43 45 h1_0 h1_f1 j64_h1_f2 j64_h1_f3 h1_0k h1_0c (RG_w (RG_k 43 43 rfl) (by decide +kernel)) (RG_w (RG_k 45 45 rfl) (by decide +kernel)) g_h1_f1 g_j64_h1_f2 g_j64_h1_f3 a_h1_0c) (cwV 2 hts gf_c_X4_readSum_2_c_X9_takeEither rfl rfl rfl mdV_X9_takeEither ⟨Nat.le_of_ble_eq_true rfl, Nat.le_of_ble_eq_true rfl⟩) ⟨fun a U g mk q => by obtain ⟨q0, q1, qP, qK, qD⟩ := q; exact ⟨q0, q1, qP, va_K.moved (u := U) (U := U.calling g mk a) (Vm.Alike.refl U.vm) qK, qD⟩, hrv, fun U hU hW => ⟨rfl, by rw [hU], by rw [hU]; exact hPc, va_K.moved hW.alike hKc, hDc.weaken (fun _ _ _ _ => trivial)⟩⟩ rfl rfl hl.1 rfl (lv_room (Nat.le_of_ble_eq_true rfl)) dX4_readSum_69 ⟨Nat.le_of_ble_eq_true rfl, Nat.le_of_ble_eq_true rfl⟩) hS (fun q _ h => hFc q h) hFc (fun r_3 x_4 t H1 locs ht hvm hw hB hz1 hk1 hS => ?_)
        obtain ⟨hP1, hK1, hD1⟩ := hB
        rw [ht] at hP1
        obtain ⟨hP, hD⟩ := cl_put (w1 := (wd_c_X9_takeEither h1 h1_0 h1_f1 x_4 j64_h1_f3 h1_0 h1_0k h1_0c)) (nw := (wd_c_X4_readSum_2 h1 h1_0 h1_f1 x_4 j64_h1_f3 h1_0 h1_0k h1_0c h0 h0_0 j64_h0_f1 h0_2 h0_0 h0_0k j64_h0_0c)) hP hD [0, 1] [4, 5, 2, 3] 4 rfl hqc (by decide +kernel) rfl hk1 hFc hP1 hD1
        generalize H1 = H at hP hS ⊢
        as_aux_lemma =>
        rcases hw with ⟨h_5, h_6, h_7⟩ | ⟨h_8, h_9, h_10, h_11, h_12⟩
        · rw [h_5]
          refine lv_istore (lv' := [(4, .int 0), (3, .int j64_l3), (5, .int j8_l5), (0, .ref h0), (1, .ref h1), (2, .int 2)]) hx hb dX4_readSum_72 hl (Nat.le_of_ble_eq_true rfl) rfl (fun ls hl => ?_)
          refine lv_iload hx hb dX4_readSum_74 (lv_at hl 0 rfl) ?_
          refine lv_if_ne (tgt := 80) hx hb dX4_readSum_76 rfl (fun c_13 => absurd c_13 (by decide +kernel)) (fun c_13 => ?_)
          have hK9 := hK.sub (tys' := []) [] rfl
          exact W.vret hx hb hr (fun t ht hW => ⟨⟨(x_4, j64_h1_f3, j64_h0_f1, j64_h0_0c), rfl, ⟨h_6, g_j64_h1_f3, g_j64_h0_f1⟩, by rw [ht]; exact hP, va_K.moved hW.alike hK9, hD⟩, hS.F ht⟩) hS.2.2 dX4_readSum_79
        · refine lv_istore (lv' := [(4, .int r_3), (3, .int j64_l3), (5, .int j8_l5), (0, .ref h0), (1, .ref h1), (2, .int 2)]) hx hb dX4_readSum_72 hl (Nat.le_of_ble_eq_true rfl) rfl (fun ls hl => ?_)
          refine lv_iload hx hb dX4_readSum_74 (lv_at hl 0 rfl) ?_
          refine lv_if_ne (tgt := 80) hx hb dX4_readSum_76 rfl (fun c_14 => ?_) (fun c_14 => ?_)
          · have g_15 : RG r_3 1 60 := RG_ne1 h_8 (q := 0) rfl c_14 (by decide +kernel)
            exact hU _ _ _ (J80 j64_l3 r_3 x_4 j64_h1_f3 j64_h0_f1 j64_h0_0c g_h0_f1 h_10 g_h1_f2 g_h1_f3 g_j64_h0_f1 h_9 h_11 (RG_w g_j64_l3 (by decide +kernel)) (RG_w g_15 (by decide +kernel)) g_j8_h0_f1 g_j8_h1_f2 g_j8_h1_f3 g_j8_l3 g_j8_l4 g_j8_l5 _ _ _ hP hD hS (lv_sub hl [1, 2, 0, 3, 4, 5] rfl))
          · have g_16 : RG r_3 0 0 := RG_eq1 h_8 (RG_k 0 0 rfl) c_14 (by decide +kernel)
            have hK9 := hK.sub (tys' := []) [] rfl
            exact W.vret hx hb hr (fun t ht hW => ⟨⟨(x_4, j64_h1_f3, j64_h0_f1, j64_h0_0c), rfl, ⟨(RG_w h_9 (by decide +kernel)), (RG_w h_11 (by decide +kernel)), g_j64_h0_f1⟩, by rw [ht]; exact hP, va_K.moved hW.alike hK9, hD⟩, hS.F ht⟩) hS.2.2 dX4_readSum_79
      have J39 : ∀ (j39_h1_f2 : Int32) (j39_h1_f3 : Int32) (j39_h0_f1 : Int32) (j39_h0_0c : Nat → Int32) (g_h0_f1 : RG h0_f1 0 240) (g_h1_f1 : RG h1_f1 0 240) (g_h1_f2 : RG h1_f2 0 240) (g_h1_f3 : RG h1_f3 (-1) 240) (g_j39_h0_f1 : RG j39_h0_f1 0 240) (g_j39_h1_f2 : RG j39_h1_f2 0 240) (g_j39_h1_f3 : RG j39_h1_f3 (-1) 240) (g_j8_h0_f1 : RG j8_h0_f1 0 240) (g_j8_h1_f2 : RG j8_h1_f2 0 240) (g_j8_h1_f3 : RG j8_h1_f3 (-1) (-1)) (g_j8_l3 : RG j8_l3 0 60) (g_j8_l4 : RG j8_l4 0 60) (g_j8_l5 : RG j8_l5 0 239) (H : Heap) (locs : List Loc) (ls : Array Slot) (hP : va_P (dC, dI) vwCl (wd_c_X4_readSum_2 h1 h1_0 h1_f1 j39_h1_f2 j39_h1_f3 h1_0 h1_0k h1_0c h0 h0_0 j39_h0_f1 h0_2 h0_0 h0_0k j39_h0_0c) H) (hD : va_D A (wd_c_X4_readSum_2 h1 h1_0 h1_f1 j39_h1_f2 j39_h1_f3 h1_0 h1_0k h1_0c h0 h0_0 j39_h0_f1 h0_2 h0_0 h0_0k j39_h0_0c)) (hS : va_S A s.heap H locs) (hl : lv_has ls 6 [(5, .int j8_l5), (4, .int j8_l4), (0, .ref h0), (1, .ref h1), (2, .int 2)]), G H locs (F0 m 39 ls []) := by
        as_aux_lemma =>
        intro j39_h1_f2 j39_h1_f3 j39_h0_f1 j39_h0_0c g_h0_f1 g_h1_f1 g_h1_f2 g_h1_f3 g_j39_h0_f1 g_j39_h1_f2 g_j39_h1_f3 g_j8_h0_f1 g_j8_h1_f2 g_j8_h1_f3 g_j8_l3 g_j8_l4 g_j8_l5 H locs ls hP hD hS hl
        refine hG _ _ _ ?_
        refine lv_aload_n hx hb dX4_readSum_39 rfl (lv_at hl 3 rfl) ?_
        refine lv_bipush (v := 42) hx hb dX4_readSum_40 kc_bipush_42 ?_
        refine lv_bipush (v := 47) hx hb dX4_readSum_42 kc_bipush_47 ?_
        obtain ⟨hPc, hDc, hFc, hqc⟩ := cl_cut (wc := (wd_c_X9_takeEither h1 h1_0 h1_f1 j39_h1_f2 j39_h1_f3 h1_0 h1_0k h1_0c)) hP hD hS hA [0, 1] (by decide +kernel) rfl
        have hKc := hK.sub (tys' := [(h1_0k, .int)]) [0] rfl
        have hrv := va_recv hKc hPc (ci := 9) (q0 := 0) rfl rfl
        refine va_calli (va_runV (As := [.int 42, .int 47]) (rest := []) ⟨hx, hb, hml, hown, hts⟩ (c_X9_takeEither l dC dI H.size h1 42 47 h1_0 h1_f1 j39_h1_f2 j39_h1_f3 h1_0k h1_0c (RG_w (RG_k 42 42 rfl) (by decide +kernel)) (RG_w (RG_k 47 47 rfl) (by decide +kernel)) g_h1_f1 g_j39_h1_f2 g_j39_h1_f3 a_h1_0c) (cwV 2 hts gf_c_X4_readSum_2_c_X9_takeEither rfl rfl rfl mdV_X9_takeEither ⟨Nat.le_of_ble_eq_true rfl, Nat.le_of_ble_eq_true rfl⟩) ⟨fun a U g mk q => by obtain ⟨q0, q1, qP, qK, qD⟩ := q; exact ⟨q0, q1, qP, va_K.moved (u := U) (U := U.calling g mk a) (Vm.Alike.refl U.vm) qK, qD⟩, hrv, fun U hU hW => ⟨rfl, by rw [hU], by rw [hU]; exact hPc, va_K.moved hW.alike hKc, hDc.weaken (fun _ _ _ _ => trivial)⟩⟩ rfl rfl hl.1 rfl (lv_room (Nat.le_of_ble_eq_true rfl)) dX4_readSum_44 ⟨Nat.le_of_ble_eq_true rfl, Nat.le_of_ble_eq_true rfl⟩) hS (fun q _ h => hFc q h) hFc (fun r_17 x_18 t H1 locs ht hvm hw hB hz1 hk1 hS => ?_)
        obtain ⟨hP1, hK1, hD1⟩ := hB
        rw [ht] at hP1
        obtain ⟨hP, hD⟩ := cl_put (w1 := (wd_c_X9_takeEither h1 h1_0 h1_f1 x_18 j39_h1_f3 h1_0 h1_0k h1_0c)) (nw := (wd_c_X4_readSum_2 h1 h1_0 h1_f1 x_18 j39_h1_f3 h1_0 h1_0k h1_0c h0 h0_0 j39_h0_f1 h0_2 h0_0 h0_0k j39_h0_0c)) hP hD [0, 1] [4, 5, 2, 3] 4 rfl hqc (by decide +kernel) rfl hk1 hFc hP1 hD1
        generalize H1 = H at hP hS ⊢
        as_aux_lemma =>
        rcases hw with ⟨h_19, h_20, h_21⟩ | ⟨h_22, h_23, h_24, h_25, h_26⟩
        · rw [h_19]
          refine lv_istore_n (lv' := [(3, .int 0), (5, .int j8_l5), (4, .int j8_l4), (0, .ref h0), (1, .ref h1), (2, .int 2)]) hx hb dX4_readSum_47 rfl hl (Nat.le_of_ble_eq_true rfl) rfl (fun ls hl => ?_)
          refine lv_iload_n hx hb dX4_readSum_48 rfl (lv_at hl 0 rfl) ?_
          refine lv_if_ne (tgt := 80) hx hb dX4_readSum_49 rfl (fun c_27 => absurd c_27 (by decide +kernel)) (fun c_27 => ?_)
          refine lv_iload hx hb dX4_readSum_52 (lv_at hl 2 rfl) ?_
          refine lv_if_eq (tgt := 64) hx hb dX4_readSum_54 rfl (fun c_28 => ?_) (fun c_28 => ?_)
          · have g_29 : RG j8_l4 0 0 := RG_eq1 g_j8_l4 (RG_k 0 0 rfl) c_28 (by decide +kernel)
            exact hU _ _ _ (J64 0 x_18 j39_h1_f3 j39_h0_f1 j39_h0_0c g_h0_f1 g_h1_f1 g_h1_f2 g_h1_f3 g_j39_h0_f1 h_20 g_j39_h1_f3 (RG_k 0 0 rfl) g_j8_h0_f1 g_j8_h1_f2 g_j8_h1_f3 g_j8_l3 (RG_w g_29 (by decide +kernel)) g_j8_l5 _ _ _ hP hD hS (lv_sub hl [0, 1, 3, 4, 5] rfl))
          · have g_30 : RG j8_l4 1 60 := RG_ne1 g_j8_l4 (q := 0) rfl c_28 (by decide +kernel)
            refine lv_aload_n hx hb dX4_readSum_57 rfl (lv_at hl 3 rfl) ?_
            refine lv_iload hx hb dX4_readSum_58 (lv_at hl 2 rfl) ?_
            refine lv_ineg hx hb dX4_readSum_60 ?_
            refine lv_topi (fun x_31 ex_31 => ?_)
            as_aux_lemma =>
            have g_32 : RG x_31 (-60) (-1) := RG_neg ex_31 g_30 (by decide +kernel)
            obtain ⟨hPc, hDc, hFc, hqc⟩ := cl_cut (wc := (wd_c_X4_emit h0 h0_0 j39_h0_f1 h0_2 h0_0 h0_0k j39_h0_0c)) hP hD hS hA [2, 3] (by decide +kernel) rfl
            have hKc := hK.sub (tys' := [(h0_0k, .int)]) [1] rfl
            have hrv := va_recv hKc hPc (ci := 4) (q0 := 0) rfl rfl
            refine va_callv (va_runV (As := [.int x_31]) (rest := []) ⟨hx, hb, hml, hown, hts⟩ (c_X4_emit l dC dI H.size h0 x_31 h0_0 j39_h0_f1 h0_2 h0_0k j39_h0_0c g_j39_h0_f1) (cwV 1 hts gf_c_X4_readSum_2_c_X4_emit rfl rfl rfl mdV_X4_emit ⟨Nat.le_of_ble_eq_true rfl, Nat.le_of_ble_eq_true rfl⟩) ⟨fun a U g mk q => by obtain ⟨q0, q1, qP, qK, qD⟩ := q; exact ⟨q0, q1, qP, va_K.moved (u := U) (U := U.calling g mk a) (Vm.Alike.refl U.vm) qK, qD⟩, hrv, fun U hU hW => ⟨rfl, by rw [hU], by rw [hU]; exact hPc, va_K.moved hW.alike hKc, hDc.weaken (fun _ _ _ _ => trivial)⟩⟩ rfl rfl hl.1 rfl (lv_room (Nat.le_of_ble_eq_true rfl)) dX4_readSum_61 ⟨Nat.le_of_ble_eq_true rfl, Nat.le_of_ble_eq_true rfl⟩) hS (fun q _ h => hFc q h) hFc (fun u t H1 locs ht hvm hw hB hz1 hk1 hS => ?_)
            obtain ⟨x_34, w_35⟩ := u
            obtain ⟨hP1, hK1, hD1⟩ := hB
            rw [ht] at hP1
            obtain ⟨hP, hD⟩ := cl_put (w1 := (wd_c_X4_emit h0 h0_0 x_34 h0_2 h0_0 h0_0k w_35)) (nw := (wd_c_X4_readSum_2 h1 h1_0 h1_f1 x_18 j39_h1_f3 h1_0 h1_0k h1_0c h0 h0_0 x_34 h0_2 h0_0 h0_0k w_35)) hP hD [2, 3] [0, 1, 4, 5] 4 rfl hqc (by decide +kernel) rfl hk1 hFc hP1 hD1
            generalize H1 = H at hP hS ⊢
            as_aux_lemma =>
            have h_36 := hw
            exact hU _ _ _ (J64 0 x_18 j39_h1_f3 x_34 w_35 g_h0_f1 g_h1_f1 g_h1_f2 g_h1_f3 (RG_w h_36 (by decide +kernel)) h_20 g_j39_h1_f3 (RG_k 0 0 rfl) g_j8_h0_f1 g_j8_h1_f2 g_j8_h1_f3 g_j8_l3 (RG_w g_30 (by decide +kernel)) g_j8_l5 _ _ _ hP hD hS (lv_sub hl [0, 1, 3, 4, 5] rfl))
        · refine lv_istore_n (lv' := [(3, .int r_17), (5, .int j8_l5), (4, .int j8_l4), (0, .ref h0), (1, .ref h1), (2, .int 2)]) hx hb dX4_readSum_47 rfl hl (Nat.le_of_ble_eq_true rfl) rfl (fun ls hl => ?_)
          refine lv_iload_n hx hb dX4_readSum_48 rfl (lv_at hl 0 rfl) ?_
          refine lv_if_ne (tgt := 80) hx hb dX4_readSum_49 rfl (fun c_37 => ?_) (fun c_37 => ?_)
          · have g_38 : RG r_17 1 60 := RG_ne1 h_22 (q := 0) rfl c_37 (by decide +kernel)
            exact hU _ _ _ (J80 r_17 j8_l4 x_18 j39_h1_f3 j39_h0_f1 j39_h0_0c g_h0_f1 h_24 g_h1_f2 g_h1_f3 g_j39_h0_f1 h_23 h_25 (RG_w g_38 (by decide +kernel)) g_j8_l4 g_j8_h0_f1 g_j8_h1_f2 g_j8_h1_f3 g_j8_l3 g_j8_l4 g_j8_l5 _ _ _ hP hD hS (lv_sub hl [0, 1, 2, 3, 4, 5] rfl))
          · have g_39 : RG r_17 0 0 := RG_eq1 h_22 (RG_k 0 0 rfl) c_37 (by decide +kernel)
            refine lv_iload hx hb dX4_readSum_52 (lv_at hl 2 rfl) ?_
            refine lv_if_eq (tgt := 64) hx hb dX4_readSum_54 rfl (fun c_40 => ?_) (fun c_40 => ?_)
            · have g_41 : RG j8_l4 0 0 := RG_eq1 g_j8_l4 (RG_k 0 0 rfl) c_40 (by decide +kernel)
              exact hU _ _ _ (J64 r_17 x_18 j39_h1_f3 j39_h0_f1 j39_h0_0c g_h0_f1 (RG_w h_24 (by decide +kernel)) g_h1_f2 g_h1_f3 g_j39_h0_f1 (RG_w h_23 (by decide +kernel)) (RG_w h_25 (by decide +kernel)) g_39 g_j8_h0_f1 g_j8_h1_f2 g_j8_h1_f3 g_j8_l3 (RG_w g_41 (by decide +kernel)) g_j8_l5 _ _ _ hP hD hS (lv_sub hl [0, 1, 3, 4, 5] rfl))
            · have g_42 : RG j8_l4 1 60 := RG_ne1 g_j8_l4 (q := 0) rfl c_40 (by decide +kernel)
              refine lv_aload_n hx hb dX4_readSum_57 rfl (lv_at hl 3 rfl) ?_
              as_aux_lemma =>
              refine lv_iload hx hb dX4_readSum_58 (lv_at hl 2 rfl) ?_
              refine lv_ineg hx hb dX4_readSum_60 ?_
              refine lv_topi (fun x_43 ex_43 => ?_)
              have g_44 : RG x_43 (-60) (-1) := RG_neg ex_43 g_42 (by decide +kernel)
              obtain ⟨hPc, hDc, hFc, hqc⟩ := cl_cut (wc := (wd_c_X4_emit h0 h0_0 j39_h0_f1 h0_2 h0_0 h0_0k j39_h0_0c)) hP hD hS hA [2, 3] (by decide +kernel) rfl
              have hKc := hK.sub (tys' := [(h0_0k, .int)]) [1] rfl
              have hrv := va_recv hKc hPc (ci := 4) (q0 := 0) rfl rfl
              refine va_callv (va_runV (As := [.int x_43]) (rest := []) ⟨hx, hb, hml, hown, hts⟩ (c_X4_emit l dC dI H.size h0 x_43 h0_0 j39_h0_f1 h0_2 h0_0k j39_h0_0c g_j39_h0_f1) (cwV 1 hts gf_c_X4_readSum_2_c_X4_emit rfl rfl rfl mdV_X4_emit ⟨Nat.le_of_ble_eq_true rfl, Nat.le_of_ble_eq_true rfl⟩) ⟨fun a U g mk q => by obtain ⟨q0, q1, qP, qK, qD⟩ := q; exact ⟨q0, q1, qP, va_K.moved (u := U) (U := U.calling g mk a) (Vm.Alike.refl U.vm) qK, qD⟩, hrv, fun U hU hW => ⟨rfl, by rw [hU], by rw [hU]; exact hPc, va_K.moved hW.alike hKc, hDc.weaken (fun _ _ _ _ => trivial)⟩⟩ rfl rfl hl.1 rfl (lv_room (Nat.le_of_ble_eq_true rfl)) dX4_readSum_61 ⟨Nat.le_of_ble_eq_true rfl, Nat.le_of_ble_eq_true rfl⟩) hS (fun q _ h => hFc q h) hFc (fun u t H1 locs ht hvm hw hB hz1 hk1 hS => ?_)
              obtain ⟨x_46, w_47⟩ := u
              obtain ⟨hP1, hK1, hD1⟩ := hB
              rw [ht] at hP1
              obtain ⟨hP, hD⟩ := cl_put (w1 := (wd_c_X4_emit h0 h0_0 x_46 h0_2 h0_0 h0_0k w_47)) (nw := (wd_c_X4_readSum_2 h1 h1_0 h1_f1 x_18 j39_h1_f3 h1_0 h1_0k h1_0c h0 h0_0 x_46 h0_2 h0_0 h0_0k w_47)) hP hD [2, 3] [0, 1, 4, 5] 4 rfl hqc (by decide +kernel) rfl hk1 hFc hP1 hD1
              generalize H1 = H at hP hS ⊢
              as_aux_lemma =>
              have h_48 := hw
              exact hU _ _ _ (J64 r_17 x_18 j39_h1_f3 x_46 w_47 g_h0_f1 (RG_w h_24 (by decide +kernel)) g_h1_f2 g_h1_f3 (RG_w h_48 (by decide +kernel)) (RG_w h_23 (by decide +kernel)) (RG_w h_25 (by decide +kernel)) g_39 g_j8_h0_f1 g_j8_h1_f2 g_j8_h1_f3 g_j8_l3 (RG_w g_42 (by decide +kernel)) g_j8_l5 _ _ _ hP hD hS (lv_sub hl [0, 1, 3, 4, 5] rfl))
      refine hG _ _ _ ?_
      refine lv_iload hx hb dX4_readSum_8 (lv_at hl 0 rfl) ?_
      refine lv_sipush (v := 240) hx hb dX4_readSum_10 kc_sipush_240 ?_
      refine lv_icmp_ge (tgt := 86) hx hb dX4_readSum_13 rfl (fun c_49 => ?_) (fun c_49 => ?_)
      · have g_50 : RG j8_l5 240 240 := RG_le2 (RG_k 240 240 rfl) g_j8_l5 c_49 (by decide +kernel)
        have hK9 := hK.sub (tys' := []) [] rfl
        exact W.vret hx hb hr (fun t ht hW => ⟨⟨(j8_h1_f2, j8_h1_f3, j8_h0_f1, j8_h0_0c), rfl, ⟨g_j8_h1_f2, g_j8_h1_f3, g_j8_h0_f1⟩, by rw [ht]; exact hP, va_K.moved hW.alike hK9, hD⟩, hS.F ht⟩) hS.2.2 dX4_readSum_86
      · have d_51 := Int32.not_le.mp c_49
        have g_52 : RG j8_l5 0 239 := RG_lt1 g_j8_l5 (RG_k 240 240 rfl) d_51 (by decide +kernel)
        refine lv_aload_n hx hb dX4_readSum_16 rfl (lv_at hl 4 rfl) ?_
        obtain ⟨hPc, hDc, hFc, hqc⟩ := cl_cut (wc := (wd_c_X9_isRight h1 h1_0 h1_f1 j8_h1_f2 j8_h1_f3)) hP hD hS hA [0] (by decide +kernel) rfl
        have hKc := hK.sub (tys' := []) [] rfl
        have hrv := va_recv hKc hPc (ci := 9) (q0 := 0) rfl rfl
        refine va_calli (va_runV (As := []) (rest := []) ⟨hx, hb, hml, hown, hts⟩ (c_X9_isRight l dC dI H.size h1 h1_0 h1_f1 j8_h1_f2 j8_h1_f3 g_h1_f1 g_j8_h1_f2 g_j8_h1_f3) (cwV 0 hts gf_c_X4_readSum_2_c_X9_isRight rfl rfl rfl mdV_X9_isRight ⟨Nat.le_of_ble_eq_true rfl, Nat.le_of_ble_eq_true rfl⟩) ⟨fun a U g mk q => by obtain ⟨q0, q1, qP, qK, qD⟩ := q; exact ⟨q0, q1, qP, va_K.moved (u := U) (U := U.calling g mk a) (Vm.Alike.refl U.vm) qK, qD⟩, hrv, fun U hU hW => ⟨rfl, by rw [hU], by rw [hU]; exact hPc, va_K.moved hW.alike hKc, hDc.weaken (fun _ _ _ _ => trivial)⟩⟩ rfl rfl hl.1 rfl (lv_room (Nat.le_of_ble_eq_true rfl)) dX4_readSum_17 ⟨Nat.le_of_ble_eq_true rfl, Nat.le_of_ble_eq_true rfl⟩) hS (fun q _ h => hFc q h) hFc (fun r_53 u t H1 locs ht hvm hw hB hz1 hk1 hS => ?_)
        as_aux_lemma =>
        obtain ⟨hP1, hK1, hD1⟩ := hB
        rw [ht] at hP1
        obtain ⟨hP, hD⟩ := cl_put (w1 := (wd_c_X9_isRight h1 h1_0 h1_f1 j8_h1_f2 j8_h1_f3)) (nw := (wd_c_X4_readSum_2 h1 h1_0 h1_f1 j8_h1_f2 j8_h1_f3 h1_0 h1_0k h1_0c h0 h0_0 j8_h0_f1 h0_2 h0_0 h0_0k j8_h0_0c)) hP hD [0] [4, 1, 2, 3] 4 rfl hqc (by decide +kernel) rfl hk1 hFc hP1 hD1
        generalize H1 = H at hP hS ⊢
        as_aux_lemma =>
        rcases hw with ⟨h_54, h_55⟩ | ⟨h_56, h_57⟩
        · rw [h_54]
          refine lv_if_eq (tgt := 86) hx hb dX4_readSum_20 rfl (fun c_58 => ?_) (fun c_58 => absurd c_58 (by decide +kernel))
          have hK9 := hK.sub (tys' := []) [] rfl
          exact W.vret hx hb hr (fun t ht hW => ⟨⟨(j8_h1_f2, j8_h1_f3, j8_h0_f1, j8_h0_0c), rfl, ⟨g_j8_h1_f2, (RG_w h_55 (by decide +kernel)), g_j8_h0_f1⟩, by rw [ht]; exact hP, va_K.moved hW.alike hK9, hD⟩, hS.F ht⟩) hS.2.2 dX4_readSum_86
        · rw [h_56]
          refine lv_if_eq (tgt := 86) hx hb dX4_readSum_20 rfl (fun c_59 => absurd c_59 (by decide +kernel)) (fun c_59 => ?_)
          refine lv_aload_n hx hb dX4_readSum_23 rfl (lv_at hl 3 rfl) ?_
          refine lv_aload_n hx hb dX4_readSum_24 rfl (lv_at hl 4 rfl) ?_
          refine lv_iload_n hx hb dX4_readSum_25 rfl (lv_at hl 5 rfl) ?_
          obtain ⟨hPc, hDc, hFc, hqc⟩ := cl_cut (wc := (wd_c_X4_readAtom_2 h1 h1_0 h1_f1 j8_h1_f2 j8_h1_f3 h1_0 h1_0k h1_0c h0 h0_0 j8_h0_f1 h0_2 h0_0 h0_0k j8_h0_0c)) hP hD hS hA [0, 1, 2, 3] (by decide +kernel) rfl
          have hKc := hK.sub (tys' := [(h1_0k, .int), (h0_0k, .int)]) [0, 1] rfl
          have hrv := va_recv hKc hPc (ci := 4) (q0 := 2) rfl rfl
          refine va_callv (va_runV (As := [.ref h1, .int 2]) (rest := []) ⟨hx, hb, hml, hown, hts⟩ (c_X4_readAtom_2 l dC dI H.size h0 h1 h1_0 h1_f1 j8_h1_f2 j8_h1_f3 h1_0k h1_0c h0_0 j8_h0_f1 h0_2 h0_0k j8_h0_0c ts4 tv4 g_h1_f1 g_j8_h1_f2 (RG_w h_57 (by decide +kernel)) a_h1_0c g_j8_h0_f1) (cwV 2 hts gf_c_X4_readSum_2_c_X4_readAtom_2 rfl rfl rfl mdV_X4_readAtom ⟨Nat.le_of_ble_eq_true rfl, Nat.le_of_ble_eq_true rfl⟩) ⟨fun a U g mk q => by obtain ⟨q0, q1, qP, qK, qD, qE0, qE1, qE2, qE3, qE4, qE5⟩ := q; exact ⟨q0, q1, qP, va_K.moved (u := U) (U := U.calling g mk a) (Vm.Alike.refl U.vm) qK, qD, vk_R.same rfl qE0, va_Z.moved (u := U) (U := U.calling g mk a) (Vm.Alike.refl U.vm) qE1, va_OF.moved (u := U) (U := U.calling g mk a) (Vm.Alike.refl U.vm) qE2, va_O.moved (u := U) (U := U.calling g mk a) (Vm.Alike.refl U.vm) qE3, va_OF.moved (u := U) (U := U.calling g mk a) (Vm.Alike.refl U.vm) qE4, va_T.moved (u := U) (U := U.calling g mk a) (Vm.Alike.refl U.vm) qE5⟩, hrv, fun U hU hW => ⟨rfl, by rw [hU], by rw [hU]; exact hPc, va_K.moved hW.alike hKc, hDc.weaken (fun _ _ _ _ => trivial), vk_R.warm hW hE_32, va_Z.moved hW.alike (by rw [hU]; exact (hE_10.kept hS.2.1).narrow hFc), va_OF.moved hW.alike (by rw [hU]; exact (hE_34.kept hS.2.1).narrow hFc), va_O.moved hW.alike (by rw [hU]; exact (hE_33.kept hS.2.1).narrow hFc), va_OF.moved hW.alike (by rw [hU]; exact (hE_35.kept hS.2.1).narrow hFc), va_T.moved hW.alike (by rw [hU]; exact (hE_36.kept hS.2.1).narrow hFc)⟩⟩ rfl rfl hl.1 rfl (lv_room (Nat.le_of_ble_eq_true rfl)) dX4_readSum_26 ⟨Nat.le_of_ble_eq_true rfl, Nat.le_of_ble_eq_true rfl⟩) hS (fun q _ h => hFc q h) hFc (fun u t H1 locs ht hvm hw hB hz1 hk1 hS => ?_)
          as_aux_lemma =>
          obtain ⟨x_61, x_62, x_63, w_64⟩ := u
          obtain ⟨hP1, hK1, hD1⟩ := hB
          rw [ht] at hP1
          obtain ⟨hP, hD⟩ := cl_put (w1 := (wd_c_X4_readAtom_2 h1 h1_0 h1_f1 x_61 x_62 h1_0 h1_0k h1_0c h0 h0_0 x_63 h0_2 h0_0 h0_0k w_64)) (nw := (wd_c_X4_readSum_2 h1 h1_0 h1_f1 x_61 x_62 h1_0 h1_0k h1_0c h0 h0_0 x_63 h0_2 h0_0 h0_0k w_64)) hP hD [0, 1, 2, 3] [4, 5, 6, 7] 4 rfl hqc (by decide +kernel) rfl hk1 hFc hP1 hD1
          generalize H1 = H at hP hS ⊢
          as_aux_lemma =>
          rcases hw with ⟨h_65, h_66, h_67⟩
          refine lv_iload_n hx hb dX4_readSum_29 rfl (lv_at hl 2 rfl) ?_
          refine lv_if_eq (tgt := 39) hx hb dX4_readSum_30 rfl (fun c_68 => ?_) (fun c_68 => ?_)
          · have g_69 : RG j8_l3 0 0 := RG_eq1 g_j8_l3 (RG_k 0 0 rfl) c_68 (by decide +kernel)
            exact hU _ _ _ (J39 x_61 x_62 x_63 w_64 g_h0_f1 g_h1_f1 g_h1_f2 g_h1_f3 h_67 h_65 h_66 g_j8_h0_f1 g_j8_h1_f2 h_57 (RG_w g_69 (by decide +kernel)) g_j8_l4 g_52 _ _ _ hP hD hS (lv_sub hl [0, 1, 3, 4, 5] rfl))
          · have g_70 : RG j8_l3 1 60 := RG_ne1 g_j8_l3 (q := 0) rfl c_68 (by decide +kernel)
            refine lv_aload_n hx hb dX4_readSum_33 rfl (lv_at hl 3 rfl) ?_
            refine lv_iload_n hx hb dX4_readSum_34 rfl (lv_at hl 2 rfl) ?_
            refine lv_ineg hx hb dX4_readSum_35 ?_
            refine lv_topi (fun x_71 ex_71 => ?_)
            have g_72 : RG x_71 (-60) (-1) := RG_neg ex_71 g_70 (by decide +kernel)
            obtain ⟨hPc, hDc, hFc, hqc⟩ := cl_cut (wc := (wd_c_X4_emit h0 h0_0 x_63 h0_2 h0_0 h0_0k w_64)) hP hD hS hA [2, 3] (by decide +kernel) rfl
            have hKc := hK.sub (tys' := [(h0_0k, .int)]) [1] rfl
            have hrv := va_recv hKc hPc (ci := 4) (q0 := 0) rfl rfl
            refine va_callv (va_runV (As := [.int x_71]) (rest := []) ⟨hx, hb, hml, hown, hts⟩ (c_X4_emit l dC dI H.size h0 x_71 h0_0 x_63 h0_2 h0_0k w_64 h_67) (cwV 1 hts gf_c_X4_readSum_2_c_X4_emit rfl rfl rfl mdV_X4_emit ⟨Nat.le_of_ble_eq_true rfl, Nat.le_of_ble_eq_true rfl⟩) ⟨fun a U g mk q => by obtain ⟨q0, q1, qP, qK, qD⟩ := q; exact ⟨q0, q1, qP, va_K.moved (u := U) (U := U.calling g mk a) (Vm.Alike.refl U.vm) qK, qD⟩, hrv, fun U hU hW => ⟨rfl, by rw [hU], by rw [hU]; exact hPc, va_K.moved hW.alike hKc, hDc.weaken (fun _ _ _ _ => trivial)⟩⟩ rfl rfl hl.1 rfl (lv_room (Nat.le_of_ble_eq_true rfl)) dX4_readSum_36 ⟨Nat.le_of_ble_eq_true rfl, Nat.le_of_ble_eq_true rfl⟩) hS (fun q _ h => hFc q h) hFc (fun u t H1 locs ht hvm hw hB hz1 hk1 hS => ?_)
            as_aux_lemma =>
            obtain ⟨x_74, w_75⟩ := u
            obtain ⟨hP1, hK1, hD1⟩ := hB
            rw [ht] at hP1
            obtain ⟨hP, hD⟩ := cl_put (w1 := (wd_c_X4_emit h0 h0_0 x_74 h0_2 h0_0 h0_0k w_75)) (nw := (wd_c_X4_readSum_2 h1 h1_0 h1_f1 x_61 x_62 h1_0 h1_0k h1_0c h0 h0_0 x_74 h0_2 h0_0 h0_0k w_75)) hP hD [2, 3] [0, 1, 4, 5] 4 rfl hqc (by decide +kernel) rfl hk1 hFc hP1 hD1
            generalize H1 = H at hP hS ⊢
            as_aux_lemma =>
            have h_76 := hw
            exact hU _ _ _ (J39 x_61 x_62 x_74 w_75 g_h0_f1 g_h1_f1 g_h1_f2 g_h1_f3 (RG_w h_76 (by decide +kernel)) h_65 h_66 g_j8_h0_f1 g_j8_h1_f2 h_57 (RG_w g_70 (by decide +kernel)) g_j8_l4 g_52 _ _ _ hP hD hS (lv_sub hl [0, 1, 3, 4, 5] rfl))
  refine hG _ _ _ ?_
  refine lv_iconst (v := 0) hx hb dX4_readSum_0 kc_iconst_0 ?_
  refine lv_istore_n (lv' := [(3, .int 0), (0, .ref h0), (1, .ref h1), (2, .int 2)]) hx hb dX4_readSum_1 rfl hl (Nat.le_of_ble_eq_true rfl) rfl (fun ls hl => ?_)
  refine lv_iconst (v := 0) hx hb dX4_readSum_2 kc_iconst_0 ?_
  refine lv_istore (lv' := [(4, .int 0), (3, .int 0), (0, .ref h0), (1, .ref h1), (2, .int 2)]) hx hb dX4_readSum_3 hl (Nat.le_of_ble_eq_true rfl) rfl (fun ls hl => ?_)
  refine lv_iconst (v := 0) hx hb dX4_readSum_5 kc_iconst_0 ?_
  refine lv_istore (lv' := [(5, .int 0), (4, .int 0), (3, .int 0), (0, .ref h0), (1, .ref h1), (2, .int 2)]) hx hb dX4_readSum_6 hl (Nat.le_of_ble_eq_true rfl) rfl (fun ls hl => ?_)
  exact hU _ _ _ (J8 _ 0 0 0 h1_f2 h1_f3 h0_f1 h0_0c (Nat.lt_succ_self _) g_h0_f1 g_h1_f1 g_h1_f2 g_h1_f3 g_h0_f1 g_h1_f2 g_h1_f3 (RG_w (RG_k 0 0 rfl) (by decide +kernel)) (RG_w (RG_k 0 0 rfl) (by decide +kernel)) (RG_w (RG_k 0 0 rfl) (by decide +kernel)) _ _ _ hP hD hS (lv_sub hl [0, 1, 2, 3, 4, 5] rfl))
noncomputable def wd_c_X4_readAtom_1 (a0 : Nat) (a1 : Nat) (a2 : Int32) (a3 : Int32) (a4 : Int32) (a5 : Nat) (a6 : ClassId) (a7 : Nat → Int32) (a8 : Nat) (a9 : Nat) (a10 : Int32) (a11 : Nat) (a12 : Nat) (a13 : ClassId) (a14 : Nat → Int32) : va_W := [(a0, .inr (9, [.ref a1, .int a2, .int a3, .int a4])), (a5, .inl (a6, 240, .inl a7)), (a8, .inr (4, [.ref a9, .int a10, .ref a11])), (a12, .inl (a13, 240, .inl a14))]
noncomputable def wf_c_X4_readAtom_1 : List Cond := List.cons (.code yX4_readAtom cX4_readAtom 6 none) (@HAppend.hAppend (List Cond) (List Cond) (List Cond) _ (@HAppend.hAppend (List Cond) (List Cond) (List Cond) _ [.methodLink RX4 41 yX9_peek, .instanceMethod yX9_peek, .selects RX9 yX9_peek yX9_peek, .initialized RX9, .code yX9_peek cX9_peek 1 (some .int), .fieldLink RX9 22 "BuoyVote$Tape" "at" "I", .fieldLink RX9 19 "BuoyVote$Tape" "length" "I", .fieldLink RX9 11 "BuoyVote$Tape" "bytes" "[I", .methodLink RX4 93 yJ0_indexOf_0f7a4, .instanceMethod yJ0_indexOf_0f7a4, .selects RJ0 yJ0_indexOf_0f7a4 yJ0_indexOf_0f7a4, .initialized RJ0, .code yJ0_indexOf_0f7a4 cJ0_indexOf_0f7a4 2 (some .int), .methodLink RJ0 633 yJ0_indexOf_7cf53, .instanceMethod yJ0_indexOf_7cf53, .selects RJ0 yJ0_indexOf_7cf53 yJ0_indexOf_7cf53, .code yJ0_indexOf_7cf53 cJ0_indexOf_7cf53 3 (some .int), .methodLink RJ0 492 yJ0_isLatin1_aae02, .instanceMethod yJ0_isLatin1_aae02, .selects RJ0 yJ0_isLatin1_aae02 yJ0_isLatin1_aae02, .code yJ0_isLatin1_aae02 cJ0_isLatin1_aae02 1 (some .boolean), .fieldLink RJ0 38 "java/lang/String" "COMPACT_STRINGS" "Z", .fieldLink RJ0 15 "java/lang/String" "coder" "B", .fieldLink RJ0 9 "java/lang/String" "value" "[B", .methodLink RJ0 505 yJ0_length_8abf5, .instanceMethod yJ0_length_8abf5, .selects RJ0 yJ0_length_8abf5 yJ0_length_8abf5, .code yJ0_length_8abf5 cJ0_length_8abf5 1 (some .int), .methodLink RJ0 335 yJ0_coder_7d493, .instanceMethod yJ0_coder_7d493, .selects RJ0 yJ0_coder_7d493 yJ0_coder_7d493, .code yJ0_coder_7d493 cJ0_coder_7d493 1 (some .byte), .methodLink RJ0 637 yJ1_indexOf_4cfef, .static yJ1_indexOf_4cfef, .initialized RJ1, .code yJ1_indexOf_4cfef cJ1_indexOf_4cfef 4 (some .int), .methodLink RJ1 88 yJ1_canEncode_9a6ad, .static yJ1_canEncode_9a6ad, .code yJ1_canEncode_9a6ad cJ1_canEncode_9a6ad 1 (some .boolean), .methodLink RJ1 92 Lib.Math.max.name, .static Lib.Math.max.name, .initialized "java/lang/Math", .code Lib.Math.max.name Lib.Math.max.code 2 (some .int), .methodLink RJ1 38 Lib.Math.min.name, .static Lib.Math.min.name, .code Lib.Math.min.name Lib.Math.min.code 2 (some .int), .methodLink RJ1 95 yJ1_indexOfChar_4cfef, .static yJ1_indexOfChar_4cfef, .code yJ1_indexOfChar_4cfef cJ1_indexOfChar_4cfef 6 (some .int), .methodLink RX4 99 yX9_number, .instanceMethod yX9_number, .selects RX9 yX9_number yX9_number, .code yX9_number cX9_number 4 (some .int), .methodLink RX4 82 yX9_refuseHere, .instanceMethod yX9_refuseHere, .selects RX9 yX9_refuseHere yX9_refuseHere, .code yX9_refuseHere cX9_refuseHere 1 none, .methodLink RX9 25 yX9_refuse, .instanceMethod yX9_refuse, .selects RX9 yX9_refuse yX9_refuse, .code yX9_refuse cX9_refuse 2 none, .fieldLink RX9 15 "BuoyVote$Tape" "wrong" "I", .methodLink RX4 79 yX9_skip, .instanceMethod yX9_skip, .selects RX9 yX9_skip yX9_skip, .code yX9_skip cX9_skip 1 none, .methodLink RX4 49 yX4_readSum, .instanceMethod yX4_readSum, .selects RX4 yX4_readSum yX4_readSum, .initialized RX4, .code yX4_readSum cX4_readSum 6 none, .methodLink RX4 72 yX9_isRight, .instanceMethod yX9_isRight, .selects RX9 yX9_isRight yX9_isRight, .code yX9_isRight cX9_isRight 1 (some .boolean), .methodLink RX4 85 yX4_readAtom, .instanceMethod yX4_readAtom, .selects RX4 yX4_readAtom yX4_readAtom, .methodLink RX4 60 yX4_emit, .instanceMethod yX4_emit, .selects RX4 yX4_emit yX4_emit, .code yX4_emit cX4_emit 2 none, .fieldLink RX4 20 "BuoyVote$Law" "length" "I", .fieldLink RX4 11 "BuoyVote$Law" "code" "[I", .methodLink RX4 88 yX9_takeEither, .instanceMethod yX9_takeEither, .selects RX9 yX9_takeEither yX9_takeEither, .code yX9_takeEither cX9_takeEither 4 (some .int), .methodLink RX9 29 yX9_peek, .methodLink RX4 37 yX9_expect, .instanceMethod yX9_expect, .selects RX9 yX9_expect yX9_expect, .code yX9_expect cX9_expect 2 none] wsX90) wsX40)
theorem iw_c_X4_readAtom_1_X9 : ∀ w ∈ wsX90, w ∈ wf_c_X4_readAtom_1 := fun w h => List.mem_cons_of_mem _ (List.mem_append_left _ (List.mem_append_right _ h))
theorem iw_c_X4_readAtom_1_X4 : ∀ w ∈ wsX40, w ∈ wf_c_X4_readAtom_1 := fun w h => List.mem_cons_of_mem _ (List.mem_append_right _ h)
set_option maxRecDepth 20000 in
theorem gf_c_X4_readAtom_1_c_X4_emit_1 : GoodIn wf_c_X4_readAtom_1 (wsV RX4 60 RX4 yX4_emit wf_c_X4_emit_1) := goodIn_app (gi_l [79, 80, 81, 70] rfl rfl) (gi_cons (j := 82) rfl rfl (goodIn_app (gi_l [83, 84] rfl rfl) (goodIn_sub iw_c_X4_readAtom_1_X4 gw_X4)))
set_option maxRecDepth 20000 in
theorem gf_c_X4_readAtom_1_c_X9_number_1 : GoodIn wf_c_X4_readAtom_1 (wsV RX4 99 RX9 yX9_number wf_c_X9_number_1) := goodIn_app (gi_l [50, 51, 52, 4] rfl rfl) (gi_cons (j := 53) rfl rfl (goodIn_app (gi_l [6, 7, 8] rfl rfl) (goodIn_sub iw_c_X4_readAtom_1_X9 gw_X9)))
set_option maxRecDepth 20000 in
theorem gf_c_X4_readAtom_1_c_X9_refuseHere : GoodIn wf_c_X4_readAtom_1 (wsV RX4 82 RX9 yX9_refuseHere wf_c_X9_refuseHere) := goodIn_app (gi_l [54, 55, 56, 4] rfl rfl) (gi_cons (j := 57) rfl rfl (goodIn_app (gi_l [6, 58, 59, 60, 4, 61, 62] rfl rfl) (goodIn_sub iw_c_X4_readAtom_1_X9 gw_X9)))
set_option maxRecDepth 20000 in
theorem gf_c_X4_readAtom_1_c_X9_skip : GoodIn wf_c_X4_readAtom_1 (wsV RX4 79 RX9 yX9_skip wf_c_X9_skip) := goodIn_app (gi_l [63, 64, 65, 4] rfl rfl) (gi_cons (j := 66) rfl rfl (goodIn_app (gi_l [6] rfl rfl) (goodIn_sub iw_c_X4_readAtom_1_X9 gw_X9)))
set_option maxRecDepth 20000 in
theorem gf_c_X4_readAtom_1_c_X4_readSum_2 : GoodIn wf_c_X4_readAtom_1 (wsV RX4 49 RX4 yX4_readSum wf_c_X4_readSum_2) := goodIn_app (gi_l [67, 68, 69, 70] rfl rfl) (gi_cons (j := 71) rfl rfl (goodIn_app (goodIn_app (gi_l [72, 73, 74, 4, 75, 62, 76, 77, 78, 70, 0, 1, 2, 3, 5, 6, 7, 8, 9, 10, 11, 12, 13, 14, 15, 16, 17, 18, 19, 20, 21, 22, 23, 24, 25, 26, 27, 28, 29, 30, 31, 32, 33, 34, 35, 36, 37, 38, 39, 40, 41, 42, 43, 44, 45, 46, 47, 48, 49, 50, 51, 52, 53, 54, 55, 56, 57, 58, 59, 60, 61, 63, 64, 65, 66, 67, 68, 69, 79, 80, 81, 82, 83, 84, 85, 86, 87, 88, 89, 90, 91, 92, 93] rfl rfl) (goodIn_sub iw_c_X4_readAtom_1_X9 gw_X9)) (goodIn_sub iw_c_X4_readAtom_1_X4 gw_X4)))
set_option maxRecDepth 20000 in
theorem gf_c_X4_readAtom_1_c_X9_expect_2 : GoodIn wf_c_X4_readAtom_1 (wsV RX4 37 RX9 yX9_expect wf_c_X9_expect_2) := goodIn_app (gi_l [90, 91, 92, 4] rfl rfl) (gi_cons (j := 93) rfl rfl (goodIn_app (gi_l [62, 89, 2, 3, 4, 5, 6, 7, 8, 58, 59, 60, 61] rfl rfl) (goodIn_sub iw_c_X4_readAtom_1_X9 gw_X9)))
set_option maxRecDepth 20000 in
theorem gf_c_X4_readAtom_1_c_X4_emit : GoodIn wf_c_X4_readAtom_1 (wsV RX4 60 RX4 yX4_emit wf_c_X4_emit) := goodIn_app (gi_l [79, 80, 81, 70] rfl rfl) (gi_cons (j := 82) rfl rfl (goodIn_app (gi_l [83, 84] rfl rfl) (goodIn_sub iw_c_X4_readAtom_1_X4 gw_X4)))
set_option maxRecDepth 20000 in
theorem gf_c_X4_readAtom_1_c_X9_peek : GoodIn wf_c_X4_readAtom_1 (wsV RX4 41 RX9 yX9_peek wf_c_X9_peek) := goodIn_app (gi_l [1, 2, 3, 4] rfl rfl) (gi_cons (j := 5) rfl rfl (goodIn_app (gi_l [6, 7, 8] rfl rfl) (goodIn_sub iw_c_X4_readAtom_1_X9 gw_X9)))
set_option maxRecDepth 20000 in
theorem gf_c_X4_readAtom_1_c_J0_indexOf_0f7a4_4 : GoodIn wf_c_X4_readAtom_1 (wsV RX4 93 RJ0 yJ0_indexOf_0f7a4 wf_c_J0_indexOf_0f7a4_4) := goodIn_app (gi_l [9, 10, 11, 12] rfl rfl) (gi_cons (j := 13) rfl rfl (gi_l [14, 15, 16, 12, 17, 18, 19, 20, 21, 22, 23, 24, 25, 26, 27, 28, 29, 30, 31, 32, 33, 34, 35, 36, 37, 38, 39, 40, 41, 42, 43, 44, 45, 46, 47, 48, 49] rfl rfl))
set_option maxHeartbeats 4000000 in
set_option maxRecDepth 100000 in
theorem c_X4_readAtom_1 (l : Launch) (dC : Nat → ClassId) (dI : Nat → Nat → Nat) (sz : Nat) (h0 : Nat) (h1 : Nat) (h1_0 : Nat) (h1_f1 : Int32) (h1_f2 : Int32) (h1_f3 : Int32) (h1_0k : ClassId) (h1_0c : Nat → Int32) (h0_0 : Nat) (h0_f1 : Int32) (h0_2 : Nat) (h0_0k : ClassId) (h0_0c : Nat → Int32) (ts4 : Nat) (tv4 : Nat) (g_h1_f1 : RG h1_f1 0 240) (g_h1_f2 : RG h1_f2 0 240) (g_h1_f3 : RG h1_f3 (-1) 240) (a_h1_0c : AI h1_0c 0 255) (g_h0_f1 : RG h0_f1 0 240) : Met l yX4_readAtom wf_c_X4_readAtom_1 ({ frames := 14, cells := 0, slots := 0, locals := 341 }) (va_Pc [.ref h0, .ref h1, .int 1] (fun U => U.heap.size = sz ∧ va_P (dC, dI) vwCl (wd_c_X4_readAtom_1 h1 h1_0 h1_f1 h1_f2 h1_f3 h1_0 h1_0k h1_0c h0 h0_0 h0_f1 h0_2 h0_0 h0_0k h0_0c) U.heap ∧ va_K (dC, dI) vwCl [(h1_0k, .int), (h0_0k, .int)] U ∧ va_D (fun _ => True) (wd_c_X4_readAtom_1 h1 h1_0 h1_f1 h1_f2 h1_f3 h1_0 h1_0k h1_0c h0 h0_0 h0_f1 h0_2 h0_0 h0_0k h0_0c) ∧ vk_R RX4 91 "vlrdph" ts4 U ∧ va_Z "java/lang/String" "COMPACT_STRINGS" "Z" (.int 1) (va_A (wd_c_X4_readAtom_1 h1 h1_0 h1_f1 h1_f2 h1_f3 h1_0 h1_0k h1_0c h0 h0_0 h0_f1 h0_2 h0_0 h0_0k h0_0c) sz) U U.heap ∧ va_OF "java/lang/String" "coder" "B" (.int 0) ts4 (va_A (wd_c_X4_readAtom_1 h1 h1_0 h1_f1 h1_f2 h1_f3 h1_0 h1_0k h1_0c h0 h0_0 h0_f1 h0_2 h0_0 h0_0k h0_0c) sz) U U.heap ∧ va_O "java/lang/String" ts4 (va_A (wd_c_X4_readAtom_1 h1 h1_0 h1_f1 h1_f2 h1_f3 h1_0 h1_0k h1_0c h0 h0_0 h0_f1 h0_2 h0_0 h0_0k h0_0c) sz) U U.heap ∧ va_OF "java/lang/String" "value" "[B" (.ref tv4) ts4 (va_A (wd_c_X4_readAtom_1 h1 h1_0 h1_f1 h1_f2 h1_f3 h1_0 h1_0k h1_0c h0 h0_0 h0_f1 h0_2 h0_0 h0_0k h0_0c) sz) U U.heap ∧ va_T .byte tv4 6 (fun j => .int ([118, 108, 114, 100, 112, 104].getD j 0)) (va_A (wd_c_X4_readAtom_1 h1 h1_0 h1_f1 h1_f2 h1_f3 h1_0 h1_0k h1_0c h0 h0_0 h0_f1 h0_2 h0_0 h0_0k h0_0c) sz) U U.heap)) (va_Qv (fun (u : (Int32) × (Int32) × (Int32) × (Nat → Int32)) => (RG u.1 0 240 ∧ RG u.2.1 (-1) 240 ∧ RG u.2.2.1 0 240)) (fun (u : (Int32) × (Int32) × (Int32) × (Nat → Int32)) t => va_P (dC, dI) vwCl (wd_c_X4_readAtom_1 h1 h1_0 h1_f1 (u.1) (u.2.1) h1_0 h1_0k h1_0c h0 h0_0 (u.2.2.1) h0_2 h0_0 h0_0k (u.2.2.2)) t.heap ∧ va_K (dC, dI) vwCl [] t ∧ va_D (va_A (wd_c_X4_readAtom_1 h1 h1_0 h1_f1 h1_f2 h1_f3 h1_0 h1_0k h1_0c h0 h0_0 h0_f1 h0_2 h0_0 h0_0k h0_0c) sz) (wd_c_X4_readAtom_1 h1 h1_0 h1_f1 (u.1) (u.2.1) h1_0 h1_0k h1_0c h0 h0_0 (u.2.2.1) h0_2 h0_0 h0_0k (u.2.2.2))) (va_A (wd_c_X4_readAtom_1 h1 h1_0 h1_f1 h1_f2 h1_f3 h1_0 h1_0k h1_0c h0 h0_0 h0_f1 h0_2 h0_0 h0_0k h0_0c) sz)) 0 0 (va_A (wd_c_X4_readAtom_1 h1 h1_0 h1_f1 h1_f2 h1_f3 h1_0 h1_0k h1_0c h0 h0_0 h0_f1 h0_2 h0_0 h0_0k h0_0c) sz) := by
  refine Met.ofW (cc := cX4_readAtom) (maxL := 6) (ret := none) (by decide +kernel) rfl ?_
  intro p e s m args below meth c s₁ B hml hv
  obtain ⟨rfl, hsz, hP, hK, hD0, hE_32, hE_10, hE_34, hE_33, hE_35, hE_36⟩ := hv
  have hx := B.exec
  have hb := B.bytes
  have hr := B.returns
  have hts := atoms_spec (ws := wf_c_X4_readAtom_1) B.pre
  have hown : s.vm.findClass RX4 = some m.cls := findClass_of_methodNamed B.named
  have hlocks := B.notSynchronized
  subst hsz
  have hD := hD0.self (sz := s.heap.size)
  generalize hAe : va_A (wd_c_X4_readAtom_1 h1 h1_0 h1_f1 h1_f2 h1_f3 h1_0 h1_0k h1_0c h0 h0_0 h0_f1 h0_2 h0_0 h0_0k h0_0c) s.heap.size = A at hD hE_10 hE_34 hE_33 hE_35 hE_36 ⊢
  have hA : ∀ q : Nat, s.heap.size ≤ q → A q := fun q h => by rw [← hAe]; exact Or.inr h
  have hP : va_P (dC, dI) vwCl (wd_c_X4_readAtom_1 h1 h1_0 h1_f1 h1_f2 h1_f3 h1_0 h1_0k h1_0c h0 h0_0 h0_f1 h0_2 h0_0 h0_0k h0_0c) s.heap := hP
  have hl := lv_entry ([.ref h0, .ref h1, .int 1]) (n := 6) (Nat.le_of_ble_eq_true rfl)
  rw [lg_entry_eq]
  generalize (lg_sl ([.ref h0, .ref h1, .int 1]) ++ List.replicate (6 - (lg_sl ([.ref h0, .ref h1, .int 1])).length) Slot.unset).toArray = ls at hl ⊢
  have hl : lv_has ls 6 [(0, .ref h0), (1, .ref h1), (2, .int 1)] := hl
  obtain ⟨H, hHe⟩ : ∃ H : Heap, s.heap = H := ⟨_, rfl⟩
  have hS : va_S A s.heap H [] := by rw [hHe]; exact va_S.rf
  have hP : va_P (dC, dI) vwCl (wd_c_X4_readAtom_1 h1 h1_0 h1_f1 h1_f2 h1_f3 h1_0 h1_0k h1_0c h0 h0_0 h0_f1 h0_2 h0_0 h0_0k h0_0c) H := by rw [← hHe]; exact hP
  rw [hHe]
  refine wj (fun G hG hU => ?_)
  as_aux_lemma =>
  have J65 : ∀ (j65_l5 : Int32) (j65_h1_f2 : Int32) (j65_h1_f3 : Int32) (g_h0_f1 : RG h0_f1 0 240) (g_h1_f1 : RG h1_f1 0 240) (g_h1_f2 : RG h1_f2 0 240) (g_h1_f3 : RG h1_f3 (-1) 240) (g_j65_h1_f2 : RG j65_h1_f2 0 240) (g_j65_h1_f3 : RG j65_h1_f3 (-1) 240) (g_j65_l5 : RG j65_l5 (-1) 9999) (H : Heap) (locs : List Loc) (ls : Array Slot) (hP : va_P (dC, dI) vwCl (wd_c_X4_readAtom_1 h1 h1_0 h1_f1 j65_h1_f2 j65_h1_f3 h1_0 h1_0k h1_0c h0 h0_0 h0_f1 h0_2 h0_0 h0_0k h0_0c) H) (hD : va_D A (wd_c_X4_readAtom_1 h1 h1_0 h1_f1 j65_h1_f2 j65_h1_f3 h1_0 h1_0k h1_0c h0 h0_0 h0_f1 h0_2 h0_0 h0_0k h0_0c)) (hS : va_S A s.heap H locs) (hl : lv_has ls 6 [(5, .int j65_l5), (0, .ref h0)]), G H locs (F0 m 65 ls []) := by
    as_aux_lemma =>
    intro j65_l5 j65_h1_f2 j65_h1_f3 g_h0_f1 g_h1_f1 g_h1_f2 g_h1_f3 g_j65_h1_f2 g_j65_h1_f3 g_j65_l5 H locs ls hP hD hS hl
    refine hG _ _ _ ?_
    refine lv_aload_n hx hb dX4_readAtom_65 rfl (lv_at hl 1 rfl) ?_
    refine lv_iload hx hb dX4_readAtom_66 (lv_at hl 0 rfl) ?_
    obtain ⟨hPc, hDc, hFc, hqc⟩ := cl_cut (wc := (wd_c_X4_emit_1 h0 h0_0 h0_f1 h0_2 h0_0 h0_0k h0_0c)) hP hD hS hA [2, 3] (by decide +kernel) rfl
    have hKc := hK.sub (tys' := [(h0_0k, .int)]) [1] rfl
    have hrv := va_recv hKc hPc (ci := 4) (q0 := 0) rfl rfl
    refine va_callv (va_runV (As := [.int j65_l5]) (rest := []) ⟨hx, hb, hml, hown, hts⟩ (c_X4_emit_1 l dC dI H.size h0 j65_l5 h0_0 h0_f1 h0_2 h0_0k h0_0c (RG_w g_j65_l5 (by decide +kernel)) g_h0_f1) (cwV 1 hts gf_c_X4_readAtom_1_c_X4_emit_1 rfl rfl rfl mdV_X4_emit ⟨Nat.le_of_ble_eq_true rfl, Nat.le_of_ble_eq_true rfl⟩) ⟨fun a U g mk q => by obtain ⟨q0, q1, qP, qK, qD⟩ := q; exact ⟨q0, q1, qP, va_K.moved (u := U) (U := U.calling g mk a) (Vm.Alike.refl U.vm) qK, qD⟩, hrv, fun U hU hW => ⟨rfl, by rw [hU], by rw [hU]; exact hPc, va_K.moved hW.alike hKc, hDc.weaken (fun _ _ _ _ => trivial)⟩⟩ rfl rfl hl.1 rfl (lv_room (Nat.le_of_ble_eq_true rfl)) dX4_readAtom_68 ⟨Nat.le_of_ble_eq_true rfl, Nat.le_of_ble_eq_true rfl⟩) hS (fun q _ h => hFc q h) hFc (fun u t H1 locs ht hvm hw hB hz1 hk1 hS => ?_)
    obtain ⟨x_2, w_3⟩ := u
    obtain ⟨hP1, hK1, hD1⟩ := hB
    rw [ht] at hP1
    obtain ⟨hP, hD⟩ := cl_put (w1 := (wd_c_X4_emit_1 h0 h0_0 x_2 h0_2 h0_0 h0_0k w_3)) (nw := (wd_c_X4_readAtom_1 h1 h1_0 h1_f1 j65_h1_f2 j65_h1_f3 h1_0 h1_0k h1_0c h0 h0_0 x_2 h0_2 h0_0 h0_0k w_3)) hP hD [2, 3] [0, 1, 4, 5] 4 rfl hqc (by decide +kernel) rfl hk1 hFc hP1 hD1
    generalize H1 = H at hP hS ⊢
    as_aux_lemma =>
    have h_4 := hw
    refine lv_goto (tgt := 105) hx hb dX4_readAtom_71 rfl ?_
    have hK9 := hK.sub (tys' := []) [] rfl
    exact W.vret hx hb hr (fun t ht hW => ⟨⟨(j65_h1_f2, j65_h1_f3, x_2, w_3), rfl, ⟨g_j65_h1_f2, g_j65_h1_f3, (RG_w h_4 (by decide +kernel))⟩, by rw [ht]; exact hP, va_K.moved hW.alike hK9, hD⟩, hS.F ht⟩) hS.2.2 dX4_readAtom_105
  have J20 : ∀ (j20_h1_f2 : Int32) (g_h0_f1 : RG h0_f1 0 240) (g_h1_f1 : RG h1_f1 0 240) (g_h1_f2 : RG h1_f2 0 240) (g_h1_f3 : RG h1_f3 (-1) 240) (g_j20_h1_f2 : RG j20_h1_f2 0 240) (H : Heap) (locs : List Loc) (ls : Array Slot) (hP : va_P (dC, dI) vwCl (wd_c_X4_readAtom_1 h1 h1_0 h1_f1 j20_h1_f2 h1_f3 h1_0 h1_0k h1_0c h0 h0_0 h0_f1 h0_2 h0_0 h0_0k h0_0c) H) (hD : va_D A (wd_c_X4_readAtom_1 h1 h1_0 h1_f1 j20_h1_f2 h1_f3 h1_0 h1_0k h1_0c h0 h0_0 h0_f1 h0_2 h0_0 h0_0k h0_0c)) (hS : va_S A s.heap H locs) (hl : lv_has ls 6 [(3, .int (-1)), (0, .ref h0), (1, .ref h1), (2, .int 1)]), G H locs (F0 m 20 ls [.int (-1)]) := by
    as_aux_lemma =>
    intro j20_h1_f2 g_h0_f1 g_h1_f1 g_h1_f2 g_h1_f3 g_j20_h1_f2 H locs ls hP hD hS hl
    refine hG _ _ _ ?_
    refine lv_istore (lv' := [(4, .int (-1)), (3, .int (-1)), (0, .ref h0), (1, .ref h1), (2, .int 1)]) hx hb dX4_readAtom_20 hl (Nat.le_of_ble_eq_true rfl) rfl (fun ls hl => ?_)
    refine lv_iload hx hb dX4_readAtom_22 (lv_at hl 0 rfl) ?_
    refine lv_if_lt (tgt := 42) hx hb dX4_readAtom_24 rfl (fun c_5 => ?_) (fun c_5 => absurd c_5 (by decide +kernel))
    refine lv_iload_n hx hb dX4_readAtom_42 rfl (lv_at hl 1 rfl) ?_
    refine lv_bipush (v := 91) hx hb dX4_readAtom_43 kc_bipush_91 ?_
    refine lv_icmp_eq (tgt := 74) hx hb dX4_readAtom_45 rfl (fun c_6 => absurd c_6 (by decide +kernel)) (fun c_6 => ?_)
    refine lv_aload_n hx hb dX4_readAtom_48 rfl (lv_at hl 3 rfl) ?_
    refine lv_iconst (v := 4) hx hb dX4_readAtom_49 kc_iconst_4 ?_
    obtain ⟨hPc, hDc, hFc, hqc⟩ := cl_cut (wc := (wd_c_X9_number_1 h1 h1_0 h1_f1 j20_h1_f2 h1_f3 h1_0 h1_0k h1_0c)) hP hD hS hA [0, 1] (by decide +kernel) rfl
    have hKc := hK.sub (tys' := [(h1_0k, .int)]) [0] rfl
    have hrv := va_recv hKc hPc (ci := 9) (q0 := 0) rfl rfl
    refine va_calli (va_runV (As := [.int 4]) (rest := []) ⟨hx, hb, hml, hown, hts⟩ (c_X9_number_1 l dC dI H.size h1 h1_0 h1_f1 j20_h1_f2 h1_f3 h1_0k h1_0c g_h1_f1 g_j20_h1_f2 g_h1_f3 a_h1_0c) (cwV 1 hts gf_c_X4_readAtom_1_c_X9_number_1 rfl rfl rfl mdV_X9_number ⟨Nat.le_of_ble_eq_true rfl, Nat.le_of_ble_eq_true rfl⟩) ⟨fun a U g mk q => by obtain ⟨q0, q1, qP, qK, qD⟩ := q; exact ⟨q0, q1, qP, va_K.moved (u := U) (U := U.calling g mk a) (Vm.Alike.refl U.vm) qK, qD⟩, hrv, fun U hU hW => ⟨rfl, by rw [hU], by rw [hU]; exact hPc, va_K.moved hW.alike hKc, hDc.weaken (fun _ _ _ _ => trivial)⟩⟩ rfl rfl hl.1 rfl (lv_room (Nat.le_of_ble_eq_true rfl)) dX4_readAtom_50 ⟨Nat.le_of_ble_eq_true rfl, Nat.le_of_ble_eq_true rfl⟩) hS (fun q _ h => hFc q h) hFc (fun r_7 x_8 t H1 locs ht hvm hw hB hz1 hk1 hS => ?_)
    as_aux_lemma =>
    obtain ⟨hP1, hK1, hD1⟩ := hB
    rw [ht] at hP1
    obtain ⟨hP, hD⟩ := cl_put (w1 := (wd_c_X9_number_1 h1 h1_0 h1_f1 x_8 h1_f3 h1_0 h1_0k h1_0c)) (nw := (wd_c_X4_readAtom_1 h1 h1_0 h1_f1 x_8 h1_f3 h1_0 h1_0k h1_0c h0 h0_0 h0_f1 h0_2 h0_0 h0_0k h0_0c)) hP hD [0, 1] [4, 5, 2, 3] 4 rfl hqc (by decide +kernel) rfl hk1 hFc hP1 hD1
    generalize H1 = H at hP hS ⊢
    as_aux_lemma =>
    rcases hw with ⟨h_9, h_10, h_11⟩ | ⟨h_12, h_13, h_14, h_15, h_16⟩
    · rw [h_9]
      refine lv_istore (lv' := [(5, .int (-1)), (4, .int (-1)), (3, .int (-1)), (0, .ref h0), (1, .ref h1), (2, .int 1)]) hx hb dX4_readAtom_53 hl (Nat.le_of_ble_eq_true rfl) rfl (fun ls hl => ?_)
      refine lv_iload hx hb dX4_readAtom_55 (lv_at hl 0 rfl) ?_
      refine lv_iconst (v := (-1)) hx hb dX4_readAtom_57 kc_iconst_m1 ?_
      refine lv_icmp_ne (tgt := 65) hx hb dX4_readAtom_58 rfl (fun c_17 => absurd c_17 (by decide +kernel)) (fun c_17 => ?_)
      refine lv_aload_n hx hb dX4_readAtom_61 rfl (lv_at hl 4 rfl) ?_
      obtain ⟨hPc, hDc, hFc, hqc⟩ := cl_cut (wc := (wd_c_X9_refuseHere h1 h1_0 h1_f1 x_8 h1_f3)) hP hD hS hA [0] (by decide +kernel) rfl
      have hKc := hK.sub (tys' := []) [] rfl
      have hrv := va_recv hKc hPc (ci := 9) (q0 := 0) rfl rfl
      refine va_callv (va_runV (As := []) (rest := []) ⟨hx, hb, hml, hown, hts⟩ (c_X9_refuseHere l dC dI H.size h1 h1_0 h1_f1 x_8 h1_f3 g_h1_f1 h_10 g_h1_f3) (cwV 0 hts gf_c_X4_readAtom_1_c_X9_refuseHere rfl rfl rfl mdV_X9_refuseHere ⟨Nat.le_of_ble_eq_true rfl, Nat.le_of_ble_eq_true rfl⟩) ⟨fun a U g mk q => by obtain ⟨q0, q1, qP, qK, qD⟩ := q; exact ⟨q0, q1, qP, va_K.moved (u := U) (U := U.calling g mk a) (Vm.Alike.refl U.vm) qK, qD⟩, hrv, fun U hU hW => ⟨rfl, by rw [hU], by rw [hU]; exact hPc, va_K.moved hW.alike hKc, hDc.weaken (fun _ _ _ _ => trivial)⟩⟩ rfl rfl hl.1 rfl (lv_room (Nat.le_of_ble_eq_true rfl)) dX4_readAtom_62 ⟨Nat.le_of_ble_eq_true rfl, Nat.le_of_ble_eq_true rfl⟩) hS (fun q _ h => hFc q h) hFc (fun x_19 t H1 locs ht hvm hw hB hz1 hk1 hS => ?_)
      obtain ⟨hP1, hK1, hD1⟩ := hB
      rw [ht] at hP1
      obtain ⟨hP, hD⟩ := cl_put (w1 := (wd_c_X9_refuseHere h1 h1_0 h1_f1 x_8 x_19)) (nw := (wd_c_X4_readAtom_1 h1 h1_0 h1_f1 x_8 x_19 h1_0 h1_0k h1_0c h0 h0_0 h0_f1 h0_2 h0_0 h0_0k h0_0c)) hP hD [0] [4, 1, 2, 3] 4 rfl hqc (by decide +kernel) rfl hk1 hFc hP1 hD1
      generalize H1 = H at hP hS ⊢
      as_aux_lemma =>
      have h_20 := hw
      exact hU _ _ _ (J65 (-1) x_8 x_19 g_h0_f1 g_h1_f1 g_h1_f2 g_h1_f3 h_10 (RG_w h_20 (by decide +kernel)) (RG_w (RG_k (-1) (-1) rfl) (by decide +kernel)) _ _ _ hP hD hS (lv_sub hl [0, 3] rfl))
    · refine lv_istore (lv' := [(5, .int r_7), (4, .int (-1)), (3, .int (-1)), (0, .ref h0), (1, .ref h1), (2, .int 1)]) hx hb dX4_readAtom_53 hl (Nat.le_of_ble_eq_true rfl) rfl (fun ls hl => ?_)
      refine lv_iload hx hb dX4_readAtom_55 (lv_at hl 0 rfl) ?_
      refine lv_iconst (v := (-1)) hx hb dX4_readAtom_57 kc_iconst_m1 ?_
      refine lv_icmp_ne (tgt := 65) hx hb dX4_readAtom_58 rfl (fun c_21 => ?_) (fun c_21 => ?_)
      · exact hU _ _ _ (J65 r_7 x_8 h1_f3 g_h0_f1 (RG_w h_14 (by decide +kernel)) g_h1_f2 g_h1_f3 (RG_w h_13 (by decide +kernel)) g_h1_f3 (RG_w h_12 (by decide +kernel)) _ _ _ hP hD hS (lv_sub hl [0, 3] rfl))
      · exact RG_dead (RG_eq1 h_12 (RG_k (-1) (-1) rfl) c_21 (a' := 0) (b' := (-1)) (by decide +kernel)) (by decide +kernel)
  have J65b : ∀ (j65b_l5 : Int32) (j65b_h1_f2 : Int32) (j65b_h1_f3 : Int32) (g_h0_f1 : RG h0_f1 0 240) (g_h1_f1 : RG h1_f1 1 240) (g_h1_f2 : RG h1_f2 0 240) (g_h1_f3 : RG h1_f3 (-1) 240) (g_j65b_h1_f2 : RG j65b_h1_f2 0 240) (g_j65b_h1_f3 : RG j65b_h1_f3 (-1) 240) (g_j65b_l5 : RG j65b_l5 (-1) 9999) (H : Heap) (locs : List Loc) (ls : Array Slot) (hP : va_P (dC, dI) vwCl (wd_c_X4_readAtom_1 h1 h1_0 h1_f1 j65b_h1_f2 j65b_h1_f3 h1_0 h1_0k h1_0c h0 h0_0 h0_f1 h0_2 h0_0 h0_0k h0_0c) H) (hD : va_D A (wd_c_X4_readAtom_1 h1 h1_0 h1_f1 j65b_h1_f2 j65b_h1_f3 h1_0 h1_0k h1_0c h0 h0_0 h0_f1 h0_2 h0_0 h0_0k h0_0c)) (hS : va_S A s.heap H locs) (hl : lv_has ls 6 [(5, .int j65b_l5), (0, .ref h0)]), G H locs (F0 m 65 ls []) := by
    as_aux_lemma =>
    intro j65b_l5 j65b_h1_f2 j65b_h1_f3 g_h0_f1 g_h1_f1 g_h1_f2 g_h1_f3 g_j65b_h1_f2 g_j65b_h1_f3 g_j65b_l5 H locs ls hP hD hS hl
    refine hG _ _ _ ?_
    refine lv_aload_n hx hb dX4_readAtom_65 rfl (lv_at hl 1 rfl) ?_
    refine lv_iload hx hb dX4_readAtom_66 (lv_at hl 0 rfl) ?_
    obtain ⟨hPc, hDc, hFc, hqc⟩ := cl_cut (wc := (wd_c_X4_emit_1 h0 h0_0 h0_f1 h0_2 h0_0 h0_0k h0_0c)) hP hD hS hA [2, 3] (by decide +kernel) rfl
    have hKc := hK.sub (tys' := [(h0_0k, .int)]) [1] rfl
    have hrv := va_recv hKc hPc (ci := 4) (q0 := 0) rfl rfl
    refine va_callv (va_runV (As := [.int j65b_l5]) (rest := []) ⟨hx, hb, hml, hown, hts⟩ (c_X4_emit_1 l dC dI H.size h0 j65b_l5 h0_0 h0_f1 h0_2 h0_0k h0_0c (RG_w g_j65b_l5 (by decide +kernel)) g_h0_f1) (cwV 1 hts gf_c_X4_readAtom_1_c_X4_emit_1 rfl rfl rfl mdV_X4_emit ⟨Nat.le_of_ble_eq_true rfl, Nat.le_of_ble_eq_true rfl⟩) ⟨fun a U g mk q => by obtain ⟨q0, q1, qP, qK, qD⟩ := q; exact ⟨q0, q1, qP, va_K.moved (u := U) (U := U.calling g mk a) (Vm.Alike.refl U.vm) qK, qD⟩, hrv, fun U hU hW => ⟨rfl, by rw [hU], by rw [hU]; exact hPc, va_K.moved hW.alike hKc, hDc.weaken (fun _ _ _ _ => trivial)⟩⟩ rfl rfl hl.1 rfl (lv_room (Nat.le_of_ble_eq_true rfl)) dX4_readAtom_68 ⟨Nat.le_of_ble_eq_true rfl, Nat.le_of_ble_eq_true rfl⟩) hS (fun q _ h => hFc q h) hFc (fun u t H1 locs ht hvm hw hB hz1 hk1 hS => ?_)
    obtain ⟨x_23, w_24⟩ := u
    obtain ⟨hP1, hK1, hD1⟩ := hB
    rw [ht] at hP1
    obtain ⟨hP, hD⟩ := cl_put (w1 := (wd_c_X4_emit_1 h0 h0_0 x_23 h0_2 h0_0 h0_0k w_24)) (nw := (wd_c_X4_readAtom_1 h1 h1_0 h1_f1 j65b_h1_f2 j65b_h1_f3 h1_0 h1_0k h1_0c h0 h0_0 x_23 h0_2 h0_0 h0_0k w_24)) hP hD [2, 3] [0, 1, 4, 5] 4 rfl hqc (by decide +kernel) rfl hk1 hFc hP1 hD1
    generalize H1 = H at hP hS ⊢
    as_aux_lemma =>
    have h_25 := hw
    refine lv_goto (tgt := 105) hx hb dX4_readAtom_71 rfl ?_
    have hK9 := hK.sub (tys' := []) [] rfl
    exact W.vret hx hb hr (fun t ht hW => ⟨⟨(j65b_h1_f2, j65b_h1_f3, x_23, w_24), rfl, ⟨g_j65b_h1_f2, g_j65b_h1_f3, (RG_w h_25 (by decide +kernel))⟩, by rw [ht]; exact hP, va_K.moved hW.alike hK9, hD⟩, hS.F ht⟩) hS.2.2 dX4_readAtom_105
  have J20b : ∀ (j20b_l3 : Int32) (j20b_h1_f2 : Int32) (g_h0_f1 : RG h0_f1 0 240) (g_h1_f1 : RG h1_f1 1 240) (g_h1_f2 : RG h1_f2 0 240) (g_h1_f3 : RG h1_f3 (-1) 240) (g_j20b_h1_f2 : RG j20b_h1_f2 0 239) (g_j20b_l3 : RG j20b_l3 0 255) (H : Heap) (locs : List Loc) (ls : Array Slot) (hP : va_P (dC, dI) vwCl (wd_c_X4_readAtom_1 h1 h1_0 h1_f1 j20b_h1_f2 h1_f3 h1_0 h1_0k h1_0c h0 h0_0 h0_f1 h0_2 h0_0 h0_0k h0_0c) H) (hD : va_D A (wd_c_X4_readAtom_1 h1 h1_0 h1_f1 j20b_h1_f2 h1_f3 h1_0 h1_0k h1_0c h0 h0_0 h0_f1 h0_2 h0_0 h0_0k h0_0c)) (hS : va_S A s.heap H locs) (hl : lv_has ls 6 [(3, .int j20b_l3), (0, .ref h0), (1, .ref h1), (2, .int 1)]), G H locs (F0 m 20 ls [.int (-1)]) := by
    as_aux_lemma =>
    intro j20b_l3 j20b_h1_f2 g_h0_f1 g_h1_f1 g_h1_f2 g_h1_f3 g_j20b_h1_f2 g_j20b_l3 H locs ls hP hD hS hl
    refine hG _ _ _ ?_
    refine lv_istore (lv' := [(4, .int (-1)), (3, .int j20b_l3), (0, .ref h0), (1, .ref h1), (2, .int 1)]) hx hb dX4_readAtom_20 hl (Nat.le_of_ble_eq_true rfl) rfl (fun ls hl => ?_)
    refine lv_iload hx hb dX4_readAtom_22 (lv_at hl 0 rfl) ?_
    refine lv_if_lt (tgt := 42) hx hb dX4_readAtom_24 rfl (fun c_26 => ?_) (fun c_26 => absurd c_26 (by decide +kernel))
    refine lv_iload_n hx hb dX4_readAtom_42 rfl (lv_at hl 1 rfl) ?_
    refine lv_bipush (v := 91) hx hb dX4_readAtom_43 kc_bipush_91 ?_
    refine lv_icmp_eq (tgt := 74) hx hb dX4_readAtom_45 rfl (fun c_27 => ?_) (fun c_27 => ?_)
    · have g_28 : RG j20b_l3 91 91 := RG_eq1 g_j20b_l3 (RG_k 91 91 rfl) c_27 (by decide +kernel)
      refine lv_iload_n hx hb dX4_readAtom_74 rfl (lv_at hl 4 rfl) ?_
      refine lv_bipush (v := 6) hx hb dX4_readAtom_75 kc_bipush_6 ?_
      refine lv_icmp_lt (tgt := 87) hx hb dX4_readAtom_77 rfl (fun c_29 => ?_) (fun c_29 => absurd c_29 (by decide +kernel))
      refine lv_aload_n hx hb dX4_readAtom_87 rfl (lv_at hl 3 rfl) ?_
      obtain ⟨hPc, hDc, hFc, hqc⟩ := cl_cut (wc := (wd_c_X9_skip h1 h1_0 h1_f1 j20b_h1_f2 h1_f3)) hP hD hS hA [0] (by decide +kernel) rfl
      have hKc := hK.sub (tys' := []) [] rfl
      have hrv := va_recv hKc hPc (ci := 9) (q0 := 0) rfl rfl
      refine va_callv (va_runV (As := []) (rest := []) ⟨hx, hb, hml, hown, hts⟩ (c_X9_skip l dC dI H.size h1 h1_0 h1_f1 j20b_h1_f2 h1_f3 (RG_w g_h1_f1 (by decide +kernel)) g_j20b_h1_f2 g_h1_f3) (cwV 0 hts gf_c_X4_readAtom_1_c_X9_skip rfl rfl rfl mdV_X9_skip ⟨Nat.le_of_ble_eq_true rfl, Nat.le_of_ble_eq_true rfl⟩) ⟨fun a U g mk q => by obtain ⟨q0, q1, qP, qK, qD⟩ := q; exact ⟨q0, q1, qP, va_K.moved (u := U) (U := U.calling g mk a) (Vm.Alike.refl U.vm) qK, qD⟩, hrv, fun U hU hW => ⟨rfl, by rw [hU], by rw [hU]; exact hPc, va_K.moved hW.alike hKc, hDc.weaken (fun _ _ _ _ => trivial)⟩⟩ rfl rfl hl.1 rfl (lv_room (Nat.le_of_ble_eq_true rfl)) dX4_readAtom_88 ⟨Nat.le_of_ble_eq_true rfl, Nat.le_of_ble_eq_true rfl⟩) hS (fun q _ h => hFc q h) hFc (fun x_31 t H1 locs ht hvm hw hB hz1 hk1 hS => ?_)
      as_aux_lemma =>
      obtain ⟨hP1, hK1, hD1⟩ := hB
      rw [ht] at hP1
      obtain ⟨hP, hD⟩ := cl_put (w1 := (wd_c_X9_skip h1 h1_0 h1_f1 x_31 h1_f3)) (nw := (wd_c_X4_readAtom_1 h1 h1_0 h1_f1 x_31 h1_f3 h1_0 h1_0k h1_0c h0 h0_0 h0_f1 h0_2 h0_0 h0_0k h0_0c)) hP hD [0] [4, 1, 2, 3] 4 rfl hqc (by decide +kernel) rfl hk1 hFc hP1 hD1
      generalize H1 = H at hP hS ⊢
      as_aux_lemma =>
      rcases hw with ⟨h_32, h_33, h_34⟩
      refine lv_aload_n hx hb dX4_readAtom_91 rfl (lv_at hl 2 rfl) ?_
      refine lv_aload_n hx hb dX4_readAtom_92 rfl (lv_at hl 3 rfl) ?_
      refine lv_iload_n hx hb dX4_readAtom_93 rfl (lv_at hl 4 rfl) ?_
      refine lv_iconst (v := 1) hx hb dX4_readAtom_94 kc_iconst_1 ?_
      refine lv_iadd hx hb dX4_readAtom_95 ?_
      refine lv_topi (fun x_35 ex_35 => ?_)
      obtain rfl : x_35 = 2 := ex_35.trans (by decide +kernel)
      obtain ⟨hPc, hDc, hFc, hqc⟩ := cl_cut (wc := (wd_c_X4_readSum_2 h1 h1_0 h1_f1 x_31 h1_f3 h1_0 h1_0k h1_0c h0 h0_0 h0_f1 h0_2 h0_0 h0_0k h0_0c)) hP hD hS hA [0, 1, 2, 3] (by decide +kernel) rfl
      have hKc := hK.sub (tys' := [(h1_0k, .int), (h0_0k, .int)]) [0, 1] rfl
      have hrv := va_recv hKc hPc (ci := 4) (q0 := 2) rfl rfl
      refine va_callv (va_runV (As := [.ref h1, .int 2]) (rest := []) ⟨hx, hb, hml, hown, hts⟩ (c_X4_readSum_2 l dC dI H.size h0 h1 h1_0 h1_f1 x_31 h1_f3 h1_0k h1_0c h0_0 h0_f1 h0_2 h0_0k h0_0c ts4 tv4 (RG_w g_h1_f1 (by decide +kernel)) (RG_w h_32 (by decide +kernel)) g_h1_f3 a_h1_0c g_h0_f1) (cwV 2 hts gf_c_X4_readAtom_1_c_X4_readSum_2 rfl rfl rfl mdV_X4_readSum ⟨Nat.le_of_ble_eq_true rfl, Nat.le_of_ble_eq_true rfl⟩) ⟨fun a U g mk q => by obtain ⟨q0, q1, qP, qK, qD, qE0, qE1, qE2, qE3, qE4, qE5⟩ := q; exact ⟨q0, q1, qP, va_K.moved (u := U) (U := U.calling g mk a) (Vm.Alike.refl U.vm) qK, qD, vk_R.same rfl qE0, va_Z.moved (u := U) (U := U.calling g mk a) (Vm.Alike.refl U.vm) qE1, va_OF.moved (u := U) (U := U.calling g mk a) (Vm.Alike.refl U.vm) qE2, va_O.moved (u := U) (U := U.calling g mk a) (Vm.Alike.refl U.vm) qE3, va_OF.moved (u := U) (U := U.calling g mk a) (Vm.Alike.refl U.vm) qE4, va_T.moved (u := U) (U := U.calling g mk a) (Vm.Alike.refl U.vm) qE5⟩, hrv, fun U hU hW => ⟨rfl, by rw [hU], by rw [hU]; exact hPc, va_K.moved hW.alike hKc, hDc.weaken (fun _ _ _ _ => trivial), vk_R.warm hW hE_32, va_Z.moved hW.alike (by rw [hU]; exact (hE_10.kept hS.2.1).narrow hFc), va_OF.moved hW.alike (by rw [hU]; exact (hE_34.kept hS.2.1).narrow hFc), va_O.moved hW.alike (by rw [hU]; exact (hE_33.kept hS.2.1).narrow hFc), va_OF.moved hW.alike (by rw [hU]; exact (hE_35.kept hS.2.1).narrow hFc), va_T.moved hW.alike (by rw [hU]; exact (hE_36.kept hS.2.1).narrow hFc)⟩⟩ rfl rfl hl.1 rfl (lv_room (Nat.le_of_ble_eq_true rfl)) dX4_readAtom_96 ⟨Nat.le_of_ble_eq_true rfl, Nat.le_of_ble_eq_true rfl⟩) hS (fun q _ h => hFc q h) hFc (fun u t H1 locs ht hvm hw hB hz1 hk1 hS => ?_)
      obtain ⟨x_37, x_38, x_39, w_40⟩ := u
      obtain ⟨hP1, hK1, hD1⟩ := hB
      rw [ht] at hP1
      obtain ⟨hP, hD⟩ := cl_put (w1 := (wd_c_X4_readSum_2 h1 h1_0 h1_f1 x_37 x_38 h1_0 h1_0k h1_0c h0 h0_0 x_39 h0_2 h0_0 h0_0k w_40)) (nw := (wd_c_X4_readAtom_1 h1 h1_0 h1_f1 x_37 x_38 h1_0 h1_0k h1_0c h0 h0_0 x_39 h0_2 h0_0 h0_0k w_40)) hP hD [0, 1, 2, 3] [4, 5, 6, 7] 4 rfl hqc (by decide +kernel) rfl hk1 hFc hP1 hD1
      generalize H1 = H at hP hS ⊢
      as_aux_lemma =>
      rcases hw with ⟨h_41, h_42, h_43⟩
      refine lv_aload_n hx hb dX4_readAtom_99 rfl (lv_at hl 3 rfl) ?_
      refine lv_bipush (v := 93) hx hb dX4_readAtom_100 kc_bipush_93 ?_
      obtain ⟨hPc, hDc, hFc, hqc⟩ := cl_cut (wc := (wd_c_X9_expect_2 h1 h1_0 h1_f1 x_37 x_38 h1_0 h1_0k h1_0c)) hP hD hS hA [0, 1] (by decide +kernel) rfl
      have hKc := hK.sub (tys' := [(h1_0k, .int)]) [0] rfl
      have hrv := va_recv hKc hPc (ci := 9) (q0 := 0) rfl rfl
      refine va_callv (va_runV (As := [.int 93]) (rest := []) ⟨hx, hb, hml, hown, hts⟩ (c_X9_expect_2 l dC dI H.size h1 93 h1_0 h1_f1 x_37 x_38 h1_0k h1_0c (RG_w (RG_k 93 93 rfl) (by decide +kernel)) (RG_w g_h1_f1 (by decide +kernel)) h_41 h_42 a_h1_0c) (cwV 1 hts gf_c_X4_readAtom_1_c_X9_expect_2 rfl rfl rfl mdV_X9_expect ⟨Nat.le_of_ble_eq_true rfl, Nat.le_of_ble_eq_true rfl⟩) ⟨fun a U g mk q => by obtain ⟨q0, q1, qP, qK, qD⟩ := q; exact ⟨q0, q1, qP, va_K.moved (u := U) (U := U.calling g mk a) (Vm.Alike.refl U.vm) qK, qD⟩, hrv, fun U hU hW => ⟨rfl, by rw [hU], by rw [hU]; exact hPc, va_K.moved hW.alike hKc, hDc.weaken (fun _ _ _ _ => trivial)⟩⟩ rfl rfl hl.1 rfl (lv_room (Nat.le_of_ble_eq_true rfl)) dX4_readAtom_102 ⟨Nat.le_of_ble_eq_true rfl, Nat.le_of_ble_eq_true rfl⟩) hS (fun q _ h => hFc q h) hFc (fun u t H1 locs ht hvm hw hB hz1 hk1 hS => ?_)
      obtain ⟨x_45, x_46⟩ := u
      obtain ⟨hP1, hK1, hD1⟩ := hB
      rw [ht] at hP1
      obtain ⟨hP, hD⟩ := cl_put (w1 := (wd_c_X9_expect_2 h1 h1_0 h1_f1 x_45 x_46 h1_0 h1_0k h1_0c)) (nw := (wd_c_X4_readAtom_1 h1 h1_0 h1_f1 x_45 x_46 h1_0 h1_0k h1_0c h0 h0_0 x_39 h0_2 h0_0 h0_0k w_40)) hP hD [0, 1] [4, 5, 2, 3] 4 rfl hqc (by decide +kernel) rfl hk1 hFc hP1 hD1
      generalize H1 = H at hP hS ⊢
      as_aux_lemma =>
      rcases hw with ⟨h_47, h_48, h_49⟩
      have hK9 := hK.sub (tys' := []) [] rfl
      exact W.vret hx hb hr (fun t ht hW => ⟨⟨(x_45, x_46, x_39, w_40), rfl, ⟨h_47, h_48, h_43⟩, by rw [ht]; exact hP, va_K.moved hW.alike hK9, hD⟩, hS.F ht⟩) hS.2.2 dX4_readAtom_105
    · refine lv_aload_n hx hb dX4_readAtom_48 rfl (lv_at hl 3 rfl) ?_
      refine lv_iconst (v := 4) hx hb dX4_readAtom_49 kc_iconst_4 ?_
      obtain ⟨hPc, hDc, hFc, hqc⟩ := cl_cut (wc := (wd_c_X9_number_1 h1 h1_0 h1_f1 j20b_h1_f2 h1_f3 h1_0 h1_0k h1_0c)) hP hD hS hA [0, 1] (by decide +kernel) rfl
      have hKc := hK.sub (tys' := [(h1_0k, .int)]) [0] rfl
      have hrv := va_recv hKc hPc (ci := 9) (q0 := 0) rfl rfl
      refine va_calli (va_runV (As := [.int 4]) (rest := []) ⟨hx, hb, hml, hown, hts⟩ (c_X9_number_1 l dC dI H.size h1 h1_0 h1_f1 j20b_h1_f2 h1_f3 h1_0k h1_0c (RG_w g_h1_f1 (by decide +kernel)) (RG_w g_j20b_h1_f2 (by decide +kernel)) g_h1_f3 a_h1_0c) (cwV 1 hts gf_c_X4_readAtom_1_c_X9_number_1 rfl rfl rfl mdV_X9_number ⟨Nat.le_of_ble_eq_true rfl, Nat.le_of_ble_eq_true rfl⟩) ⟨fun a U g mk q => by obtain ⟨q0, q1, qP, qK, qD⟩ := q; exact ⟨q0, q1, qP, va_K.moved (u := U) (U := U.calling g mk a) (Vm.Alike.refl U.vm) qK, qD⟩, hrv, fun U hU hW => ⟨rfl, by rw [hU], by rw [hU]; exact hPc, va_K.moved hW.alike hKc, hDc.weaken (fun _ _ _ _ => trivial)⟩⟩ rfl rfl hl.1 rfl (lv_room (Nat.le_of_ble_eq_true rfl)) dX4_readAtom_50 ⟨Nat.le_of_ble_eq_true rfl, Nat.le_of_ble_eq_true rfl⟩) hS (fun q _ h => hFc q h) hFc (fun r_50 x_51 t H1 locs ht hvm hw hB hz1 hk1 hS => ?_)
      obtain ⟨hP1, hK1, hD1⟩ := hB
      rw [ht] at hP1
      obtain ⟨hP, hD⟩ := cl_put (w1 := (wd_c_X9_number_1 h1 h1_0 h1_f1 x_51 h1_f3 h1_0 h1_0k h1_0c)) (nw := (wd_c_X4_readAtom_1 h1 h1_0 h1_f1 x_51 h1_f3 h1_0 h1_0k h1_0c h0 h0_0 h0_f1 h0_2 h0_0 h0_0k h0_0c)) hP hD [0, 1] [4, 5, 2, 3] 4 rfl hqc (by decide +kernel) rfl hk1 hFc hP1 hD1
      generalize H1 = H at hP hS ⊢
      as_aux_lemma =>
      rcases hw with ⟨h_52, h_53, h_54⟩ | ⟨h_55, h_56, h_57, h_58, h_59⟩
      · rw [h_52]
        refine lv_istore (lv' := [(5, .int (-1)), (4, .int (-1)), (3, .int j20b_l3), (0, .ref h0), (1, .ref h1), (2, .int 1)]) hx hb dX4_readAtom_53 hl (Nat.le_of_ble_eq_true rfl) rfl (fun ls hl => ?_)
        refine lv_iload hx hb dX4_readAtom_55 (lv_at hl 0 rfl) ?_
        refine lv_iconst (v := (-1)) hx hb dX4_readAtom_57 kc_iconst_m1 ?_
        refine lv_icmp_ne (tgt := 65) hx hb dX4_readAtom_58 rfl (fun c_60 => absurd c_60 (by decide +kernel)) (fun c_60 => ?_)
        refine lv_aload_n hx hb dX4_readAtom_61 rfl (lv_at hl 4 rfl) ?_
        obtain ⟨hPc, hDc, hFc, hqc⟩ := cl_cut (wc := (wd_c_X9_refuseHere h1 h1_0 h1_f1 x_51 h1_f3)) hP hD hS hA [0] (by decide +kernel) rfl
        have hKc := hK.sub (tys' := []) [] rfl
        have hrv := va_recv hKc hPc (ci := 9) (q0 := 0) rfl rfl
        refine va_callv (va_runV (As := []) (rest := []) ⟨hx, hb, hml, hown, hts⟩ (c_X9_refuseHere l dC dI H.size h1 h1_0 h1_f1 x_51 h1_f3 (RG_w g_h1_f1 (by decide +kernel)) h_53 g_h1_f3) (cwV 0 hts gf_c_X4_readAtom_1_c_X9_refuseHere rfl rfl rfl mdV_X9_refuseHere ⟨Nat.le_of_ble_eq_true rfl, Nat.le_of_ble_eq_true rfl⟩) ⟨fun a U g mk q => by obtain ⟨q0, q1, qP, qK, qD⟩ := q; exact ⟨q0, q1, qP, va_K.moved (u := U) (U := U.calling g mk a) (Vm.Alike.refl U.vm) qK, qD⟩, hrv, fun U hU hW => ⟨rfl, by rw [hU], by rw [hU]; exact hPc, va_K.moved hW.alike hKc, hDc.weaken (fun _ _ _ _ => trivial)⟩⟩ rfl rfl hl.1 rfl (lv_room (Nat.le_of_ble_eq_true rfl)) dX4_readAtom_62 ⟨Nat.le_of_ble_eq_true rfl, Nat.le_of_ble_eq_true rfl⟩) hS (fun q _ h => hFc q h) hFc (fun x_62 t H1 locs ht hvm hw hB hz1 hk1 hS => ?_)
        obtain ⟨hP1, hK1, hD1⟩ := hB
        rw [ht] at hP1
        obtain ⟨hP, hD⟩ := cl_put (w1 := (wd_c_X9_refuseHere h1 h1_0 h1_f1 x_51 x_62)) (nw := (wd_c_X4_readAtom_1 h1 h1_0 h1_f1 x_51 x_62 h1_0 h1_0k h1_0c h0 h0_0 h0_f1 h0_2 h0_0 h0_0k h0_0c)) hP hD [0] [4, 1, 2, 3] 4 rfl hqc (by decide +kernel) rfl hk1 hFc hP1 hD1
        generalize H1 = H at hP hS ⊢
        as_aux_lemma =>
        have h_63 := hw
        exact hU _ _ _ (J65b (-1) x_51 x_62 g_h0_f1 g_h1_f1 g_h1_f2 g_h1_f3 h_53 (RG_w h_63 (by decide +kernel)) (RG_w (RG_k (-1) (-1) rfl) (by decide +kernel)) _ _ _ hP hD hS (lv_sub hl [0, 3] rfl))
      · refine lv_istore (lv' := [(5, .int r_50), (4, .int (-1)), (3, .int j20b_l3), (0, .ref h0), (1, .ref h1), (2, .int 1)]) hx hb dX4_readAtom_53 hl (Nat.le_of_ble_eq_true rfl) rfl (fun ls hl => ?_)
        refine lv_iload hx hb dX4_readAtom_55 (lv_at hl 0 rfl) ?_
        refine lv_iconst (v := (-1)) hx hb dX4_readAtom_57 kc_iconst_m1 ?_
        refine lv_icmp_ne (tgt := 65) hx hb dX4_readAtom_58 rfl (fun c_64 => ?_) (fun c_64 => ?_)
        · exact hU _ _ _ (J65b r_50 x_51 h1_f3 g_h0_f1 g_h1_f1 g_h1_f2 g_h1_f3 (RG_w h_56 (by decide +kernel)) g_h1_f3 (RG_w h_55 (by decide +kernel)) _ _ _ hP hD hS (lv_sub hl [0, 3] rfl))
        · exact RG_dead (RG_eq1 h_55 (RG_k (-1) (-1) rfl) c_64 (a' := 0) (b' := (-1)) (by decide +kernel)) (by decide +kernel)
  have J20c : ∀ (j20c_l3 : Int32) (j20c_s0 : Int32) (j20c_h1_f2 : Int32) (g_h0_f1 : RG h0_f1 0 240) (g_h1_f1 : RG h1_f1 1 240) (g_h1_f2 : RG h1_f2 0 240) (g_h1_f3 : RG h1_f3 (-1) 240) (g_j20c_h1_f2 : RG j20c_h1_f2 0 239) (g_j20c_l3 : RG j20c_l3 0 255) (g_j20c_s0 : RG j20c_s0 0 5) (H : Heap) (locs : List Loc) (ls : Array Slot) (hP : va_P (dC, dI) vwCl (wd_c_X4_readAtom_1 h1 h1_0 h1_f1 j20c_h1_f2 h1_f3 h1_0 h1_0k h1_0c h0 h0_0 h0_f1 h0_2 h0_0 h0_0k h0_0c) H) (hD : va_D A (wd_c_X4_readAtom_1 h1 h1_0 h1_f1 j20c_h1_f2 h1_f3 h1_0 h1_0k h1_0c h0 h0_0 h0_f1 h0_2 h0_0 h0_0k h0_0c)) (hS : va_S A s.heap H locs) (hl : lv_has ls 6 [(3, .int j20c_l3), (0, .ref h0), (1, .ref h1), (2, .int 1)]), G H locs (F0 m 20 ls [.int j20c_s0]) := by
    as_aux_lemma =>
    intro j20c_l3 j20c_s0 j20c_h1_f2 g_h0_f1 g_h1_f1 g_h1_f2 g_h1_f3 g_j20c_h1_f2 g_j20c_l3 g_j20c_s0 H locs ls hP hD hS hl
    refine hG _ _ _ ?_
    refine lv_istore (lv' := [(4, .int j20c_s0), (3, .int j20c_l3), (0, .ref h0), (1, .ref h1), (2, .int 1)]) hx hb dX4_readAtom_20 hl (Nat.le_of_ble_eq_true rfl) rfl (fun ls hl => ?_)
    refine lv_iload hx hb dX4_readAtom_22 (lv_at hl 0 rfl) ?_
    refine lv_if_lt (tgt := 42) hx hb dX4_readAtom_24 rfl (fun c_65 => ?_) (fun c_65 => ?_)
    · have g_66 : RG j20c_s0 0 (-1) := RG_lt1 g_j20c_s0 (RG_k 0 0 rfl) c_65 (by decide +kernel)
      exact RG_dead (RG_lt1 g_j20c_s0 (RG_k 0 0 rfl) c_65 (b' := (-1)) (by decide +kernel)) (by decide +kernel)
    · have d_67 := Int32.not_lt.mp c_65
      refine lv_aload_n hx hb dX4_readAtom_27 rfl (lv_at hl 3 rfl) ?_
      obtain ⟨hPc, hDc, hFc, hqc⟩ := cl_cut (wc := (wd_c_X9_skip h1 h1_0 h1_f1 j20c_h1_f2 h1_f3)) hP hD hS hA [0] (by decide +kernel) rfl
      have hKc := hK.sub (tys' := []) [] rfl
      have hrv := va_recv hKc hPc (ci := 9) (q0 := 0) rfl rfl
      refine va_callv (va_runV (As := []) (rest := []) ⟨hx, hb, hml, hown, hts⟩ (c_X9_skip l dC dI H.size h1 h1_0 h1_f1 j20c_h1_f2 h1_f3 (RG_w g_h1_f1 (by decide +kernel)) g_j20c_h1_f2 g_h1_f3) (cwV 0 hts gf_c_X4_readAtom_1_c_X9_skip rfl rfl rfl mdV_X9_skip ⟨Nat.le_of_ble_eq_true rfl, Nat.le_of_ble_eq_true rfl⟩) ⟨fun a U g mk q => by obtain ⟨q0, q1, qP, qK, qD⟩ := q; exact ⟨q0, q1, qP, va_K.moved (u := U) (U := U.calling g mk a) (Vm.Alike.refl U.vm) qK, qD⟩, hrv, fun U hU hW => ⟨rfl, by rw [hU], by rw [hU]; exact hPc, va_K.moved hW.alike hKc, hDc.weaken (fun _ _ _ _ => trivial)⟩⟩ rfl rfl hl.1 rfl (lv_room (Nat.le_of_ble_eq_true rfl)) dX4_readAtom_28 ⟨Nat.le_of_ble_eq_true rfl, Nat.le_of_ble_eq_true rfl⟩) hS (fun q _ h => hFc q h) hFc (fun x_69 t H1 locs ht hvm hw hB hz1 hk1 hS => ?_)
      obtain ⟨hP1, hK1, hD1⟩ := hB
      rw [ht] at hP1
      obtain ⟨hP, hD⟩ := cl_put (w1 := (wd_c_X9_skip h1 h1_0 h1_f1 x_69 h1_f3)) (nw := (wd_c_X4_readAtom_1 h1 h1_0 h1_f1 x_69 h1_f3 h1_0 h1_0k h1_0c h0 h0_0 h0_f1 h0_2 h0_0 h0_0k h0_0c)) hP hD [0] [4, 1, 2, 3] 4 rfl hqc (by decide +kernel) rfl hk1 hFc hP1 hD1
      generalize H1 = H at hP hS ⊢
      as_aux_lemma =>
      rcases hw with ⟨h_70, h_71, h_72⟩
      refine lv_aload_n hx hb dX4_readAtom_31 rfl (lv_at hl 2 rfl) ?_
      refine lv_iconst (v := (-1)) hx hb dX4_readAtom_32 kc_iconst_m1 ?_
      refine lv_iload hx hb dX4_readAtom_33 (lv_at hl 0 rfl) ?_
      refine lv_isub hx hb dX4_readAtom_35 ?_
      refine lv_topi (fun x_73 ex_73 => ?_)
      have g_74 : RG x_73 (-6) (-1) := RG_sub ex_73 (RG_k (-1) (-1) rfl) g_j20c_s0 (by decide +kernel)
      obtain ⟨hPc, hDc, hFc, hqc⟩ := cl_cut (wc := (wd_c_X4_emit h0 h0_0 h0_f1 h0_2 h0_0 h0_0k h0_0c)) hP hD hS hA [2, 3] (by decide +kernel) rfl
      have hKc := hK.sub (tys' := [(h0_0k, .int)]) [1] rfl
      have hrv := va_recv hKc hPc (ci := 4) (q0 := 0) rfl rfl
      refine va_callv (va_runV (As := [.int x_73]) (rest := []) ⟨hx, hb, hml, hown, hts⟩ (c_X4_emit l dC dI H.size h0 x_73 h0_0 h0_f1 h0_2 h0_0k h0_0c g_h0_f1) (cwV 1 hts gf_c_X4_readAtom_1_c_X4_emit rfl rfl rfl mdV_X4_emit ⟨Nat.le_of_ble_eq_true rfl, Nat.le_of_ble_eq_true rfl⟩) ⟨fun a U g mk q => by obtain ⟨q0, q1, qP, qK, qD⟩ := q; exact ⟨q0, q1, qP, va_K.moved (u := U) (U := U.calling g mk a) (Vm.Alike.refl U.vm) qK, qD⟩, hrv, fun U hU hW => ⟨rfl, by rw [hU], by rw [hU]; exact hPc, va_K.moved hW.alike hKc, hDc.weaken (fun _ _ _ _ => trivial)⟩⟩ rfl rfl hl.1 rfl (lv_room (Nat.le_of_ble_eq_true rfl)) dX4_readAtom_36 ⟨Nat.le_of_ble_eq_true rfl, Nat.le_of_ble_eq_true rfl⟩) hS (fun q _ h => hFc q h) hFc (fun u t H1 locs ht hvm hw hB hz1 hk1 hS => ?_)
      obtain ⟨x_76, w_77⟩ := u
      obtain ⟨hP1, hK1, hD1⟩ := hB
      rw [ht] at hP1
      obtain ⟨hP, hD⟩ := cl_put (w1 := (wd_c_X4_emit h0 h0_0 x_76 h0_2 h0_0 h0_0k w_77)) (nw := (wd_c_X4_readAtom_1 h1 h1_0 h1_f1 x_69 h1_f3 h1_0 h1_0k h1_0c h0 h0_0 x_76 h0_2 h0_0 h0_0k w_77)) hP hD [2, 3] [0, 1, 4, 5] 4 rfl hqc (by decide +kernel) rfl hk1 hFc hP1 hD1
      generalize H1 = H at hP hS ⊢
      as_aux_lemma =>
      have h_78 := hw
      refine lv_goto (tgt := 105) hx hb dX4_readAtom_39 rfl ?_
      have hK9 := hK.sub (tys' := []) [] rfl
      exact W.vret hx hb hr (fun t ht hW => ⟨⟨(x_69, h1_f3, x_76, w_77), rfl, ⟨(RG_w h_70 (by decide +kernel)), g_h1_f3, (RG_w h_78 (by decide +kernel))⟩, by rw [ht]; exact hP, va_K.moved hW.alike hK9, hD⟩, hS.F ht⟩) hS.2.2 dX4_readAtom_105
  refine hG _ _ _ ?_
  refine lv_aload_n hx hb dX4_readAtom_0 rfl (lv_at hl 1 rfl) ?_
  obtain ⟨hPc, hDc, hFc, hqc⟩ := cl_cut (wc := (wd_c_X9_peek h1 h1_0 h1_f1 h1_f2 h1_f3 h1_0 h1_0k h1_0c)) hP hD hS hA [0, 1] (by decide +kernel) rfl
  have hKc := hK.sub (tys' := [(h1_0k, .int)]) [0] rfl
  have hrv := va_recv hKc hPc (ci := 9) (q0 := 0) rfl rfl
  refine va_calli (va_runV (As := []) (rest := []) ⟨hx, hb, hml, hown, hts⟩ (c_X9_peek l dC dI H.size h1 h1_0 h1_f1 h1_f2 h1_f3 h1_0k h1_0c g_h1_f1 g_h1_f2 g_h1_f3 a_h1_0c) (cwV 0 hts gf_c_X4_readAtom_1_c_X9_peek rfl rfl rfl mdV_X9_peek ⟨Nat.le_of_ble_eq_true rfl, Nat.le_of_ble_eq_true rfl⟩) ⟨fun a U g mk q => by obtain ⟨q0, q1, qP, qK, qD⟩ := q; exact ⟨q0, q1, qP, va_K.moved (u := U) (U := U.calling g mk a) (Vm.Alike.refl U.vm) qK, qD⟩, hrv, fun U hU hW => ⟨rfl, by rw [hU], by rw [hU]; exact hPc, va_K.moved hW.alike hKc, hDc.weaken (fun _ _ _ _ => trivial)⟩⟩ rfl rfl hl.1 rfl (lv_room (Nat.le_of_ble_eq_true rfl)) dX4_readAtom_1 ⟨Nat.le_of_ble_eq_true rfl, Nat.le_of_ble_eq_true rfl⟩) hS (fun q _ h => hFc q h) hFc (fun r_79 x_80 t H1 locs ht hvm hw hB hz1 hk1 hS => ?_)
  obtain ⟨hP1, hK1, hD1⟩ := hB
  rw [ht] at hP1
  obtain ⟨hP, hD⟩ := cl_put (w1 := (wd_c_X9_peek h1 h1_0 h1_f1 x_80 h1_f3 h1_0 h1_0k h1_0c)) (nw := (wd_c_X4_readAtom_1 h1 h1_0 h1_f1 x_80 h1_f3 h1_0 h1_0k h1_0c h0 h0_0 h0_f1 h0_2 h0_0 h0_0k h0_0c)) hP hD [0, 1] [4, 5, 2, 3] 4 rfl hqc (by decide +kernel) rfl hk1 hFc hP1 hD1
  generalize H1 = H at hP hS ⊢
  as_aux_lemma =>
  rcases hw with ⟨h_81, h_82, h_83⟩ | ⟨h_84, h_85, h_86, h_87⟩
  · rw [h_81]
    refine lv_istore_n (lv' := [(3, .int (-1)), (0, .ref h0), (1, .ref h1), (2, .int 1)]) hx hb dX4_readAtom_4 rfl hl (Nat.le_of_ble_eq_true rfl) rfl (fun ls hl => ?_)
    refine lv_iload_n hx hb dX4_readAtom_5 rfl (lv_at hl 0 rfl) ?_
    refine lv_if_ge (tgt := 13) hx hb dX4_readAtom_6 rfl (fun c_88 => absurd c_88 (by decide +kernel)) (fun c_88 => ?_)
    refine lv_iconst (v := (-1)) hx hb dX4_readAtom_9 kc_iconst_m1 ?_
    refine lv_goto (tgt := 20) hx hb dX4_readAtom_10 rfl ?_
    exact hU _ _ _ (J20 x_80 g_h0_f1 g_h1_f1 g_h1_f2 g_h1_f3 h_82 _ _ _ hP hD hS (lv_sub hl [0, 1, 2, 3] rfl))
  · refine lv_istore_n (lv' := [(3, .int r_79), (0, .ref h0), (1, .ref h1), (2, .int 1)]) hx hb dX4_readAtom_4 rfl hl (Nat.le_of_ble_eq_true rfl) rfl (fun ls hl => ?_)
    refine lv_iload_n hx hb dX4_readAtom_5 rfl (lv_at hl 0 rfl) ?_
    refine lv_if_ge (tgt := 13) hx hb dX4_readAtom_6 rfl (fun c_89 => ?_) (fun c_89 => ?_)
    · refine va_ldcS hx hb hown hE_32 dX4_readAtom_13 ?_
      refine lv_iload_n hx hb dX4_readAtom_15 rfl (lv_at hl 0 rfl) ?_
      refine lv_i2c hx hb dX4_readAtom_16 rfl ?_
      as_aux_lemma =>
      refine lv_topi (fun x_90 ex_90 => ?_)
      have g_91 : RG x_90 0 65535 := RG_i2c ex_90
      obtain ⟨hPc, hDc, hFc, hqc⟩ := cl_cut (wc := []) hP hD hS hA [] (by decide +kernel) rfl
      have hKc := hK.sub (tys' := []) [] rfl
      have hrv := bv_Orecv hE_33 hS
      refine va_calli (va_runV (As := [.int x_90]) (rest := []) ⟨hx, hb, hml, hown, hts⟩ (c_J0_indexOf_0f7a4_4 l dC dI H.size ts4 x_90 tv4 g_91) (cwV 1 hts gf_c_X4_readAtom_1_c_J0_indexOf_0f7a4_4 rfl rfl rfl mdV_J0_indexOf_0f7a4 ⟨Nat.le_of_ble_eq_true rfl, Nat.le_of_ble_eq_true rfl⟩) ⟨fun a U g mk q => by obtain ⟨q0, q1, qP, qK, qD, qE0, qE1, qE2, qE3, qE4⟩ := q; exact ⟨q0, q1, qP, va_K.moved (u := U) (U := U.calling g mk a) (Vm.Alike.refl U.vm) qK, qD, va_Z.moved (u := U) (U := U.calling g mk a) (Vm.Alike.refl U.vm) qE0, va_OF.moved (u := U) (U := U.calling g mk a) (Vm.Alike.refl U.vm) qE1, va_O.moved (u := U) (U := U.calling g mk a) (Vm.Alike.refl U.vm) qE2, va_OF.moved (u := U) (U := U.calling g mk a) (Vm.Alike.refl U.vm) qE3, va_T.moved (u := U) (U := U.calling g mk a) (Vm.Alike.refl U.vm) qE4⟩, hrv, fun U hU hW => ⟨rfl, by rw [hU], by rw [hU]; exact hPc, va_K.moved hW.alike hKc, hDc.weaken (fun _ _ _ _ => trivial), va_Z.moved hW.alike (by rw [hU]; exact (hE_10.kept hS.2.1).narrow hFc), va_OF.moved hW.alike (by rw [hU]; exact (hE_34.kept hS.2.1).narrow hFc), va_O.moved hW.alike (by rw [hU]; exact (hE_33.kept hS.2.1).narrow hFc), va_OF.moved hW.alike (by rw [hU]; exact (hE_35.kept hS.2.1).narrow hFc), va_T.moved hW.alike (by rw [hU]; exact (hE_36.kept hS.2.1).narrow hFc)⟩⟩ rfl rfl hl.1 rfl (lv_room (Nat.le_of_ble_eq_true rfl)) dX4_readAtom_17 ⟨Nat.le_of_ble_eq_true rfl, Nat.le_of_ble_eq_true rfl⟩) hS (fun q _ h => hFc q h) hFc (fun r_92 u t H1 locs ht hvm hw hB hz1 hk1 hS => ?_)
      obtain ⟨hP1, hK1, hD1⟩ := hB
      rw [ht] at hP1
      have hP := bv_still hP hk1
      generalize H1 = H at hP hS ⊢
      as_aux_lemma =>
      rcases hw with h_93 | ⟨h_94, h_95⟩
      · rw [h_93]
        exact hU _ _ _ (J20b r_79 x_80 g_h0_f1 h_86 g_h1_f2 g_h1_f3 h_85 h_84 _ _ _ hP hD hS (lv_sub hl [0, 1, 2, 3] rfl))
      · exact hU _ _ _ (J20c r_79 r_92 x_80 g_h0_f1 h_86 g_h1_f2 g_h1_f3 h_85 h_84 h_94 _ _ _ hP hD hS (lv_sub hl [0, 1, 2, 3] rfl))
    · have d_96 := Int32.not_le.mp c_89
      have g_97 : RG r_79 0 (-1) := RG_lt1 h_84 (RG_k 0 0 rfl) d_96 (by decide +kernel)
      exact RG_dead (RG_lt1 h_84 (RG_k 0 0 rfl) d_96 (b' := (-1)) (by decide +kernel)) (by decide +kernel)
noncomputable def wd_c_X4_readSum_1 (a0 : Nat) (a1 : Nat) (a2 : Int32) (a3 : Int32) (a4 : Int32) (a5 : Nat) (a6 : ClassId) (a7 : Nat → Int32) (a8 : Nat) (a9 : Nat) (a10 : Int32) (a11 : Nat) (a12 : Nat) (a13 : ClassId) (a14 : Nat → Int32) : va_W := [(a0, .inr (9, [.ref a1, .int a2, .int a3, .int a4])), (a5, .inl (a6, 240, .inl a7)), (a8, .inr (4, [.ref a9, .int a10, .ref a11])), (a12, .inl (a13, 240, .inl a14))]
noncomputable def wf_c_X4_readSum_1 : List Cond := List.cons (.code yX4_readSum cX4_readSum 6 none) (@HAppend.hAppend (List Cond) (List Cond) (List Cond) _ (@HAppend.hAppend (List Cond) (List Cond) (List Cond) _ [.methodLink RX4 72 yX9_isRight, .instanceMethod yX9_isRight, .selects RX9 yX9_isRight yX9_isRight, .initialized RX9, .code yX9_isRight cX9_isRight 1 (some .boolean), .fieldLink RX9 15 "BuoyVote$Tape" "wrong" "I", .methodLink RX4 85 yX4_readAtom, .instanceMethod yX4_readAtom, .selects RX4 yX4_readAtom yX4_readAtom, .initialized RX4, .code yX4_readAtom cX4_readAtom 6 none, .methodLink RX4 41 yX9_peek, .instanceMethod yX9_peek, .selects RX9 yX9_peek yX9_peek, .code yX9_peek cX9_peek 1 (some .int), .fieldLink RX9 22 "BuoyVote$Tape" "at" "I", .fieldLink RX9 19 "BuoyVote$Tape" "length" "I", .fieldLink RX9 11 "BuoyVote$Tape" "bytes" "[I", .methodLink RX4 93 yJ0_indexOf_0f7a4, .instanceMethod yJ0_indexOf_0f7a4, .selects RJ0 yJ0_indexOf_0f7a4 yJ0_indexOf_0f7a4, .initialized RJ0, .code yJ0_indexOf_0f7a4 cJ0_indexOf_0f7a4 2 (some .int), .methodLink RJ0 633 yJ0_indexOf_7cf53, .instanceMethod yJ0_indexOf_7cf53, .selects RJ0 yJ0_indexOf_7cf53 yJ0_indexOf_7cf53, .code yJ0_indexOf_7cf53 cJ0_indexOf_7cf53 3 (some .int), .methodLink RJ0 492 yJ0_isLatin1_aae02, .instanceMethod yJ0_isLatin1_aae02, .selects RJ0 yJ0_isLatin1_aae02 yJ0_isLatin1_aae02, .code yJ0_isLatin1_aae02 cJ0_isLatin1_aae02 1 (some .boolean), .fieldLink RJ0 38 "java/lang/String" "COMPACT_STRINGS" "Z", .fieldLink RJ0 15 "java/lang/String" "coder" "B", .fieldLink RJ0 9 "java/lang/String" "value" "[B", .methodLink RJ0 505 yJ0_length_8abf5, .instanceMethod yJ0_length_8abf5, .selects RJ0 yJ0_length_8abf5 yJ0_length_8abf5, .code yJ0_length_8abf5 cJ0_length_8abf5 1 (some .int), .methodLink RJ0 335 yJ0_coder_7d493, .instanceMethod yJ0_coder_7d493, .selects RJ0 yJ0_coder_7d493 yJ0_coder_7d493, .code yJ0_coder_7d493 cJ0_coder_7d493 1 (some .byte), .methodLink RJ0 637 yJ1_indexOf_4cfef, .static yJ1_indexOf_4cfef, .initialized RJ1, .code yJ1_indexOf_4cfef cJ1_indexOf_4cfef 4 (some .int), .methodLink RJ1 88 yJ1_canEncode_9a6ad, .static yJ1_canEncode_9a6ad, .code yJ1_canEncode_9a6ad cJ1_canEncode_9a6ad 1 (some .boolean), .methodLink RJ1 92 Lib.Math.max.name, .static Lib.Math.max.name, .initialized "java/lang/Math", .code Lib.Math.max.name Lib.Math.max.code 2 (some .int), .methodLink RJ1 38 Lib.Math.min.name, .static Lib.Math.min.name, .code Lib.Math.min.name Lib.Math.min.code 2 (some .int), .methodLink RJ1 95 yJ1_indexOfChar_4cfef, .static yJ1_indexOfChar_4cfef, .code yJ1_indexOfChar_4cfef cJ1_indexOfChar_4cfef 6 (some .int), .methodLink RX4 99 yX9_number, .instanceMethod yX9_number, .selects RX9 yX9_number yX9_number, .code yX9_number cX9_number 4 (some .int), .methodLink RX4 82 yX9_refuseHere, .instanceMethod yX9_refuseHere, .selects RX9 yX9_refuseHere yX9_refuseHere, .code yX9_refuseHere cX9_refuseHere 1 none, .methodLink RX9 25 yX9_refuse, .instanceMethod yX9_refuse, .selects RX9 yX9_refuse yX9_refuse, .code yX9_refuse cX9_refuse 2 none, .methodLink RX4 79 yX9_skip, .instanceMethod yX9_skip, .selects RX9 yX9_skip yX9_skip, .code yX9_skip cX9_skip 1 none, .methodLink RX4 49 yX4_readSum, .instanceMethod yX4_readSum, .selects RX4 yX4_readSum yX4_readSum, .methodLink RX4 60 yX4_emit, .instanceMethod yX4_emit, .selects RX4 yX4_emit yX4_emit, .code yX4_emit cX4_emit 2 none, .fieldLink RX4 20 "BuoyVote$Law" "length" "I", .fieldLink RX4 11 "BuoyVote$Law" "code" "[I", .methodLink RX4 88 yX9_takeEither, .instanceMethod yX9_takeEither, .selects RX9 yX9_takeEither yX9_takeEither, .code yX9_takeEither cX9_takeEither 4 (some .int), .methodLink RX9 29 yX9_peek, .methodLink RX4 37 yX9_expect, .instanceMethod yX9_expect, .selects RX9 yX9_expect yX9_expect, .code yX9_expect cX9_expect 2 none] wsX90) wsX40)
theorem iw_c_X4_readSum_1_X9 : ∀ w ∈ wsX90, w ∈ wf_c_X4_readSum_1 := fun w h => List.mem_cons_of_mem _ (List.mem_append_left _ (List.mem_append_right _ h))
theorem iw_c_X4_readSum_1_X4 : ∀ w ∈ wsX40, w ∈ wf_c_X4_readSum_1 := fun w h => List.mem_cons_of_mem _ (List.mem_append_right _ h)
set_option maxRecDepth 20000 in
theorem gf_c_X4_readSum_1_c_X9_takeEither : GoodIn wf_c_X4_readSum_1 (wsV RX4 88 RX9 yX9_takeEither wf_c_X9_takeEither) := goodIn_app (gi_l [85, 86, 87, 4] rfl rfl) (gi_cons (j := 88) rfl rfl (goodIn_app (gi_l [89, 13, 14, 4, 15, 16, 17, 18, 6] rfl rfl) (goodIn_sub iw_c_X4_readSum_1_X9 gw_X9)))
set_option maxRecDepth 20000 in
theorem gf_c_X4_readSum_1_c_X4_emit : GoodIn wf_c_X4_readSum_1 (wsV RX4 60 RX4 yX4_emit wf_c_X4_emit) := goodIn_app (gi_l [79, 80, 81, 10] rfl rfl) (gi_cons (j := 82) rfl rfl (goodIn_app (gi_l [83, 84] rfl rfl) (goodIn_sub iw_c_X4_readSum_1_X4 gw_X4)))
set_option maxRecDepth 20000 in
theorem gf_c_X4_readSum_1_c_X9_isRight : GoodIn wf_c_X4_readSum_1 (wsV RX4 72 RX9 yX9_isRight wf_c_X9_isRight) := goodIn_app (gi_l [1, 2, 3, 4] rfl rfl) (gi_cons (j := 5) rfl rfl (goodIn_app (gi_l [6] rfl rfl) (goodIn_sub iw_c_X4_readSum_1_X9 gw_X9)))
set_option maxRecDepth 20000 in
theorem gf_c_X4_readSum_1_c_X4_readAtom_1 : GoodIn wf_c_X4_readSum_1 (wsV RX4 85 RX4 yX4_readAtom wf_c_X4_readAtom_1) := goodIn_app (gi_l [7, 8, 9, 10] rfl rfl) (gi_cons (j := 11) rfl rfl (goodIn_app (goodIn_app (gi_l [12, 13, 14, 4, 15, 16, 17, 18, 19, 20, 21, 22, 23, 24, 25, 26, 27, 28, 29, 30, 31, 32, 33, 34, 35, 36, 37, 38, 39, 40, 41, 42, 43, 44, 45, 46, 47, 48, 49, 50, 51, 52, 53, 54, 55, 56, 57, 58, 59, 60, 61, 62, 63, 64, 65, 66, 67, 68, 69, 70, 71, 6, 72, 73, 74, 75, 76, 77, 78, 10, 0, 1, 2, 3, 5, 7, 8, 9, 79, 80, 81, 82, 83, 84, 85, 86, 87, 88, 89, 90, 91, 92, 93] rfl rfl) (goodIn_sub iw_c_X4_readSum_1_X9 gw_X9)) (goodIn_sub iw_c_X4_readSum_1_X4 gw_X4)))
set_option maxHeartbeats 4000000 in
set_option maxRecDepth 100000 in
theorem c_X4_readSum_1 (l : Launch) (dC : Nat → ClassId) (dI : Nat → Nat → Nat) (sz : Nat) (h0 : Nat) (h1 : Nat) (h1_0 : Nat) (h1_f1 : Int32) (h1_f2 : Int32) (h1_f3 : Int32) (h1_0k : ClassId) (h1_0c : Nat → Int32) (h0_0 : Nat) (h0_f1 : Int32) (h0_2 : Nat) (h0_0k : ClassId) (h0_0c : Nat → Int32) (ts4 : Nat) (tv4 : Nat) (g_h1_f1 : RG h1_f1 0 240) (g_h1_f2 : RG h1_f2 0 240) (g_h1_f3 : RG h1_f3 (-1) 240) (a_h1_0c : AI h1_0c 0 255) (g_h0_f1 : RG h0_f1 0 240) : Met l yX4_readSum wf_c_X4_readSum_1 ({ frames := 15, cells := 0, slots := 0, locals := 366 }) (va_Pc [.ref h0, .ref h1, .int 1] (fun U => U.heap.size = sz ∧ va_P (dC, dI) vwCl (wd_c_X4_readSum_1 h1 h1_0 h1_f1 h1_f2 h1_f3 h1_0 h1_0k h1_0c h0 h0_0 h0_f1 h0_2 h0_0 h0_0k h0_0c) U.heap ∧ va_K (dC, dI) vwCl [(h1_0k, .int), (h0_0k, .int)] U ∧ va_D (fun _ => True) (wd_c_X4_readSum_1 h1 h1_0 h1_f1 h1_f2 h1_f3 h1_0 h1_0k h1_0c h0 h0_0 h0_f1 h0_2 h0_0 h0_0k h0_0c) ∧ vk_R RX4 91 "vlrdph" ts4 U ∧ va_Z "java/lang/String" "COMPACT_STRINGS" "Z" (.int 1) (va_A (wd_c_X4_readSum_1 h1 h1_0 h1_f1 h1_f2 h1_f3 h1_0 h1_0k h1_0c h0 h0_0 h0_f1 h0_2 h0_0 h0_0k h0_0c) sz) U U.heap ∧ va_OF "java/lang/String" "coder" "B" (.int 0) ts4 (va_A (wd_c_X4_readSum_1 h1 h1_0 h1_f1 h1_f2 h1_f3 h1_0 h1_0k h1_0c h0 h0_0 h0_f1 h0_2 h0_0 h0_0k h0_0c) sz) U U.heap ∧ va_O "java/lang/String" ts4 (va_A (wd_c_X4_readSum_1 h1 h1_0 h1_f1 h1_f2 h1_f3 h1_0 h1_0k h1_0c h0 h0_0 h0_f1 h0_2 h0_0 h0_0k h0_0c) sz) U U.heap ∧ va_OF "java/lang/String" "value" "[B" (.ref tv4) ts4 (va_A (wd_c_X4_readSum_1 h1 h1_0 h1_f1 h1_f2 h1_f3 h1_0 h1_0k h1_0c h0 h0_0 h0_f1 h0_2 h0_0 h0_0k h0_0c) sz) U U.heap ∧ va_T .byte tv4 6 (fun j => .int ([118, 108, 114, 100, 112, 104].getD j 0)) (va_A (wd_c_X4_readSum_1 h1 h1_0 h1_f1 h1_f2 h1_f3 h1_0 h1_0k h1_0c h0 h0_0 h0_f1 h0_2 h0_0 h0_0k h0_0c) sz) U U.heap)) (va_Qv (fun (u : (Int32) × (Int32) × (Int32) × (Nat → Int32)) => (RG u.1 0 240 ∧ RG u.2.1 (-1) 240 ∧ RG u.2.2.1 0 240)) (fun (u : (Int32) × (Int32) × (Int32) × (Nat → Int32)) t => va_P (dC, dI) vwCl (wd_c_X4_readSum_1 h1 h1_0 h1_f1 (u.1) (u.2.1) h1_0 h1_0k h1_0c h0 h0_0 (u.2.2.1) h0_2 h0_0 h0_0k (u.2.2.2)) t.heap ∧ va_K (dC, dI) vwCl [] t ∧ va_D (va_A (wd_c_X4_readSum_1 h1 h1_0 h1_f1 h1_f2 h1_f3 h1_0 h1_0k h1_0c h0 h0_0 h0_f1 h0_2 h0_0 h0_0k h0_0c) sz) (wd_c_X4_readSum_1 h1 h1_0 h1_f1 (u.1) (u.2.1) h1_0 h1_0k h1_0c h0 h0_0 (u.2.2.1) h0_2 h0_0 h0_0k (u.2.2.2))) (va_A (wd_c_X4_readSum_1 h1 h1_0 h1_f1 h1_f2 h1_f3 h1_0 h1_0k h1_0c h0 h0_0 h0_f1 h0_2 h0_0 h0_0k h0_0c) sz)) 0 0 (va_A (wd_c_X4_readSum_1 h1 h1_0 h1_f1 h1_f2 h1_f3 h1_0 h1_0k h1_0c h0 h0_0 h0_f1 h0_2 h0_0 h0_0k h0_0c) sz) := by
  refine Met.ofW (cc := cX4_readSum) (maxL := 6) (ret := none) (by decide +kernel) rfl ?_
  intro p e s m args below meth c s₁ B hml hv
  obtain ⟨rfl, hsz, hP, hK, hD0, hE_32, hE_10, hE_34, hE_33, hE_35, hE_36⟩ := hv
  have hx := B.exec
  have hb := B.bytes
  have hr := B.returns
  have hts := atoms_spec (ws := wf_c_X4_readSum_1) B.pre
  have hown : s.vm.findClass RX4 = some m.cls := findClass_of_methodNamed B.named
  have hlocks := B.notSynchronized
  subst hsz
  have hD := hD0.self (sz := s.heap.size)
  generalize hAe : va_A (wd_c_X4_readSum_1 h1 h1_0 h1_f1 h1_f2 h1_f3 h1_0 h1_0k h1_0c h0 h0_0 h0_f1 h0_2 h0_0 h0_0k h0_0c) s.heap.size = A at hD hE_10 hE_34 hE_33 hE_35 hE_36 ⊢
  have hA : ∀ q : Nat, s.heap.size ≤ q → A q := fun q h => by rw [← hAe]; exact Or.inr h
  have hP : va_P (dC, dI) vwCl (wd_c_X4_readSum_1 h1 h1_0 h1_f1 h1_f2 h1_f3 h1_0 h1_0k h1_0c h0 h0_0 h0_f1 h0_2 h0_0 h0_0k h0_0c) s.heap := hP
  have hl := lv_entry ([.ref h0, .ref h1, .int 1]) (n := 6) (Nat.le_of_ble_eq_true rfl)
  rw [lg_entry_eq]
  generalize (lg_sl ([.ref h0, .ref h1, .int 1]) ++ List.replicate (6 - (lg_sl ([.ref h0, .ref h1, .int 1])).length) Slot.unset).toArray = ls at hl ⊢
  have hl : lv_has ls 6 [(0, .ref h0), (1, .ref h1), (2, .int 1)] := hl
  obtain ⟨H, hHe⟩ : ∃ H : Heap, s.heap = H := ⟨_, rfl⟩
  have hS : va_S A s.heap H [] := by rw [hHe]; exact va_S.rf
  have hP : va_P (dC, dI) vwCl (wd_c_X4_readSum_1 h1 h1_0 h1_f1 h1_f2 h1_f3 h1_0 h1_0k h1_0c h0 h0_0 h0_f1 h0_2 h0_0 h0_0k h0_0c) H := by rw [← hHe]; exact hP
  rw [hHe]
  refine wj (fun G hG hU => ?_)
  as_aux_lemma =>
  have J8 : ∀ (n8 : Nat) (j8_l5 : Int32) (j8_l4 : Int32) (j8_l3 : Int32) (j8_h1_f2 : Int32) (j8_h1_f3 : Int32) (j8_h0_f1 : Int32) (j8_h0_0c : Nat → Int32) (hM8 : MU j8_l5 < n8) (g_h0_f1 : RG h0_f1 0 240) (g_h1_f1 : RG h1_f1 0 240) (g_h1_f2 : RG h1_f2 0 240) (g_h1_f3 : RG h1_f3 (-1) 240) (g_j8_h0_f1 : RG j8_h0_f1 0 240) (g_j8_h1_f2 : RG j8_h1_f2 0 240) (g_j8_h1_f3 : RG j8_h1_f3 (-1) 240) (g_j8_l3 : RG j8_l3 0 60) (g_j8_l4 : RG j8_l4 0 60) (g_j8_l5 : RG j8_l5 0 240) (H : Heap) (locs : List Loc) (ls : Array Slot) (hP : va_P (dC, dI) vwCl (wd_c_X4_readSum_1 h1 h1_0 h1_f1 j8_h1_f2 j8_h1_f3 h1_0 h1_0k h1_0c h0 h0_0 j8_h0_f1 h0_2 h0_0 h0_0k j8_h0_0c) H) (hD : va_D A (wd_c_X4_readSum_1 h1 h1_0 h1_f1 j8_h1_f2 j8_h1_f3 h1_0 h1_0k h1_0c h0 h0_0 j8_h0_f1 h0_2 h0_0 h0_0k j8_h0_0c)) (hS : va_S A s.heap H locs) (hl : lv_has ls 6 [(5, .int j8_l5), (4, .int j8_l4), (3, .int j8_l3), (0, .ref h0), (1, .ref h1), (2, .int 1)]), G H locs (F0 m 8 ls []) := by
    as_aux_lemma =>
    intro n8
    induction n8 with
    | zero => intros; exact absurd (by assumption) (Nat.not_lt_zero _)
    | succ n8 ih8 =>
      intro j8_l5 j8_l4 j8_l3 j8_h1_f2 j8_h1_f3 j8_h0_f1 j8_h0_0c hM8 g_h0_f1 g_h1_f1 g_h1_f2 g_h1_f3 g_j8_h0_f1 g_j8_h1_f2 g_j8_h1_f3 g_j8_l3 g_j8_l4 g_j8_l5 H locs ls hP hD hS hl
      have J80 : ∀ (j80_l3 : Int32) (j80_l4 : Int32) (j80_h1_f2 : Int32) (j80_h1_f3 : Int32) (j80_h0_f1 : Int32) (j80_h0_0c : Nat → Int32) (g_h0_f1 : RG h0_f1 0 240) (g_h1_f1 : RG h1_f1 1 240) (g_h1_f2 : RG h1_f2 0 240) (g_h1_f3 : RG h1_f3 (-1) 240) (g_j80_h0_f1 : RG j80_h0_f1 0 240) (g_j80_h1_f2 : RG j80_h1_f2 1 240) (g_j80_h1_f3 : RG j80_h1_f3 (-1) (-1)) (g_j80_l3 : RG j80_l3 0 60) (g_j80_l4 : RG j80_l4 0 60) (g_j8_h0_f1 : RG j8_h0_f1 0 240) (g_j8_h1_f2 : RG j8_h1_f2 0 240) (g_j8_h1_f3 : RG j8_h1_f3 (-1) (-1)) (g_j8_l3 : RG j8_l3 0 60) (g_j8_l4 : RG j8_l4 0 60) (g_j8_l5 : RG j8_l5 0 239) (H : Heap) (locs : List Loc) (ls : Array Slot) (hP : va_P (dC, dI) vwCl (wd_c_X4_readSum_1 h1 h1_0 h1_f1 j80_h1_f2 j80_h1_f3 h1_0 h1_0k h1_0c h0 h0_0 j80_h0_f1 h0_2 h0_0 h0_0k j80_h0_0c) H) (hD : va_D A (wd_c_X4_readSum_1 h1 h1_0 h1_f1 j80_h1_f2 j80_h1_f3 h1_0 h1_0k h1_0c h0 h0_0 j80_h0_f1 h0_2 h0_0 h0_0k j80_h0_0c)) (hS : va_S A s.heap H locs) (hl : lv_has ls 6 [(3, .int j80_l3), (5, .int j8_l5), (4, .int j80_l4), (0, .ref h0), (1, .ref h1), (2, .int 1)]), G H locs (F0 m 80 ls []) := by
        as_aux_lemma =>
        intro j80_l3 j80_l4 j80_h1_f2 j80_h1_f3 j80_h0_f1 j80_h0_0c g_h0_f1 g_h1_f1 g_h1_f2 g_h1_f3 g_j80_h0_f1 g_j80_h1_f2 g_j80_h1_f3 g_j80_l3 g_j80_l4 g_j8_h0_f1 g_j8_h1_f2 g_j8_h1_f3 g_j8_l3 g_j8_l4 g_j8_l5 H locs ls hP hD hS hl
        refine hG _ _ _ ?_
        obtain ⟨x_1, ex_1⟩ : ∃ y : Int32, y = j8_l5 + 1 := ⟨_, rfl⟩
        have g_2 : RG x_1 1 240 := RG_add ex_1 g_j8_l5 (RG_k 1 1 rfl) (by decide +kernel)
        refine lv_iinc (v := x_1) (lv' := [(5, .int x_1), (3, .int j80_l3), (4, .int j80_l4), (0, .ref h0), (1, .ref h1), (2, .int 1)]) hx hb dX4_readSum_80 hl (k := 1) rfl (by rw [ex_1]; rfl) (Nat.le_of_ble_eq_true rfl) rfl (fun ls hl => ?_)
        refine lv_goto (tgt := 8) hx hb dX4_readSum_83 rfl ?_
        exact hU _ _ _ (ih8 x_1 j80_l4 j80_l3 j80_h1_f2 j80_h1_f3 j80_h0_f1 j80_h0_0c (mu_s (MU_add ex_1 g_j8_l5 (q := 1) rfl (by decide +kernel)) hM8) g_h0_f1 (RG_w g_h1_f1 (by decide +kernel)) g_h1_f2 g_h1_f3 g_j80_h0_f1 (RG_w g_j80_h1_f2 (by decide +kernel)) (RG_w g_j80_h1_f3 (by decide +kernel)) g_j80_l3 g_j80_l4 (RG_w g_2 (by decide +kernel)) _ _ _ hP hD hS (lv_sub hl [0, 2, 1, 3, 4, 5] rfl))
      have J64 : ∀ (j64_l3 : Int32) (j64_h1_f2 : Int32) (j64_h1_f3 : Int32) (j64_h0_f1 : Int32) (j64_h0_0c : Nat → Int32) (g_h0_f1 : RG h0_f1 0 240) (g_h1_f1 : RG h1_f1 0 240) (g_h1_f2 : RG h1_f2 0 240) (g_h1_f3 : RG h1_f3 (-1) 240) (g_j64_h0_f1 : RG j64_h0_f1 0 240) (g_j64_h1_f2 : RG j64_h1_f2 0 240) (g_j64_h1_f3 : RG j64_h1_f3 (-1) 240) (g_j64_l3 : RG j64_l3 0 0) (g_j8_h0_f1 : RG j8_h0_f1 0 240) (g_j8_h1_f2 : RG j8_h1_f2 0 240) (g_j8_h1_f3 : RG j8_h1_f3 (-1) (-1)) (g_j8_l3 : RG j8_l3 0 60) (g_j8_l4 : RG j8_l4 0 60) (g_j8_l5 : RG j8_l5 0 239) (H : Heap) (locs : List Loc) (ls : Array Slot) (hP : va_P (dC, dI) vwCl (wd_c_X4_readSum_1 h1 h1_0 h1_f1 j64_h1_f2 j64_h1_f3 h1_0 h1_0k h1_0c h0 h0_0 j64_h0_f1 h0_2 h0_0 h0_0k j64_h0_0c) H) (hD : va_D A (wd_c_X4_readSum_1 h1 h1_0 h1_f1 j64_h1_f2 j64_h1_f3 h1_0 h1_0k h1_0c h0 h0_0 j64_h0_f1 h0_2 h0_0 h0_0k j64_h0_0c)) (hS : va_S A s.heap H locs) (hl : lv_has ls 6 [(3, .int j64_l3), (5, .int j8_l5), (0, .ref h0), (1, .ref h1), (2, .int 1)]), G H locs (F0 m 64 ls []) := by
        as_aux_lemma =>
        intro j64_l3 j64_h1_f2 j64_h1_f3 j64_h0_f1 j64_h0_0c g_h0_f1 g_h1_f1 g_h1_f2 g_h1_f3 g_j64_h0_f1 g_j64_h1_f2 g_j64_h1_f3 g_j64_l3 g_j8_h0_f1 g_j8_h1_f2 g_j8_h1_f3 g_j8_l3 g_j8_l4 g_j8_l5 H locs ls hP hD hS hl
        refine hG _ _ _ ?_
        refine lv_aload_n hx hb dX4_readSum_64 rfl (lv_at hl 3 rfl) ?_
        refine lv_bipush (v := 43) hx hb dX4_readSum_65 kc_bipush_43 ?_
        refine lv_bipush (v := 45) hx hb dX4_readSum_67 kc_bipush_45 ?_
        obtain ⟨hPc, hDc, hFc, hqc⟩ := cl_cut (wc := (wd_c_X9_takeEither h1 h1_0 h1_f1 j64_h1_f2 j64_h1_f3 h1_0 h1_0k h1_0c)) hP hD hS hA [0, 1] (by decide +kernel) rfl
        have hKc := hK.sub (tys' := [(h1_0k, .int)]) [0] rfl
        have hrv := va_recv hKc hPc (ci := 9) (q0 := 0) rfl rfl
        refine va_calli (va_runV (As := [.int 43, .int 45]) (rest := []) ⟨hx, hb, hml, hown, hts⟩ (c_X9_takeEither l dC dI H.size h1 43 45 h1_0 h1_f1 j64_h1_f2 j64_h1_f3 h1_0k h1_0c (RG_w (RG_k 43 43 rfl) (by decide +kernel)) (RG_w (RG_k 45 45 rfl) (by decide +kernel)) g_h1_f1 g_j64_h1_f2 g_j64_h1_f3 a_h1_0c) (cwV 2 hts gf_c_X4_readSum_1_c_X9_takeEither rfl rfl rfl mdV_X9_takeEither ⟨Nat.le_of_ble_eq_true rfl, Nat.le_of_ble_eq_true rfl⟩) ⟨fun a U g mk q => by obtain ⟨q0, q1, qP, qK, qD⟩ := q; exact ⟨q0, q1, qP, va_K.moved (u := U) (U := U.calling g mk a) (Vm.Alike.refl U.vm) qK, qD⟩, hrv, fun U hU hW => ⟨rfl, by rw [hU], by rw [hU]; exact hPc, va_K.moved hW.alike hKc, hDc.weaken (fun _ _ _ _ => trivial)⟩⟩ rfl rfl hl.1 rfl (lv_room (Nat.le_of_ble_eq_true rfl)) dX4_readSum_69 ⟨Nat.le_of_ble_eq_true rfl, Nat.le_of_ble_eq_true rfl⟩) hS (fun q _ h => hFc q h) hFc (fun r_3 x_4 t H1 locs ht hvm hw hB hz1 hk1 hS => ?_)
        obtain ⟨hP1, hK1, hD1⟩ := hB
        rw [ht] at hP1
        obtain ⟨hP, hD⟩ := cl_put (w1 := (wd_c_X9_takeEither h1 h1_0 h1_f1 x_4 j64_h1_f3 h1_0 h1_0k h1_0c)) (nw := (wd_c_X4_readSum_1 h1 h1_0 h1_f1 x_4 j64_h1_f3 h1_0 h1_0k h1_0c h0 h0_0 j64_h0_f1 h0_2 h0_0 h0_0k j64_h0_0c)) hP hD [0, 1] [4, 5, 2, 3] 4 rfl hqc (by decide +kernel) rfl hk1 hFc hP1 hD1
        generalize H1 = H at hP hS ⊢
        as_aux_lemma =>
        rcases hw with ⟨h_5, h_6, h_7⟩ | ⟨h_8, h_9, h_10, h_11, h_12⟩
        · rw [h_5]
          refine lv_istore (lv' := [(4, .int 0), (3, .int j64_l3), (5, .int j8_l5), (0, .ref h0), (1, .ref h1), (2, .int 1)]) hx hb dX4_readSum_72 hl (Nat.le_of_ble_eq_true rfl) rfl (fun ls hl => ?_)
          refine lv_iload hx hb dX4_readSum_74 (lv_at hl 0 rfl) ?_
          refine lv_if_ne (tgt := 80) hx hb dX4_readSum_76 rfl (fun c_13 => absurd c_13 (by decide +kernel)) (fun c_13 => ?_)
          have hK9 := hK.sub (tys' := []) [] rfl
          exact W.vret hx hb hr (fun t ht hW => ⟨⟨(x_4, j64_h1_f3, j64_h0_f1, j64_h0_0c), rfl, ⟨h_6, g_j64_h1_f3, g_j64_h0_f1⟩, by rw [ht]; exact hP, va_K.moved hW.alike hK9, hD⟩, hS.F ht⟩) hS.2.2 dX4_readSum_79
        · refine lv_istore (lv' := [(4, .int r_3), (3, .int j64_l3), (5, .int j8_l5), (0, .ref h0), (1, .ref h1), (2, .int 1)]) hx hb dX4_readSum_72 hl (Nat.le_of_ble_eq_true rfl) rfl (fun ls hl => ?_)
          refine lv_iload hx hb dX4_readSum_74 (lv_at hl 0 rfl) ?_
          refine lv_if_ne (tgt := 80) hx hb dX4_readSum_76 rfl (fun c_14 => ?_) (fun c_14 => ?_)
          · have g_15 : RG r_3 1 60 := RG_ne1 h_8 (q := 0) rfl c_14 (by decide +kernel)
            exact hU _ _ _ (J80 j64_l3 r_3 x_4 j64_h1_f3 j64_h0_f1 j64_h0_0c g_h0_f1 h_10 g_h1_f2 g_h1_f3 g_j64_h0_f1 h_9 h_11 (RG_w g_j64_l3 (by decide +kernel)) (RG_w g_15 (by decide +kernel)) g_j8_h0_f1 g_j8_h1_f2 g_j8_h1_f3 g_j8_l3 g_j8_l4 g_j8_l5 _ _ _ hP hD hS (lv_sub hl [1, 2, 0, 3, 4, 5] rfl))
          · have g_16 : RG r_3 0 0 := RG_eq1 h_8 (RG_k 0 0 rfl) c_14 (by decide +kernel)
            have hK9 := hK.sub (tys' := []) [] rfl
            exact W.vret hx hb hr (fun t ht hW => ⟨⟨(x_4, j64_h1_f3, j64_h0_f1, j64_h0_0c), rfl, ⟨(RG_w h_9 (by decide +kernel)), (RG_w h_11 (by decide +kernel)), g_j64_h0_f1⟩, by rw [ht]; exact hP, va_K.moved hW.alike hK9, hD⟩, hS.F ht⟩) hS.2.2 dX4_readSum_79
      have J39 : ∀ (j39_h1_f2 : Int32) (j39_h1_f3 : Int32) (j39_h0_f1 : Int32) (j39_h0_0c : Nat → Int32) (g_h0_f1 : RG h0_f1 0 240) (g_h1_f1 : RG h1_f1 0 240) (g_h1_f2 : RG h1_f2 0 240) (g_h1_f3 : RG h1_f3 (-1) 240) (g_j39_h0_f1 : RG j39_h0_f1 0 240) (g_j39_h1_f2 : RG j39_h1_f2 0 240) (g_j39_h1_f3 : RG j39_h1_f3 (-1) 240) (g_j8_h0_f1 : RG j8_h0_f1 0 240) (g_j8_h1_f2 : RG j8_h1_f2 0 240) (g_j8_h1_f3 : RG j8_h1_f3 (-1) (-1)) (g_j8_l3 : RG j8_l3 0 60) (g_j8_l4 : RG j8_l4 0 60) (g_j8_l5 : RG j8_l5 0 239) (H : Heap) (locs : List Loc) (ls : Array Slot) (hP : va_P (dC, dI) vwCl (wd_c_X4_readSum_1 h1 h1_0 h1_f1 j39_h1_f2 j39_h1_f3 h1_0 h1_0k h1_0c h0 h0_0 j39_h0_f1 h0_2 h0_0 h0_0k j39_h0_0c) H) (hD : va_D A (wd_c_X4_readSum_1 h1 h1_0 h1_f1 j39_h1_f2 j39_h1_f3 h1_0 h1_0k h1_0c h0 h0_0 j39_h0_f1 h0_2 h0_0 h0_0k j39_h0_0c)) (hS : va_S A s.heap H locs) (hl : lv_has ls 6 [(5, .int j8_l5), (4, .int j8_l4), (0, .ref h0), (1, .ref h1), (2, .int 1)]), G H locs (F0 m 39 ls []) := by
        as_aux_lemma =>
        intro j39_h1_f2 j39_h1_f3 j39_h0_f1 j39_h0_0c g_h0_f1 g_h1_f1 g_h1_f2 g_h1_f3 g_j39_h0_f1 g_j39_h1_f2 g_j39_h1_f3 g_j8_h0_f1 g_j8_h1_f2 g_j8_h1_f3 g_j8_l3 g_j8_l4 g_j8_l5 H locs ls hP hD hS hl
        refine hG _ _ _ ?_
        refine lv_aload_n hx hb dX4_readSum_39 rfl (lv_at hl 3 rfl) ?_
        refine lv_bipush (v := 42) hx hb dX4_readSum_40 kc_bipush_42 ?_
        refine lv_bipush (v := 47) hx hb dX4_readSum_42 kc_bipush_47 ?_
        obtain ⟨hPc, hDc, hFc, hqc⟩ := cl_cut (wc := (wd_c_X9_takeEither h1 h1_0 h1_f1 j39_h1_f2 j39_h1_f3 h1_0 h1_0k h1_0c)) hP hD hS hA [0, 1] (by decide +kernel) rfl
        have hKc := hK.sub (tys' := [(h1_0k, .int)]) [0] rfl
        have hrv := va_recv hKc hPc (ci := 9) (q0 := 0) rfl rfl
        refine va_calli (va_runV (As := [.int 42, .int 47]) (rest := []) ⟨hx, hb, hml, hown, hts⟩ (c_X9_takeEither l dC dI H.size h1 42 47 h1_0 h1_f1 j39_h1_f2 j39_h1_f3 h1_0k h1_0c (RG_w (RG_k 42 42 rfl) (by decide +kernel)) (RG_w (RG_k 47 47 rfl) (by decide +kernel)) g_h1_f1 g_j39_h1_f2 g_j39_h1_f3 a_h1_0c) (cwV 2 hts gf_c_X4_readSum_1_c_X9_takeEither rfl rfl rfl mdV_X9_takeEither ⟨Nat.le_of_ble_eq_true rfl, Nat.le_of_ble_eq_true rfl⟩) ⟨fun a U g mk q => by obtain ⟨q0, q1, qP, qK, qD⟩ := q; exact ⟨q0, q1, qP, va_K.moved (u := U) (U := U.calling g mk a) (Vm.Alike.refl U.vm) qK, qD⟩, hrv, fun U hU hW => ⟨rfl, by rw [hU], by rw [hU]; exact hPc, va_K.moved hW.alike hKc, hDc.weaken (fun _ _ _ _ => trivial)⟩⟩ rfl rfl hl.1 rfl (lv_room (Nat.le_of_ble_eq_true rfl)) dX4_readSum_44 ⟨Nat.le_of_ble_eq_true rfl, Nat.le_of_ble_eq_true rfl⟩) hS (fun q _ h => hFc q h) hFc (fun r_17 x_18 t H1 locs ht hvm hw hB hz1 hk1 hS => ?_)
        obtain ⟨hP1, hK1, hD1⟩ := hB
        rw [ht] at hP1
        obtain ⟨hP, hD⟩ := cl_put (w1 := (wd_c_X9_takeEither h1 h1_0 h1_f1 x_18 j39_h1_f3 h1_0 h1_0k h1_0c)) (nw := (wd_c_X4_readSum_1 h1 h1_0 h1_f1 x_18 j39_h1_f3 h1_0 h1_0k h1_0c h0 h0_0 j39_h0_f1 h0_2 h0_0 h0_0k j39_h0_0c)) hP hD [0, 1] [4, 5, 2, 3] 4 rfl hqc (by decide +kernel) rfl hk1 hFc hP1 hD1
        generalize H1 = H at hP hS ⊢
        as_aux_lemma =>
        rcases hw with ⟨h_19, h_20, h_21⟩ | ⟨h_22, h_23, h_24, h_25, h_26⟩
        · rw [h_19]
          refine lv_istore_n (lv' := [(3, .int 0), (5, .int j8_l5), (4, .int j8_l4), (0, .ref h0), (1, .ref h1), (2, .int 1)]) hx hb dX4_readSum_47 rfl hl (Nat.le_of_ble_eq_true rfl) rfl (fun ls hl => ?_)
          refine lv_iload_n hx hb dX4_readSum_48 rfl (lv_at hl 0 rfl) ?_
          refine lv_if_ne (tgt := 80) hx hb dX4_readSum_49 rfl (fun c_27 => absurd c_27 (by decide +kernel)) (fun c_27 => ?_)
          refine lv_iload hx hb dX4_readSum_52 (lv_at hl 2 rfl) ?_
          refine lv_if_eq (tgt := 64) hx hb dX4_readSum_54 rfl (fun c_28 => ?_) (fun c_28 => ?_)
          · have g_29 : RG j8_l4 0 0 := RG_eq1 g_j8_l4 (RG_k 0 0 rfl) c_28 (by decide +kernel)
            exact hU _ _ _ (J64 0 x_18 j39_h1_f3 j39_h0_f1 j39_h0_0c g_h0_f1 g_h1_f1 g_h1_f2 g_h1_f3 g_j39_h0_f1 h_20 g_j39_h1_f3 (RG_k 0 0 rfl) g_j8_h0_f1 g_j8_h1_f2 g_j8_h1_f3 g_j8_l3 (RG_w g_29 (by decide +kernel)) g_j8_l5 _ _ _ hP hD hS (lv_sub hl [0, 1, 3, 4, 5] rfl))
          · have g_30 : RG j8_l4 1 60 := RG_ne1 g_j8_l4 (q := 0) rfl c_28 (by decide +kernel)
            refine lv_aload_n hx hb dX4_readSum_57 rfl (lv_at hl 3 rfl) ?_
            refine lv_iload hx hb dX4_readSum_58 (lv_at hl 2 rfl) ?_
            refine lv_ineg hx hb dX4_readSum_60 ?_
            refine lv_topi (fun x_31 ex_31 => ?_)
            as_aux_lemma =>
            have g_32 : RG x_31 (-60) (-1) := RG_neg ex_31 g_30 (by decide +kernel)
            obtain ⟨hPc, hDc, hFc, hqc⟩ := cl_cut (wc := (wd_c_X4_emit h0 h0_0 j39_h0_f1 h0_2 h0_0 h0_0k j39_h0_0c)) hP hD hS hA [2, 3] (by decide +kernel) rfl
            have hKc := hK.sub (tys' := [(h0_0k, .int)]) [1] rfl
            have hrv := va_recv hKc hPc (ci := 4) (q0 := 0) rfl rfl
            refine va_callv (va_runV (As := [.int x_31]) (rest := []) ⟨hx, hb, hml, hown, hts⟩ (c_X4_emit l dC dI H.size h0 x_31 h0_0 j39_h0_f1 h0_2 h0_0k j39_h0_0c g_j39_h0_f1) (cwV 1 hts gf_c_X4_readSum_1_c_X4_emit rfl rfl rfl mdV_X4_emit ⟨Nat.le_of_ble_eq_true rfl, Nat.le_of_ble_eq_true rfl⟩) ⟨fun a U g mk q => by obtain ⟨q0, q1, qP, qK, qD⟩ := q; exact ⟨q0, q1, qP, va_K.moved (u := U) (U := U.calling g mk a) (Vm.Alike.refl U.vm) qK, qD⟩, hrv, fun U hU hW => ⟨rfl, by rw [hU], by rw [hU]; exact hPc, va_K.moved hW.alike hKc, hDc.weaken (fun _ _ _ _ => trivial)⟩⟩ rfl rfl hl.1 rfl (lv_room (Nat.le_of_ble_eq_true rfl)) dX4_readSum_61 ⟨Nat.le_of_ble_eq_true rfl, Nat.le_of_ble_eq_true rfl⟩) hS (fun q _ h => hFc q h) hFc (fun u t H1 locs ht hvm hw hB hz1 hk1 hS => ?_)
            obtain ⟨x_34, w_35⟩ := u
            obtain ⟨hP1, hK1, hD1⟩ := hB
            rw [ht] at hP1
            obtain ⟨hP, hD⟩ := cl_put (w1 := (wd_c_X4_emit h0 h0_0 x_34 h0_2 h0_0 h0_0k w_35)) (nw := (wd_c_X4_readSum_1 h1 h1_0 h1_f1 x_18 j39_h1_f3 h1_0 h1_0k h1_0c h0 h0_0 x_34 h0_2 h0_0 h0_0k w_35)) hP hD [2, 3] [0, 1, 4, 5] 4 rfl hqc (by decide +kernel) rfl hk1 hFc hP1 hD1
            generalize H1 = H at hP hS ⊢
            as_aux_lemma =>
            have h_36 := hw
            exact hU _ _ _ (J64 0 x_18 j39_h1_f3 x_34 w_35 g_h0_f1 g_h1_f1 g_h1_f2 g_h1_f3 (RG_w h_36 (by decide +kernel)) h_20 g_j39_h1_f3 (RG_k 0 0 rfl) g_j8_h0_f1 g_j8_h1_f2 g_j8_h1_f3 g_j8_l3 (RG_w g_30 (by decide +kernel)) g_j8_l5 _ _ _ hP hD hS (lv_sub hl [0, 1, 3, 4, 5] rfl))
        · refine lv_istore_n (lv' := [(3, .int r_17), (5, .int j8_l5), (4, .int j8_l4), (0, .ref h0), (1, .ref h1), (2, .int 1)]) hx hb dX4_readSum_47 rfl hl (Nat.le_of_ble_eq_true rfl) rfl (fun ls hl => ?_)
          refine lv_iload_n hx hb dX4_readSum_48 rfl (lv_at hl 0 rfl) ?_
          refine lv_if_ne (tgt := 80) hx hb dX4_readSum_49 rfl (fun c_37 => ?_) (fun c_37 => ?_)
          · have g_38 : RG r_17 1 60 := RG_ne1 h_22 (q := 0) rfl c_37 (by decide +kernel)
            exact hU _ _ _ (J80 r_17 j8_l4 x_18 j39_h1_f3 j39_h0_f1 j39_h0_0c g_h0_f1 h_24 g_h1_f2 g_h1_f3 g_j39_h0_f1 h_23 h_25 (RG_w g_38 (by decide +kernel)) g_j8_l4 g_j8_h0_f1 g_j8_h1_f2 g_j8_h1_f3 g_j8_l3 g_j8_l4 g_j8_l5 _ _ _ hP hD hS (lv_sub hl [0, 1, 2, 3, 4, 5] rfl))
          · have g_39 : RG r_17 0 0 := RG_eq1 h_22 (RG_k 0 0 rfl) c_37 (by decide +kernel)
            refine lv_iload hx hb dX4_readSum_52 (lv_at hl 2 rfl) ?_
            refine lv_if_eq (tgt := 64) hx hb dX4_readSum_54 rfl (fun c_40 => ?_) (fun c_40 => ?_)
            · have g_41 : RG j8_l4 0 0 := RG_eq1 g_j8_l4 (RG_k 0 0 rfl) c_40 (by decide +kernel)
              exact hU _ _ _ (J64 r_17 x_18 j39_h1_f3 j39_h0_f1 j39_h0_0c g_h0_f1 (RG_w h_24 (by decide +kernel)) g_h1_f2 g_h1_f3 g_j39_h0_f1 (RG_w h_23 (by decide +kernel)) (RG_w h_25 (by decide +kernel)) g_39 g_j8_h0_f1 g_j8_h1_f2 g_j8_h1_f3 g_j8_l3 (RG_w g_41 (by decide +kernel)) g_j8_l5 _ _ _ hP hD hS (lv_sub hl [0, 1, 3, 4, 5] rfl))
            · have g_42 : RG j8_l4 1 60 := RG_ne1 g_j8_l4 (q := 0) rfl c_40 (by decide +kernel)
              refine lv_aload_n hx hb dX4_readSum_57 rfl (lv_at hl 3 rfl) ?_
              as_aux_lemma =>
              refine lv_iload hx hb dX4_readSum_58 (lv_at hl 2 rfl) ?_
              refine lv_ineg hx hb dX4_readSum_60 ?_
              refine lv_topi (fun x_43 ex_43 => ?_)
              have g_44 : RG x_43 (-60) (-1) := RG_neg ex_43 g_42 (by decide +kernel)
              obtain ⟨hPc, hDc, hFc, hqc⟩ := cl_cut (wc := (wd_c_X4_emit h0 h0_0 j39_h0_f1 h0_2 h0_0 h0_0k j39_h0_0c)) hP hD hS hA [2, 3] (by decide +kernel) rfl
              have hKc := hK.sub (tys' := [(h0_0k, .int)]) [1] rfl
              have hrv := va_recv hKc hPc (ci := 4) (q0 := 0) rfl rfl
              refine va_callv (va_runV (As := [.int x_43]) (rest := []) ⟨hx, hb, hml, hown, hts⟩ (c_X4_emit l dC dI H.size h0 x_43 h0_0 j39_h0_f1 h0_2 h0_0k j39_h0_0c g_j39_h0_f1) (cwV 1 hts gf_c_X4_readSum_1_c_X4_emit rfl rfl rfl mdV_X4_emit ⟨Nat.le_of_ble_eq_true rfl, Nat.le_of_ble_eq_true rfl⟩) ⟨fun a U g mk q => by obtain ⟨q0, q1, qP, qK, qD⟩ := q; exact ⟨q0, q1, qP, va_K.moved (u := U) (U := U.calling g mk a) (Vm.Alike.refl U.vm) qK, qD⟩, hrv, fun U hU hW => ⟨rfl, by rw [hU], by rw [hU]; exact hPc, va_K.moved hW.alike hKc, hDc.weaken (fun _ _ _ _ => trivial)⟩⟩ rfl rfl hl.1 rfl (lv_room (Nat.le_of_ble_eq_true rfl)) dX4_readSum_61 ⟨Nat.le_of_ble_eq_true rfl, Nat.le_of_ble_eq_true rfl⟩) hS (fun q _ h => hFc q h) hFc (fun u t H1 locs ht hvm hw hB hz1 hk1 hS => ?_)
              obtain ⟨x_46, w_47⟩ := u
              obtain ⟨hP1, hK1, hD1⟩ := hB
              rw [ht] at hP1
              obtain ⟨hP, hD⟩ := cl_put (w1 := (wd_c_X4_emit h0 h0_0 x_46 h0_2 h0_0 h0_0k w_47)) (nw := (wd_c_X4_readSum_1 h1 h1_0 h1_f1 x_18 j39_h1_f3 h1_0 h1_0k h1_0c h0 h0_0 x_46 h0_2 h0_0 h0_0k w_47)) hP hD [2, 3] [0, 1, 4, 5] 4 rfl hqc (by decide +kernel) rfl hk1 hFc hP1 hD1
              generalize H1 = H at hP hS ⊢
              as_aux_lemma =>
              have h_48 := hw
              exact hU _ _ _ (J64 r_17 x_18 j39_h1_f3 x_46 w_47 g_h0_f1 (RG_w h_24 (by decide +kernel)) g_h1_f2 g_h1_f3 (RG_w h_48 (by decide +kernel)) (RG_w h_23 (by decide +kernel)) (RG_w h_25 (by decide +kernel)) g_39 g_j8_h0_f1 g_j8_h1_f2 g_j8_h1_f3 g_j8_l3 (RG_w g_42 (by decide +kernel)) g_j8_l5 _ _ _ hP hD hS (lv_sub hl [0, 1, 3, 4, 5] rfl))
      refine hG _ _ _ ?_
      refine lv_iload hx hb dX4_readSum_8 (lv_at hl 0 rfl) ?_
      refine lv_sipush (v := 240) hx hb dX4_readSum_10 kc_sipush_240 ?_
      refine lv_icmp_ge (tgt := 86) hx hb dX4_readSum_13 rfl (fun c_49 => ?_) (fun c_49 => ?_)
      · have g_50 : RG j8_l5 240 240 := RG_le2 (RG_k 240 240 rfl) g_j8_l5 c_49 (by decide +kernel)
        have hK9 := hK.sub (tys' := []) [] rfl
        exact W.vret hx hb hr (fun t ht hW => ⟨⟨(j8_h1_f2, j8_h1_f3, j8_h0_f1, j8_h0_0c), rfl, ⟨g_j8_h1_f2, g_j8_h1_f3, g_j8_h0_f1⟩, by rw [ht]; exact hP, va_K.moved hW.alike hK9, hD⟩, hS.F ht⟩) hS.2.2 dX4_readSum_86
      · have d_51 := Int32.not_le.mp c_49
        have g_52 : RG j8_l5 0 239 := RG_lt1 g_j8_l5 (RG_k 240 240 rfl) d_51 (by decide +kernel)
        refine lv_aload_n hx hb dX4_readSum_16 rfl (lv_at hl 4 rfl) ?_
        obtain ⟨hPc, hDc, hFc, hqc⟩ := cl_cut (wc := (wd_c_X9_isRight h1 h1_0 h1_f1 j8_h1_f2 j8_h1_f3)) hP hD hS hA [0] (by decide +kernel) rfl
        have hKc := hK.sub (tys' := []) [] rfl
        have hrv := va_recv hKc hPc (ci := 9) (q0 := 0) rfl rfl
        refine va_calli (va_runV (As := []) (rest := []) ⟨hx, hb, hml, hown, hts⟩ (c_X9_isRight l dC dI H.size h1 h1_0 h1_f1 j8_h1_f2 j8_h1_f3 g_h1_f1 g_j8_h1_f2 g_j8_h1_f3) (cwV 0 hts gf_c_X4_readSum_1_c_X9_isRight rfl rfl rfl mdV_X9_isRight ⟨Nat.le_of_ble_eq_true rfl, Nat.le_of_ble_eq_true rfl⟩) ⟨fun a U g mk q => by obtain ⟨q0, q1, qP, qK, qD⟩ := q; exact ⟨q0, q1, qP, va_K.moved (u := U) (U := U.calling g mk a) (Vm.Alike.refl U.vm) qK, qD⟩, hrv, fun U hU hW => ⟨rfl, by rw [hU], by rw [hU]; exact hPc, va_K.moved hW.alike hKc, hDc.weaken (fun _ _ _ _ => trivial)⟩⟩ rfl rfl hl.1 rfl (lv_room (Nat.le_of_ble_eq_true rfl)) dX4_readSum_17 ⟨Nat.le_of_ble_eq_true rfl, Nat.le_of_ble_eq_true rfl⟩) hS (fun q _ h => hFc q h) hFc (fun r_53 u t H1 locs ht hvm hw hB hz1 hk1 hS => ?_)
        as_aux_lemma =>
        obtain ⟨hP1, hK1, hD1⟩ := hB
        rw [ht] at hP1
        obtain ⟨hP, hD⟩ := cl_put (w1 := (wd_c_X9_isRight h1 h1_0 h1_f1 j8_h1_f2 j8_h1_f3)) (nw := (wd_c_X4_readSum_1 h1 h1_0 h1_f1 j8_h1_f2 j8_h1_f3 h1_0 h1_0k h1_0c h0 h0_0 j8_h0_f1 h0_2 h0_0 h0_0k j8_h0_0c)) hP hD [0] [4, 1, 2, 3] 4 rfl hqc (by decide +kernel) rfl hk1 hFc hP1 hD1
        generalize H1 = H at hP hS ⊢
        as_aux_lemma =>
        rcases hw with ⟨h_54, h_55⟩ | ⟨h_56, h_57⟩
        · rw [h_54]
          refine lv_if_eq (tgt := 86) hx hb dX4_readSum_20 rfl (fun c_58 => ?_) (fun c_58 => absurd c_58 (by decide +kernel))
          have hK9 := hK.sub (tys' := []) [] rfl
          exact W.vret hx hb hr (fun t ht hW => ⟨⟨(j8_h1_f2, j8_h1_f3, j8_h0_f1, j8_h0_0c), rfl, ⟨g_j8_h1_f2, (RG_w h_55 (by decide +kernel)), g_j8_h0_f1⟩, by rw [ht]; exact hP, va_K.moved hW.alike hK9, hD⟩, hS.F ht⟩) hS.2.2 dX4_readSum_86
        · rw [h_56]
          refine lv_if_eq (tgt := 86) hx hb dX4_readSum_20 rfl (fun c_59 => absurd c_59 (by decide +kernel)) (fun c_59 => ?_)
          refine lv_aload_n hx hb dX4_readSum_23 rfl (lv_at hl 3 rfl) ?_
          refine lv_aload_n hx hb dX4_readSum_24 rfl (lv_at hl 4 rfl) ?_
          refine lv_iload_n hx hb dX4_readSum_25 rfl (lv_at hl 5 rfl) ?_
          obtain ⟨hPc, hDc, hFc, hqc⟩ := cl_cut (wc := (wd_c_X4_readAtom_1 h1 h1_0 h1_f1 j8_h1_f2 j8_h1_f3 h1_0 h1_0k h1_0c h0 h0_0 j8_h0_f1 h0_2 h0_0 h0_0k j8_h0_0c)) hP hD hS hA [0, 1, 2, 3] (by decide +kernel) rfl
          have hKc := hK.sub (tys' := [(h1_0k, .int), (h0_0k, .int)]) [0, 1] rfl
          have hrv := va_recv hKc hPc (ci := 4) (q0 := 2) rfl rfl
          refine va_callv (va_runV (As := [.ref h1, .int 1]) (rest := []) ⟨hx, hb, hml, hown, hts⟩ (c_X4_readAtom_1 l dC dI H.size h0 h1 h1_0 h1_f1 j8_h1_f2 j8_h1_f3 h1_0k h1_0c h0_0 j8_h0_f1 h0_2 h0_0k j8_h0_0c ts4 tv4 g_h1_f1 g_j8_h1_f2 (RG_w h_57 (by decide +kernel)) a_h1_0c g_j8_h0_f1) (cwV 2 hts gf_c_X4_readSum_1_c_X4_readAtom_1 rfl rfl rfl mdV_X4_readAtom ⟨Nat.le_of_ble_eq_true rfl, Nat.le_of_ble_eq_true rfl⟩) ⟨fun a U g mk q => by obtain ⟨q0, q1, qP, qK, qD, qE0, qE1, qE2, qE3, qE4, qE5⟩ := q; exact ⟨q0, q1, qP, va_K.moved (u := U) (U := U.calling g mk a) (Vm.Alike.refl U.vm) qK, qD, vk_R.same rfl qE0, va_Z.moved (u := U) (U := U.calling g mk a) (Vm.Alike.refl U.vm) qE1, va_OF.moved (u := U) (U := U.calling g mk a) (Vm.Alike.refl U.vm) qE2, va_O.moved (u := U) (U := U.calling g mk a) (Vm.Alike.refl U.vm) qE3, va_OF.moved (u := U) (U := U.calling g mk a) (Vm.Alike.refl U.vm) qE4, va_T.moved (u := U) (U := U.calling g mk a) (Vm.Alike.refl U.vm) qE5⟩, hrv, fun U hU hW => ⟨rfl, by rw [hU], by rw [hU]; exact hPc, va_K.moved hW.alike hKc, hDc.weaken (fun _ _ _ _ => trivial), vk_R.warm hW hE_32, va_Z.moved hW.alike (by rw [hU]; exact (hE_10.kept hS.2.1).narrow hFc), va_OF.moved hW.alike (by rw [hU]; exact (hE_34.kept hS.2.1).narrow hFc), va_O.moved hW.alike (by rw [hU]; exact (hE_33.kept hS.2.1).narrow hFc), va_OF.moved hW.alike (by rw [hU]; exact (hE_35.kept hS.2.1).narrow hFc), va_T.moved hW.alike (by rw [hU]; exact (hE_36.kept hS.2.1).narrow hFc)⟩⟩ rfl rfl hl.1 rfl (lv_room (Nat.le_of_ble_eq_true rfl)) dX4_readSum_26 ⟨Nat.le_of_ble_eq_true rfl, Nat.le_of_ble_eq_true rfl⟩) hS (fun q _ h => hFc q h) hFc (fun u t H1 locs ht hvm hw hB hz1 hk1 hS => ?_)
          as_aux_lemma =>
          obtain ⟨x_61, x_62, x_63, w_64⟩ := u
          obtain ⟨hP1, hK1, hD1⟩ := hB
          rw [ht] at hP1
          obtain ⟨hP, hD⟩ := cl_put (w1 := (wd_c_X4_readAtom_1 h1 h1_0 h1_f1 x_61 x_62 h1_0 h1_0k h1_0c h0 h0_0 x_63 h0_2 h0_0 h0_0k w_64)) (nw := (wd_c_X4_readSum_1 h1 h1_0 h1_f1 x_61 x_62 h1_0 h1_0k h1_0c h0 h0_0 x_63 h0_2 h0_0 h0_0k w_64)) hP hD [0, 1, 2, 3] [4, 5, 6, 7] 4 rfl hqc (by decide +kernel) rfl hk1 hFc hP1 hD1
          generalize H1 = H at hP hS ⊢
          as_aux_lemma =>
          rcases hw with ⟨h_65, h_66, h_67⟩
          refine lv_iload_n hx hb dX4_readSum_29 rfl (lv_at hl 2 rfl) ?_
          refine lv_if_eq (tgt := 39) hx hb dX4_readSum_30 rfl (fun c_68 => ?_) (fun c_68 => ?_)
          · have g_69 : RG j8_l3 0 0 := RG_eq1 g_j8_l3 (RG_k 0 0 rfl) c_68 (by decide +kernel)
            exact hU _ _ _ (J39 x_61 x_62 x_63 w_64 g_h0_f1 g_h1_f1 g_h1_f2 g_h1_f3 h_67 h_65 h_66 g_j8_h0_f1 g_j8_h1_f2 h_57 (RG_w g_69 (by decide +kernel)) g_j8_l4 g_52 _ _ _ hP hD hS (lv_sub hl [0, 1, 3, 4, 5] rfl))
          · have g_70 : RG j8_l3 1 60 := RG_ne1 g_j8_l3 (q := 0) rfl c_68 (by decide +kernel)
            refine lv_aload_n hx hb dX4_readSum_33 rfl (lv_at hl 3 rfl) ?_
            refine lv_iload_n hx hb dX4_readSum_34 rfl (lv_at hl 2 rfl) ?_
            refine lv_ineg hx hb dX4_readSum_35 ?_
            refine lv_topi (fun x_71 ex_71 => ?_)
            have g_72 : RG x_71 (-60) (-1) := RG_neg ex_71 g_70 (by decide +kernel)
            obtain ⟨hPc, hDc, hFc, hqc⟩ := cl_cut (wc := (wd_c_X4_emit h0 h0_0 x_63 h0_2 h0_0 h0_0k w_64)) hP hD hS hA [2, 3] (by decide +kernel) rfl
            have hKc := hK.sub (tys' := [(h0_0k, .int)]) [1] rfl
            have hrv := va_recv hKc hPc (ci := 4) (q0 := 0) rfl rfl
            refine va_callv (va_runV (As := [.int x_71]) (rest := []) ⟨hx, hb, hml, hown, hts⟩ (c_X4_emit l dC dI H.size h0 x_71 h0_0 x_63 h0_2 h0_0k w_64 h_67) (cwV 1 hts gf_c_X4_readSum_1_c_X4_emit rfl rfl rfl mdV_X4_emit ⟨Nat.le_of_ble_eq_true rfl, Nat.le_of_ble_eq_true rfl⟩) ⟨fun a U g mk q => by obtain ⟨q0, q1, qP, qK, qD⟩ := q; exact ⟨q0, q1, qP, va_K.moved (u := U) (U := U.calling g mk a) (Vm.Alike.refl U.vm) qK, qD⟩, hrv, fun U hU hW => ⟨rfl, by rw [hU], by rw [hU]; exact hPc, va_K.moved hW.alike hKc, hDc.weaken (fun _ _ _ _ => trivial)⟩⟩ rfl rfl hl.1 rfl (lv_room (Nat.le_of_ble_eq_true rfl)) dX4_readSum_36 ⟨Nat.le_of_ble_eq_true rfl, Nat.le_of_ble_eq_true rfl⟩) hS (fun q _ h => hFc q h) hFc (fun u t H1 locs ht hvm hw hB hz1 hk1 hS => ?_)
            as_aux_lemma =>
            obtain ⟨x_74, w_75⟩ := u
            obtain ⟨hP1, hK1, hD1⟩ := hB
            rw [ht] at hP1
            obtain ⟨hP, hD⟩ := cl_put (w1 := (wd_c_X4_emit h0 h0_0 x_74 h0_2 h0_0 h0_0k w_75)) (nw := (wd_c_X4_readSum_1 h1 h1_0 h1_f1 x_61 x_62 h1_0 h1_0k h1_0c h0 h0_0 x_74 h0_2 h0_0 h0_0k w_75)) hP hD [2, 3] [0, 1, 4, 5] 4 rfl hqc (by decide +kernel) rfl hk1 hFc hP1 hD1
            generalize H1 = H at hP hS ⊢
            as_aux_lemma =>
            have h_76 := hw
            exact hU _ _ _ (J39 x_61 x_62 x_74 w_75 g_h0_f1 g_h1_f1 g_h1_f2 g_h1_f3 (RG_w h_76 (by decide +kernel)) h_65 h_66 g_j8_h0_f1 g_j8_h1_f2 h_57 (RG_w g_70 (by decide +kernel)) g_j8_l4 g_52 _ _ _ hP hD hS (lv_sub hl [0, 1, 3, 4, 5] rfl))
  refine hG _ _ _ ?_
  refine lv_iconst (v := 0) hx hb dX4_readSum_0 kc_iconst_0 ?_
  refine lv_istore_n (lv' := [(3, .int 0), (0, .ref h0), (1, .ref h1), (2, .int 1)]) hx hb dX4_readSum_1 rfl hl (Nat.le_of_ble_eq_true rfl) rfl (fun ls hl => ?_)
  refine lv_iconst (v := 0) hx hb dX4_readSum_2 kc_iconst_0 ?_
  refine lv_istore (lv' := [(4, .int 0), (3, .int 0), (0, .ref h0), (1, .ref h1), (2, .int 1)]) hx hb dX4_readSum_3 hl (Nat.le_of_ble_eq_true rfl) rfl (fun ls hl => ?_)
  refine lv_iconst (v := 0) hx hb dX4_readSum_5 kc_iconst_0 ?_
  refine lv_istore (lv' := [(5, .int 0), (4, .int 0), (3, .int 0), (0, .ref h0), (1, .ref h1), (2, .int 1)]) hx hb dX4_readSum_6 hl (Nat.le_of_ble_eq_true rfl) rfl (fun ls hl => ?_)
  exact hU _ _ _ (J8 _ 0 0 0 h1_f2 h1_f3 h0_f1 h0_0c (Nat.lt_succ_self _) g_h0_f1 g_h1_f1 g_h1_f2 g_h1_f3 g_h0_f1 g_h1_f2 g_h1_f3 (RG_w (RG_k 0 0 rfl) (by decide +kernel)) (RG_w (RG_k 0 0 rfl) (by decide +kernel)) (RG_w (RG_k 0 0 rfl) (by decide +kernel)) _ _ _ hP hD hS (lv_sub hl [0, 1, 2, 3, 4, 5] rfl))
