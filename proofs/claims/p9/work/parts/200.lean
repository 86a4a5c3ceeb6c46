noncomputable def wf_c_X9_bytesIn : List Cond := .code yX9_bytesIn cX9_bytesIn 3 (some .int) :: ([])
set_option maxHeartbeats 4000000 in
set_option maxRecDepth 100000 in
theorem c_X9_bytesIn (l : Launch) (dC : Nat → ClassId) (dI : Nat → Nat → Nat) (sz : Nat) (p0 : Int32) : Met l yX9_bytesIn wf_c_X9_bytesIn ({ frames := 0, cells := 0, slots := 0, locals := 0 }) (va_Pc [.int p0] (fun U => U.heap.size = sz ∧ va_P (dC, dI) vwCl [] U.heap ∧ va_K (dC, dI) vwCl [] U ∧ va_D (fun _ => True) [])) (va_Qi (fun (r : Int32) (u : Unit) => (RG r (-2147483648) 2147483647 ∧ r = fx_c_X9_bytesIn p0)) (fun (u : Unit) t => va_P (dC, dI) vwCl [] t.heap ∧ va_K (dC, dI) vwCl [] t ∧ va_D (va_A [] sz) []) (va_A [] sz)) 0 0 (va_A [] sz) := by
  refine Met.ofW (cc := cX9_bytesIn) (maxL := 3) (ret := (some .int)) (by decide +kernel) rfl ?_
  intro p e s m args below meth c s₁ B hml hv
  obtain ⟨rfl, hsz, hP, hK, hD0⟩ := hv
  have hx := B.exec
  have hb := B.bytes
  have hr := B.returns
  have hts := atoms_spec (ws := wf_c_X9_bytesIn) B.pre
  have hown : s.vm.findClass RX9 = some m.cls := findClass_of_methodNamed B.named
  have hlocks := B.notSynchronized
  subst hsz
  have hD := hD0.self (sz := s.heap.size)
  generalize hAe : va_A [] s.heap.size = A at hD ⊢
  have hA : ∀ q : Nat, s.heap.size ≤ q → A q := fun q h => by rw [← hAe]; exact Or.inr h
  have hP : va_P (dC, dI) vwCl [] s.heap := hP
  have hl := lv_entry ([.int p0]) (n := 3) (Nat.le_of_ble_eq_true rfl)
  rw [lg_entry_eq]
  generalize (lg_sl ([.int p0]) ++ List.replicate (3 - (lg_sl ([.int p0])).length) Slot.unset).toArray = ls at hl ⊢
  have hl : lv_has ls 3 [(0, .int p0)] := hl
  obtain ⟨H, hHe⟩ : ∃ H : Heap, s.heap = H := ⟨_, rfl⟩
  have hS : va_S A s.heap H [] := by rw [hHe]; exact va_S.rf
  have hP : va_P (dC, dI) vwCl [] H := by rw [← hHe]; exact hP
  rw [hHe]
  obtain ⟨RES, hR⟩ : ∃ z, fx_c_X9_bytesIn p0 = z := ⟨_, rfl⟩
  have hEX : RES = fx_c_X9_bytesIn p0 := hR.symm
  refine wj (fun G hG hU => ?_)
  as_aux_lemma =>
  have J4 : ∀ (n4 : Nat) (j4_l2 : Int32) (j4_l1 : Int32) (hM4 : MU j4_l2 < n4) (g_j4_l2 : RG j4_l2 0 39) (hEX : RES = fx_c_X9_bytesIn_p4 p0 n4 j4_l2 j4_l1) (H : Heap) (locs : List Loc) (ls : Array Slot) (hP : va_P (dC, dI) vwCl [] H) (hD : va_D A []) (hS : va_S A s.heap H locs) (hl : lv_has ls 3 [(2, .int j4_l2), (1, .int j4_l1), (0, .int p0)]), G H locs (F0 m 4 ls []) := by
    as_aux_lemma =>
    intro n4
    induction n4 with
    | zero => intros; exact absurd (by assumption) (Nat.not_lt_zero _)
    | succ n4 ih4 =>
      intro j4_l2 j4_l1 hM4 g_j4_l2 hEX H locs ls hP hD hS hl
      have J23 : ∀ (j23_l1 : Int32) (g_j4_l2 : RG j4_l2 0 31) (hEX : RES = fx_c_X9_bytesIn_p23 j4_l2 (fx_c_X9_bytesIn_p4 p0 n4) j23_l1) (H : Heap) (locs : List Loc) (ls : Array Slot) (hP : va_P (dC, dI) vwCl [] H) (hD : va_D A []) (hS : va_S A s.heap H locs) (hl : lv_has ls 3 [(2, .int j4_l2), (1, .int j23_l1), (0, .int p0)]), G H locs (F0 m 23 ls []) := by
        as_aux_lemma =>
        intro j23_l1 g_j4_l2 hEX H locs ls hP hD hS hl
        refine hG _ _ _ ?_
        obtain ⟨x_1, ex_1⟩ : ∃ y : Int32, y = j4_l2 + 8 := ⟨_, rfl⟩
        have g_2 : RG x_1 8 39 := RG_add ex_1 g_j4_l2 (RG_k 8 8 rfl) (by decide +kernel)
        replace hEX := hEX.trans (exl_eq ex_1)
        refine lv_iinc (v := x_1) (lv' := [(2, .int x_1), (1, .int j23_l1), (0, .int p0)]) hx hb dX9_bytesIn_23 hl (k := 0) rfl (by rw [ex_1]; rfl) (Nat.le_of_ble_eq_true rfl) rfl (fun ls hl => ?_)
        refine lv_goto (tgt := 4) hx hb dX9_bytesIn_26 rfl ?_
        exact hU _ _ _ (ih4 x_1 j23_l1 (mu_s (MU_add ex_1 g_j4_l2 (q := 8) rfl (by decide +kernel)) hM4) (RG_w g_2 (by decide +kernel)) hEX _ _ _ hP hD hS (lv_sub hl [0, 1, 2] rfl))
      refine hG _ _ _ ?_
      replace hEX := hEX.trans (if_pos (rfl : j4_l2 = j4_l2))
      refine lv_iload_n hx hb dX9_bytesIn_4 rfl (lv_at hl 0 rfl) ?_
      refine lv_bipush (v := 32) hx hb dX9_bytesIn_5 kc_bipush_32 ?_
      refine lv_icmp_ge (tgt := 29) hx hb dX9_bytesIn_7 rfl (fun c_3 => ?_) (fun c_3 => ?_)
      · replace hEX := hEX.trans (if_pos c_3)
        have g_4 : RG j4_l2 32 39 := RG_le2 (RG_k 32 32 rfl) g_j4_l2 c_3 (by decide +kernel)
        refine lv_iload_n hx hb dX9_bytesIn_29 rfl (lv_at hl 1 rfl) ?_
        as_aux_lemma =>
        have hK9 := hK.sub (tys' := []) [] rfl
        exact W.iret (v := j4_l1) hx hb hr (fun t ht hW => ⟨⟨j4_l1, (), rfl, ⟨(RG_any j4_l1), (hR.trans hEX).symm⟩, by rw [ht]; exact hP, va_K.moved hW.alike hK9, hD⟩, hS.F ht⟩) hS.2.2 dX9_bytesIn_30
      · replace hEX := hEX.trans (if_neg c_3)
        have d_5 := Int32.not_le.mp c_3
        have g_6 : RG j4_l2 0 31 := RG_lt1 g_j4_l2 (RG_k 32 32 rfl) d_5 (by decide +kernel)
        refine lv_iload_n hx hb dX9_bytesIn_10 rfl (lv_at hl 2 rfl) ?_
        refine lv_iload_n hx hb dX9_bytesIn_11 rfl (lv_at hl 0 rfl) ?_
        refine lv_iushr hx hb dX9_bytesIn_12 rfl ?_
        refine lv_topi (fun x_7 ex_7 => ?_)
        replace hEX := hEX.trans (exl_eq ex_7)
        refine lv_sipush (v := 255) hx hb dX9_bytesIn_13 kc_sipush_255 ?_
        refine lv_iand hx hb dX9_bytesIn_16 ?_
        refine lv_topi (fun x_8 ex_8 => ?_)
        replace hEX := hEX.trans (exl_eq ex_8)
        have g_9 : RG x_8 0 255 := RG_andr ex_8 (RG_k 255 255 rfl) (by decide +kernel)
        refine lv_if_eq (tgt := 23) hx hb dX9_bytesIn_17 rfl (fun c_10 => ?_) (fun c_10 => ?_)
        · replace hEX := hEX.trans (if_pos c_10)
          have g_11 : RG x_8 0 0 := RG_eq1 g_9 (RG_k 0 0 rfl) c_10 (by decide +kernel)
          exact hU _ _ _ (J23 j4_l1 g_6 hEX _ _ _ hP hD hS (lv_sub hl [0, 1, 2] rfl))
        · replace hEX := hEX.trans (if_neg c_10)
          have g_12 : RG x_8 1 255 := RG_ne1 g_9 (q := 0) rfl c_10 (by decide +kernel)
          obtain ⟨x_13, ex_13⟩ : ∃ y : Int32, y = j4_l1 + 1 := ⟨_, rfl⟩
          replace hEX := hEX.trans (exl_eq ex_13)
          refine lv_iinc (v := x_13) (lv' := [(1, .int x_13), (2, .int j4_l2), (0, .int p0)]) hx hb dX9_bytesIn_20 hl (k := 1) rfl (by rw [ex_13]; rfl) (Nat.le_of_ble_eq_true rfl) rfl (fun ls hl => ?_)
          as_aux_lemma =>
          exact hU _ _ _ (J23 x_13 g_6 hEX _ _ _ hP hD hS (lv_sub hl [1, 0, 2] rfl))
  refine hG _ _ _ ?_
  refine lv_iconst (v := 0) hx hb dX9_bytesIn_0 kc_iconst_0 ?_
  refine lv_istore_n (lv' := [(1, .int 0), (0, .int p0)]) hx hb dX9_bytesIn_1 rfl hl (Nat.le_of_ble_eq_true rfl) rfl (fun ls hl => ?_)
  refine lv_iconst (v := 0) hx hb dX9_bytesIn_2 kc_iconst_0 ?_
  refine lv_istore_n (lv' := [(2, .int 0), (1, .int 0), (0, .int p0)]) hx hb dX9_bytesIn_3 rfl hl (Nat.le_of_ble_eq_true rfl) rfl (fun ls hl => ?_)
  exact hU _ _ _ (J4 exF 0 0 MU_F (RG_w (RG_k 0 0 rfl) (by decide +kernel)) hEX _ _ _ hP hD hS (lv_sub hl [0, 1, 2] rfl))
noncomputable def wd_c_X9_append (a0 : Nat) (a1 : Nat) (a2 : Int32) (a3 : Int32) (a4 : Int32) (a5 : Nat) (a6 : ClassId) (a7 : Nat → Int32) : va_W := [(a0, .inr (9, [.ref a1, .int a2, .int a3, .int a4])), (a5, .inl (a6, 240, .inl a7))]
noncomputable def wf_c_X9_append : List Cond := List.cons (.code yX9_append cX9_append 4 none) (@HAppend.hAppend (List Cond) (List Cond) (List Cond) _ [.fieldLink RX9 19 "BuoyVote$Tape" "length" "I", .fieldLink RX9 11 "BuoyVote$Tape" "bytes" "[I"] wsX90)
theorem iw_c_X9_append_X9 : ∀ w ∈ wsX90, w ∈ wf_c_X9_append := fun w h => List.mem_cons_of_mem _ (List.mem_append_right _ h)
set_option maxHeartbeats 4000000 in
set_option maxRecDepth 100000 in
theorem c_X9_append (l : Launch) (dC : Nat → ClassId) (dI : Nat → Nat → Nat) (sz : Nat) (h0 : Nat) (p1 : Int32) (h0_0 : Nat) (h0_f1 : Int32) (h0_f2 : Int32) (h0_f3 : Int32) (h0_0k : ClassId) (h0_0c : Nat → Int32) (g_h0_f1 : RG h0_f1 0 240) (g_h0_f2 : RG h0_f2 0 240) (g_h0_f3 : RG h0_f3 (-1) 240) (a_h0_0c : AI h0_0c 0 255) : Met l yX9_append wf_c_X9_append ({ frames := 0, cells := 0, slots := 0, locals := 0 }) (va_Pc [.ref h0, .int p1] (fun U => U.heap.size = sz ∧ va_P (dC, dI) vwCl (wd_c_X9_append h0 h0_0 h0_f1 h0_f2 h0_f3 h0_0 h0_0k h0_0c) U.heap ∧ va_K (dC, dI) vwCl [(h0_0k, .int)] U ∧ va_D (fun _ => True) (wd_c_X9_append h0 h0_0 h0_f1 h0_f2 h0_f3 h0_0 h0_0k h0_0c))) (va_Qv (fun (u : (Int32) × (Nat → Int32)) => (RG u.1 0 240 ∧ AI (u.2) 0 255 ∧ (u.1, u.2) = fx_c_X9_append p1 h0_f1 h0_0c)) (fun (u : (Int32) × (Nat → Int32)) t => va_P (dC, dI) vwCl (wd_c_X9_append h0 h0_0 (u.1) h0_f2 h0_f3 h0_0 h0_0k (u.2)) t.heap ∧ va_K (dC, dI) vwCl [] t ∧ va_D (va_A (wd_c_X9_append h0 h0_0 h0_f1 h0_f2 h0_f3 h0_0 h0_0k h0_0c) sz) (wd_c_X9_append h0 h0_0 (u.1) h0_f2 h0_f3 h0_0 h0_0k (u.2))) (va_A (wd_c_X9_append h0 h0_0 h0_f1 h0_f2 h0_f3 h0_0 h0_0k h0_0c) sz)) 0 0 (va_A (wd_c_X9_append h0 h0_0 h0_f1 h0_f2 h0_f3 h0_0 h0_0k h0_0c) sz) := by
  refine Met.ofW (cc := cX9_append) (maxL := 4) (ret := none) (by decide +kernel) rfl ?_
  intro p e s m args below meth c s₁ B hml hv
  obtain ⟨rfl, hsz, hP, hK, hD0⟩ := hv
  have hx := B.exec
  have hb := B.bytes
  have hr := B.returns
  have hts := atoms_spec (ws := wf_c_X9_append) B.pre
  have hown : s.vm.findClass RX9 = some m.cls := findClass_of_methodNamed B.named
  have hlocks := B.notSynchronized
  subst hsz
  have hD := hD0.self (sz := s.heap.size)
  generalize hAe : va_A (wd_c_X9_append h0 h0_0 h0_f1 h0_f2 h0_f3 h0_0 h0_0k h0_0c) s.heap.size = A at hD ⊢
  have hA : ∀ q : Nat, s.heap.size ≤ q → A q := fun q h => by rw [← hAe]; exact Or.inr h
  have hP : va_P (dC, dI) vwCl (wd_c_X9_append h0 h0_0 h0_f1 h0_f2 h0_f3 h0_0 h0_0k h0_0c) s.heap := hP
  have hl := lv_entry ([.ref h0, .int p1]) (n := 4) (Nat.le_of_ble_eq_true rfl)
  rw [lg_entry_eq]
  generalize (lg_sl ([.ref h0, .int p1]) ++ List.replicate (4 - (lg_sl ([.ref h0, .int p1])).length) Slot.unset).toArray = ls at hl ⊢
  have hl : lv_has ls 4 [(0, .ref h0), (1, .int p1)] := hl
  obtain ⟨H, hHe⟩ : ∃ H : Heap, s.heap = H := ⟨_, rfl⟩
  have hS : va_S A s.heap H [] := by rw [hHe]; exact va_S.rf
  have hP : va_P (dC, dI) vwCl (wd_c_X9_append h0 h0_0 h0_f1 h0_f2 h0_f3 h0_0 h0_0k h0_0c) H := by rw [← hHe]; exact hP
  rw [hHe]
  obtain ⟨RES, hR⟩ : ∃ z, fx_c_X9_append p1 h0_f1 h0_0c = z := ⟨_, rfl⟩
  have hEX : RES = fx_c_X9_append p1 h0_f1 h0_0c := hR.symm
  refine wj (fun G hG hU => ?_)
  as_aux_lemma =>
  have J3 : ∀ (n3 : Nat) (j3_l2 : Int32) (j3_h0_f1 : Int32) (j3_h0_0c : Nat → Int32) (hM3 : MD j3_l2 < n3) (g_h0_f1 : RG h0_f1 0 240) (g_h0_f2 : RG h0_f2 0 240) (g_h0_f3 : RG h0_f3 (-1) 240) (g_j3_h0_f1 : RG j3_h0_f1 0 240) (g_j3_l2 : RG j3_l2 (-8) 24) (a_j3_h0_0c : AI j3_h0_0c 0 255) (hEX : RES = fx_c_X9_append_p3 p1 n3 j3_l2 j3_h0_f1 j3_h0_0c) (H : Heap) (locs : List Loc) (ls : Array Slot) (hP : va_P (dC, dI) vwCl (wd_c_X9_append h0 h0_0 j3_h0_f1 h0_f2 h0_f3 h0_0 h0_0k j3_h0_0c) H) (hD : va_D A (wd_c_X9_append h0 h0_0 j3_h0_f1 h0_f2 h0_f3 h0_0 h0_0k j3_h0_0c)) (hS : va_S A s.heap H locs) (hl : lv_has ls 4 [(2, .int j3_l2), (0, .ref h0), (1, .int p1)]), G H locs (F0 m 3 ls []) := by
    as_aux_lemma =>
    intro n3
    induction n3 with
    | zero => intros; exact absurd (by assumption) (Nat.not_lt_zero _)
    | succ n3 ih3 =>
      intro j3_l2 j3_h0_f1 j3_h0_0c hM3 g_h0_f1 g_h0_f2 g_h0_f3 g_j3_h0_f1 g_j3_l2 a_j3_h0_0c hEX H locs ls hP hD hS hl
      have J49 : ∀ (j49_h0_f1 : Int32) (j49_h0_0c : Nat → Int32) (g_h0_f1 : RG h0_f1 0 240) (g_h0_f2 : RG h0_f2 0 240) (g_h0_f3 : RG h0_f3 (-1) 240) (g_j3_h0_f1 : RG j3_h0_f1 0 240) (g_j3_l2 : RG j3_l2 0 24) (g_j49_h0_f1 : RG j49_h0_f1 0 240) (a_j49_h0_0c : AI j49_h0_0c 0 255) (hEX : RES = fx_c_X9_append_p49 j3_l2 (fx_c_X9_append_p3 p1 n3) j49_h0_f1 j49_h0_0c) (H : Heap) (locs : List Loc) (ls : Array Slot) (hP : va_P (dC, dI) vwCl (wd_c_X9_append h0 h0_0 j49_h0_f1 h0_f2 h0_f3 h0_0 h0_0k j49_h0_0c) H) (hD : va_D A (wd_c_X9_append h0 h0_0 j49_h0_f1 h0_f2 h0_f3 h0_0 h0_0k j49_h0_0c)) (hS : va_S A s.heap H locs) (hl : lv_has ls 4 [(2, .int j3_l2), (0, .ref h0), (1, .int p1)]), G H locs (F0 m 49 ls []) := by
        as_aux_lemma =>
        intro j49_h0_f1 j49_h0_0c g_h0_f1 g_h0_f2 g_h0_f3 g_j3_h0_f1 g_j3_l2 g_j49_h0_f1 a_j49_h0_0c hEX H locs ls hP hD hS hl
        refine hG _ _ _ ?_
        obtain ⟨x_1, ex_1⟩ : ∃ y : Int32, y = j3_l2 + (-8) := ⟨_, rfl⟩
        have g_2 : RG x_1 (-8) 16 := RG_add ex_1 g_j3_l2 (RG_k (-8) (-8) rfl) (by decide +kernel)
        replace hEX := hEX.trans (exl_eq ex_1)
        refine lv_iinc (v := x_1) (lv' := [(2, .int x_1), (0, .ref h0), (1, .int p1)]) hx hb dX9_append_49 hl (k := 0) rfl (by rw [ex_1]; rfl) (Nat.le_of_ble_eq_true rfl) rfl (fun ls hl => ?_)
        refine lv_goto (tgt := 3) hx hb dX9_append_52 rfl ?_
        exact hU _ _ _ (ih3 x_1 j49_h0_f1 j49_h0_0c (mu_s (MD_add ex_1 g_j3_l2 (q := (-8)) rfl (by decide +kernel)) hM3) g_h0_f1 g_h0_f2 g_h0_f3 g_j49_h0_f1 (RG_w g_2 (by decide +kernel)) a_j49_h0_0c hEX _ _ _ hP hD hS (lv_sub hl [0, 1, 2] rfl))
      refine hG _ _ _ ?_
      replace hEX := hEX.trans (if_pos (rfl : j3_l2 = j3_l2))
      refine lv_iload_n hx hb dX9_append_3 rfl (lv_at hl 0 rfl) ?_
      refine lv_if_lt (tgt := 55) hx hb dX9_append_4 rfl (fun c_3 => ?_) (fun c_3 => ?_)
      · replace hEX := hEX.trans (if_pos c_3)
        have g_4 : RG j3_l2 (-8) (-1) := RG_lt1 g_j3_l2 (RG_k 0 0 rfl) c_3 (by decide +kernel)
        have hK9 := hK.sub (tys' := []) [] rfl
        exact W.vret hx hb hr (fun t ht hW => ⟨⟨(j3_h0_f1, j3_h0_0c), rfl, ⟨g_j3_h0_f1, a_j3_h0_0c, (hR.trans hEX).symm⟩, by rw [ht]; exact hP, va_K.moved hW.alike hK9, hD⟩, hS.F ht⟩) hS.2.2 dX9_append_55
      · replace hEX := hEX.trans (if_neg c_3)
        have d_5 := Int32.not_lt.mp c_3
        have g_6 : RG j3_l2 0 24 := RG_le2 (RG_k 0 0 rfl) g_j3_l2 d_5 (by decide +kernel)
        refine lv_iload_n hx hb dX9_append_7 rfl (lv_at hl 2 rfl) ?_
        as_aux_lemma =>
        refine lv_iload_n hx hb dX9_append_8 rfl (lv_at hl 0 rfl) ?_
        refine lv_iushr hx hb dX9_append_9 rfl ?_
        refine lv_topi (fun x_7 ex_7 => ?_)
        replace hEX := hEX.trans (exl_eq ex_7)
        refine lv_sipush (v := 255) hx hb dX9_append_10 kc_sipush_255 ?_
        refine lv_iand hx hb dX9_append_13 ?_
        refine lv_topi (fun x_8 ex_8 => ?_)
        replace hEX := hEX.trans (exl_eq ex_8)
        have g_9 : RG x_8 0 255 := RG_andr ex_8 (RG_k 255 255 rfl) (by decide +kernel)
        refine lv_istore_n (lv' := [(3, .int x_8), (2, .int j3_l2), (0, .ref h0), (1, .int p1)]) hx hb dX9_append_14 rfl hl (Nat.le_of_ble_eq_true rfl) rfl (fun ls hl => ?_)
        refine lv_iload_n hx hb dX9_append_15 rfl (lv_at hl 0 rfl) ?_
        refine lv_if_eq (tgt := 49) hx hb dX9_append_16 rfl (fun c_10 => ?_) (fun c_10 => ?_)
        · replace hEX := hEX.trans (if_pos c_10)
          have g_11 : RG x_8 0 0 := RG_eq1 g_9 (RG_k 0 0 rfl) c_10 (by decide +kernel)
          exact hU _ _ _ (J49 j3_h0_f1 j3_h0_0c g_h0_f1 g_h0_f2 g_h0_f3 g_j3_h0_f1 g_6 g_j3_h0_f1 a_j3_h0_0c hEX _ _ _ hP hD hS (lv_sub hl [1, 2, 3] rfl))
        · replace hEX := hEX.trans (if_neg c_10)
          have g_12 : RG x_8 1 255 := RG_ne1 g_9 (q := 0) rfl c_10 (by decide +kernel)
          refine lv_aload_n hx hb dX9_append_19 rfl (lv_at hl 2 rfl) ?_
          as_aux_lemma =>
          refine va_get (D := (dC, dI)) (ci := 9) (v := .int j3_h0_f1) (C := RX9) (T := TX9) (N := 4) hx hb hts iw_c_X9_append_X9 hown hK hP 0 rfl rfl 1 (by decide +kernel) (hts (.fieldLink RX9 19 "BuoyVote$Tape" "length" "I") (List.mem_of_getElem? (i := 1) rfl)) (fun _ h9 => h9) rfl dX9_append_20 ?_
          refine lv_sipush (v := 240) hx hb dX9_append_23 kc_sipush_240 ?_
          refine lv_icmp_ge (tgt := 49) hx hb dX9_append_26 rfl (fun c_13 => ?_) (fun c_13 => ?_)
          · replace hEX := hEX.trans (if_pos c_13)
            have g_14 : RG j3_h0_f1 240 240 := RG_le2 (RG_k 240 240 rfl) g_j3_h0_f1 c_13 (by decide +kernel)
            exact hU _ _ _ (J49 j3_h0_f1 j3_h0_0c g_h0_f1 g_h0_f2 g_h0_f3 (RG_w g_14 (by decide +kernel)) g_6 (RG_w g_14 (by decide +kernel)) a_j3_h0_0c hEX _ _ _ hP hD hS (lv_sub hl [1, 2, 3] rfl))
          · replace hEX := hEX.trans (if_neg c_13)
            have d_15 := Int32.not_le.mp c_13
            have g_16 : RG j3_h0_f1 0 239 := RG_lt1 g_j3_h0_f1 (RG_k 240 240 rfl) d_15 (by decide +kernel)
            refine lv_aload_n hx hb dX9_append_29 rfl (lv_at hl 2 rfl) ?_
            refine va_get (D := (dC, dI)) (ci := 9) (v := .ref h0_0) (C := RX9) (T := TX9) (N := 4) hx hb hts iw_c_X9_append_X9 hown hK hP 0 rfl rfl 0 (by decide +kernel) (hts (.fieldLink RX9 11 "BuoyVote$Tape" "bytes" "[I") (List.mem_of_getElem? (i := 2) rfl)) (fun _ h9 => h9) rfl dX9_append_30 ?_
            refine lv_aload_n hx hb dX9_append_33 rfl (lv_at hl 2 rfl) ?_
            refine va_get (D := (dC, dI)) (ci := 9) (v := .int j3_h0_f1) (C := RX9) (T := TX9) (N := 4) hx hb hts iw_c_X9_append_X9 hown hK hP 0 rfl rfl 1 (by decide +kernel) (hts (.fieldLink RX9 19 "BuoyVote$Tape" "length" "I") (List.mem_of_getElem? (i := 1) rfl)) (fun _ h9 => h9) rfl dX9_append_34 ?_
            refine lv_iload_n hx hb dX9_append_37 rfl (lv_at hl 0 rfl) ?_
            as_aux_lemma =>
            refine va_iast hx hb hK hP hD hS 1 0 rfl rfl (RG_in g_16 (by decide +kernel)) dX9_append_38 (fun H locs hP hD hS => ?_)
            have hP : va_P (dC, dI) vwCl (wd_c_X9_append h0 h0_0 j3_h0_f1 h0_f2 h0_f3 h0_0 h0_0k (upd j3_h0_0c (j3_h0_f1 : Int32).toNatClampNeg x_8)) H := hP
            have hD : va_D A (wd_c_X9_append h0 h0_0 j3_h0_f1 h0_f2 h0_f3 h0_0 h0_0k (upd j3_h0_0c (j3_h0_f1 : Int32).toNatClampNeg x_8)) := hD
            have l_18 : (upd j3_h0_0c (j3_h0_f1 : Int32).toNatClampNeg x_8) (j3_h0_f1 : Int32).toNatClampNeg = x_8 := pk_us
            have a_19 : AI (upd j3_h0_0c (j3_h0_f1 : Int32).toNatClampNeg x_8) 0 255 := AI_up a_j3_h0_0c g_12 (by decide +kernel)
            generalize huw_17 : (upd j3_h0_0c (j3_h0_f1 : Int32).toNatClampNeg x_8) = w_17 at hP hD a_19 l_18
            replace hEX := hEX.trans (exl_eq huw_17.symm)
            have hP : va_P (dC, dI) vwCl (wd_c_X9_append h0 h0_0 j3_h0_f1 h0_f2 h0_f3 h0_0 h0_0k w_17) H := hP
            have hD : va_D A (wd_c_X9_append h0 h0_0 j3_h0_f1 h0_f2 h0_f3 h0_0 h0_0k w_17) := hD
            refine lv_aload_n hx hb dX9_append_39 rfl (lv_at hl 2 rfl) ?_
            refine lv_dup hx hb dX9_append_40 rfl ?_
            refine va_get (D := (dC, dI)) (ci := 9) (v := .int j3_h0_f1) (C := RX9) (T := TX9) (N := 4) hx hb hts iw_c_X9_append_X9 hown hK hP 0 rfl rfl 1 (by decide +kernel) (hts (.fieldLink RX9 19 "BuoyVote$Tape" "length" "I") (List.mem_of_getElem? (i := 1) rfl)) (fun _ h9 => h9) rfl dX9_append_41 ?_
            refine lv_iconst (v := 1) hx hb dX9_append_44 kc_iconst_1 ?_
            refine lv_iadd hx hb dX9_append_45 ?_
            as_aux_lemma =>
            refine lv_topi (fun x_20 ex_20 => ?_)
            replace hEX := hEX.trans (exl_eq ex_20)
            have g_21 : RG x_20 1 240 := RG_add ex_20 g_16 (RG_k 1 1 rfl) (by decide +kernel)
            refine va_put (D := (dC, dI)) (ci := 9) (v := .int x_20) (ty := .int) (C := RX9) (T := TX9) (N := 4) hx hb hts iw_c_X9_append_X9 tyX9 tyX9_ok nmX9 hown hK hP hD hS 0 rfl rfl 1 (by decide +kernel) (hts (.fieldLink RX9 19 "BuoyVote$Tape" "length" "I") (List.mem_of_getElem? (i := 1) rfl)) (fun _ h9 => h9) rfl (by decide +kernel) rfl rfl (Nat.le_of_ble_eq_true rfl) dX9_append_46 (fun H locs hP hD hS => ?_)
            have hP : va_P (dC, dI) vwCl (wd_c_X9_append h0 h0_0 x_20 h0_f2 h0_f3 h0_0 h0_0k w_17) H := hP
            have hD : va_D A (wd_c_X9_append h0 h0_0 x_20 h0_f2 h0_f3 h0_0 h0_0k w_17) := hD
            exact hU _ _ _ (J49 x_20 w_17 g_h0_f1 g_h0_f2 g_h0_f3 (RG_w g_16 (by decide +kernel)) g_6 (RG_w g_21 (by decide +kernel)) a_19 hEX _ _ _ hP hD hS (lv_sub hl [1, 2, 3] rfl))
  refine hG _ _ _ ?_
  refine lv_bipush (v := 24) hx hb dX9_append_0 kc_bipush_24 ?_
  refine lv_istore_n (lv' := [(2, .int 24), (0, .ref h0), (1, .int p1)]) hx hb dX9_append_2 rfl hl (Nat.le_of_ble_eq_true rfl) rfl (fun ls hl => ?_)
  exact hU _ _ _ (J3 exF 24 h0_f1 h0_0c MD_F g_h0_f1 g_h0_f2 g_h0_f3 g_h0_f1 (RG_w (RG_k 24 24 rfl) (by decide +kernel)) a_h0_0c hEX _ _ _ hP hD hS (lv_sub hl [0, 1, 2] rfl))
noncomputable def wd_c_X11_feed (a0 : Nat) (a1 : Nat) (a2 : Nat) (a3 : Nat) (a4 : Nat) (a5 : Nat) (a6 : Int32) (a7 : Nat) (a8 : Nat) (a9 : Nat) (a10 : Nat) (a11 : Nat) (a12 : Nat) (a13 : Nat) (a14 : Nat) (a15 : Nat) (a16 : Int64) (a17 : Nat) (a18 : Nat) (a19 : Int32) (a20 : Int32) (a21 : Int32) (a22 : Nat) (a23 : ClassId) (a24 : Nat → Int32) : va_W := [(a0, .inr (11, [.ref a1, .ref a2, .ref a3, .ref a4, .ref a5, .int a6, .ref a7, .ref a8, .ref a9, .ref a10, .ref a11, .ref a12, .ref a13, .ref a14, .ref a15, .long a16])), (a17, .inr (9, [.ref a18, .int a19, .int a20, .int a21])), (a22, .inl (a23, 240, .inl a24))]
noncomputable def wf_c_X11_feed : List Cond := List.cons (.code yX11_feed cX11_feed 7 (some .int)) (@HAppend.hAppend (List Cond) (List Cond) (List Cond) _ (@HAppend.hAppend (List Cond) (List Cond) (List Cond) _ [.methodLink RX11 99 yX9_bytesIn, .static yX9_bytesIn, .initialized RX9, .code yX9_bytesIn cX9_bytesIn 3 (some .int), .fieldLink RX11 10 "BuoyVote" "tape" "LBuoyVote$Tape;", .fieldLink RX11 103 "BuoyVote$Tape" "length" "I", .methodLink RX11 107 yX9_append, .instanceMethod yX9_append, .selects RX9 yX9_append yX9_append, .code yX9_append cX9_append 4 none, .fieldLink RX9 19 "BuoyVote$Tape" "length" "I", .fieldLink RX9 11 "BuoyVote$Tape" "bytes" "[I"] wsX110) wsX90)
theorem iw_c_X11_feed_X11 : ∀ w ∈ wsX110, w ∈ wf_c_X11_feed := fun w h => List.mem_cons_of_mem _ (List.mem_append_left _ (List.mem_append_right _ h))
theorem iw_c_X11_feed_X9 : ∀ w ∈ wsX90, w ∈ wf_c_X11_feed := fun w h => List.mem_cons_of_mem _ (List.mem_append_right _ h)
set_option maxRecDepth 20000 in
theorem gf_c_X11_feed_c_X9_bytesIn : GoodIn wf_c_X11_feed (va_wsS RX11 99 yX9_bytesIn wf_c_X9_bytesIn) := goodIn_app (gi_l [1, 2, 3] rfl rfl) (gi_cons (j := 4) rfl rfl gi_nil)
set_option maxRecDepth 20000 in
theorem gf_c_X11_feed_c_X9_append : GoodIn wf_c_X11_feed (wsV RX11 107 RX9 yX9_append wf_c_X9_append) := goodIn_app (gi_l [7, 8, 9, 3] rfl rfl) (gi_cons (j := 10) rfl rfl (goodIn_app (gi_l [11, 12] rfl rfl) (goodIn_sub iw_c_X11_feed_X9 gw_X9)))
set_option maxHeartbeats 4000000 in
set_option maxRecDepth 100000 in
theorem c_X11_feed (l : Launch) (dC : Nat → ClassId) (dI : Nat → Nat → Nat) (sz : Nat) (h0 : Nat) (p1 : Int32) (p2 : Int32) (p3 : Int32) (p4 : Int32) (p5 : Int32) (h0_0 : Nat) (h0_1 : Nat) (h0_2 : Nat) (h0_3 : Nat) (h0_4 : Nat) (h0_f5 : Int32) (h0_6 : Nat) (h0_7 : Nat) (h0_8 : Nat) (h0_9 : Nat) (h0_10 : Nat) (h0_11 : Nat) (h0_12 : Nat) (h0_13 : Nat) (h0_14 : Nat) (h0_f15 : Int64) (h0_0_0 : Nat) (h0_0_f1 : Int32) (h0_0_f2 : Int32) (h0_0_f3 : Int32) (h0_0_0k : ClassId) (h0_0_0c : Nat → Int32) (g_h0_f5 : RG h0_f5 0 4) (g_h0_0_f1 : RG h0_0_f1 0 240) (g_h0_0_f2 : RG h0_0_f2 0 240) (g_h0_0_f3 : RG h0_0_f3 (-1) 240) (a_h0_0_0c : AI h0_0_0c 0 255) : Met l yX11_feed wf_c_X11_feed ({ frames := 1, cells := 0, slots := 0, locals := 23 }) (va_Pc [.ref h0, .int p1, .int p2, .int p3, .int p4, .int p5] (fun U => U.heap.size = sz ∧ va_P (dC, dI) vwCl (wd_c_X11_feed h0 h0_0 h0_1 h0_2 h0_3 h0_4 h0_f5 h0_6 h0_7 h0_8 h0_9 h0_10 h0_11 h0_12 h0_13 h0_14 h0_f15 h0_0 h0_0_0 h0_0_f1 h0_0_f2 h0_0_f3 h0_0_0 h0_0_0k h0_0_0c) U.heap ∧ va_K (dC, dI) vwCl [(h0_0_0k, .int)] U ∧ va_D (fun _ => True) (wd_c_X11_feed h0 h0_0 h0_1 h0_2 h0_3 h0_4 h0_f5 h0_6 h0_7 h0_8 h0_9 h0_10 h0_11 h0_12 h0_13 h0_14 h0_f15 h0_0 h0_0_0 h0_0_f1 h0_0_f2 h0_0_f3 h0_0_0 h0_0_0k h0_0_0c))) (va_Qi (fun (r : Int32) (u : (Int32) × (Nat → Int32)) => (r = (-1) ∧ RG u.1 0 240 ∧ AI (u.2) 0 255 ∧ (r, u.1, u.2) = fx_c_X11_feed p1 p2 p3 p4 p5 h0_0_f1 h0_0_0c) ∨ (RG r 0 240 ∧ RG u.1 0 240 ∧ AI (u.2) 0 255 ∧ (r, u.1, u.2) = fx_c_X11_feed p1 p2 p3 p4 p5 h0_0_f1 h0_0_0c)) (fun (u : (Int32) × (Nat → Int32)) t => va_P (dC, dI) vwCl (wd_c_X11_feed h0 h0_0 h0_1 h0_2 h0_3 h0_4 h0_f5 h0_6 h0_7 h0_8 h0_9 h0_10 h0_11 h0_12 h0_13 h0_14 h0_f15 h0_0 h0_0_0 (u.1) h0_0_f2 h0_0_f3 h0_0_0 h0_0_0k (u.2)) t.heap ∧ va_K (dC, dI) vwCl [] t ∧ va_D (va_A (wd_c_X11_feed h0 h0_0 h0_1 h0_2 h0_3 h0_4 h0_f5 h0_6 h0_7 h0_8 h0_9 h0_10 h0_11 h0_12 h0_13 h0_14 h0_f15 h0_0 h0_0_0 h0_0_f1 h0_0_f2 h0_0_f3 h0_0_0 h0_0_0k h0_0_0c) sz) (wd_c_X11_feed h0 h0_0 h0_1 h0_2 h0_3 h0_4 h0_f5 h0_6 h0_7 h0_8 h0_9 h0_10 h0_11 h0_12 h0_13 h0_14 h0_f15 h0_0 h0_0_0 (u.1) h0_0_f2 h0_0_f3 h0_0_0 h0_0_0k (u.2))) (va_A (wd_c_X11_feed h0 h0_0 h0_1 h0_2 h0_3 h0_4 h0_f5 h0_6 h0_7 h0_8 h0_9 h0_10 h0_11 h0_12 h0_13 h0_14 h0_f15 h0_0 h0_0_0 h0_0_f1 h0_0_f2 h0_0_f3 h0_0_0 h0_0_0k h0_0_0c) sz)) 0 0 (va_A (wd_c_X11_feed h0 h0_0 h0_1 h0_2 h0_3 h0_4 h0_f5 h0_6 h0_7 h0_8 h0_9 h0_10 h0_11 h0_12 h0_13 h0_14 h0_f15 h0_0 h0_0_0 h0_0_f1 h0_0_f2 h0_0_f3 h0_0_0 h0_0_0k h0_0_0c) sz) := by
  refine Met.ofW (cc := cX11_feed) (maxL := 7) (ret := (some .int)) (by decide +kernel) rfl ?_
  intro p e s m args below meth c s₁ B hml hv
  obtain ⟨rfl, hsz, hP, hK, hD0⟩ := hv
  have hx := B.exec
  have hb := B.bytes
  have hr := B.returns
  have hts := atoms_spec (ws := wf_c_X11_feed) B.pre
  have hown : s.vm.findClass RX11 = some m.cls := findClass_of_methodNamed B.named
  have hlocks := B.notSynchronized
  subst hsz
  have hD := hD0.self (sz := s.heap.size)
  generalize hAe : va_A (wd_c_X11_feed h0 h0_0 h0_1 h0_2 h0_3 h0_4 h0_f5 h0_6 h0_7 h0_8 h0_9 h0_10 h0_11 h0_12 h0_13 h0_14 h0_f15 h0_0 h0_0_0 h0_0_f1 h0_0_f2 h0_0_f3 h0_0_0 h0_0_0k h0_0_0c) s.heap.size = A at hD ⊢
  have hA : ∀ q : Nat, s.heap.size ≤ q → A q := fun q h => by rw [← hAe]; exact Or.inr h
  have hP : va_P (dC, dI) vwCl (wd_c_X11_feed h0 h0_0 h0_1 h0_2 h0_3 h0_4 h0_f5 h0_6 h0_7 h0_8 h0_9 h0_10 h0_11 h0_12 h0_13 h0_14 h0_f15 h0_0 h0_0_0 h0_0_f1 h0_0_f2 h0_0_f3 h0_0_0 h0_0_0k h0_0_0c) s.heap := hP
  have hl := lv_entry ([.ref h0, .int p1, .int p2, .int p3, .int p4, .int p5]) (n := 7) (Nat.le_of_ble_eq_true rfl)
  rw [lg_entry_eq]
  generalize (lg_sl ([.ref h0, .int p1, .int p2, .int p3, .int p4, .int p5]) ++ List.replicate (7 - (lg_sl ([.ref h0, .int p1, .int p2, .int p3, .int p4, .int p5])).length) Slot.unset).toArray = ls at hl ⊢
  have hl : lv_has ls 7 [(0, .ref h0), (1, .int p1), (2, .int p2), (3, .int p3), (4, .int p4), (5, .int p5)] := hl
  obtain ⟨H, hHe⟩ : ∃ H : Heap, s.heap = H := ⟨_, rfl⟩
  have hS : va_S A s.heap H [] := by rw [hHe]; exact va_S.rf
  have hP : va_P (dC, dI) vwCl (wd_c_X11_feed h0 h0_0 h0_1 h0_2 h0_3 h0_4 h0_f5 h0_6 h0_7 h0_8 h0_9 h0_10 h0_11 h0_12 h0_13 h0_14 h0_f15 h0_0 h0_0_0 h0_0_f1 h0_0_f2 h0_0_f3 h0_0_0 h0_0_0k h0_0_0c) H := by rw [← hHe]; exact hP
  rw [hHe]
  obtain ⟨RES, hR⟩ : ∃ z, fx_c_X11_feed p1 p2 p3 p4 p5 h0_0_f1 h0_0_0c = z := ⟨_, rfl⟩
  have hEX : RES = fx_c_X11_feed p1 p2 p3 p4 p5 h0_0_f1 h0_0_0c := hR.symm
  refine lv_iload_n hx hb dX11_feed_0 rfl (lv_at hl 1 rfl) ?_
  as_aux_lemma =>
  obtain ⟨hPc, hDc, hFc, hqc⟩ := cl_cut (wc := []) hP hD hS hA [] (by decide +kernel) rfl
  have hKc := hK.sub (tys' := []) [] rfl
  refine va_calli (va_runS (As := [.int p1]) (rest := []) ⟨hx, hb, hml, hown, hts⟩ (c_X9_bytesIn l dC dI H.size p1) (va_cwS 1 hts gf_c_X11_feed_c_X9_bytesIn rfl rfl rfl md_X9_bytesIn ⟨Nat.le_of_ble_eq_true rfl, Nat.le_of_ble_eq_true rfl⟩) ⟨fun a U g mk q => by obtain ⟨q0, q1, qP, qK, qD⟩ := q; exact ⟨q0, q1, qP, va_K.moved (u := U) (U := U.calling g mk a) (Vm.Alike.refl U.vm) qK, qD⟩, fun U hU hW => ⟨rfl, by rw [hU], by rw [hU]; exact hPc, va_K.moved hW.alike hKc, hDc.weaken (fun _ _ _ _ => trivial)⟩⟩ rfl rfl hl.1 rfl (lv_room (Nat.le_of_ble_eq_true rfl)) dX11_feed_1 ⟨Nat.le_of_ble_eq_true rfl, Nat.le_of_ble_eq_true rfl⟩) hS (fun q _ h => hFc q h) hFc (fun r_1 u t H1 locs ht hvm hw hB hz1 hk1 hS => ?_)
  obtain ⟨hP1, hK1, hD1⟩ := hB
  rw [ht] at hP1
  have hP := bv_still hP hk1
  generalize H1 = H at hP hS ⊢
  as_aux_lemma =>
  rcases hw with ⟨h_2, h_3⟩
  have h_3 : r_1 = _ := h_3
  replace hEX := hEX.trans (exc1_eq h_3)
  refine lv_iload_n hx hb dX11_feed_4 rfl (lv_at hl 2 rfl) ?_
  obtain ⟨hPc, hDc, hFc, hqc⟩ := cl_cut (wc := []) hP hD hS hA [] (by decide +kernel) rfl
  have hKc := hK.sub (tys' := []) [] rfl
  refine va_calli (va_runS (As := [.int p2]) (rest := [.int r_1]) ⟨hx, hb, hml, hown, hts⟩ (c_X9_bytesIn l dC dI H.size p2) (va_cwS 1 hts gf_c_X11_feed_c_X9_bytesIn rfl rfl rfl md_X9_bytesIn ⟨Nat.le_of_ble_eq_true rfl, Nat.le_of_ble_eq_true rfl⟩) ⟨fun a U g mk q => by obtain ⟨q0, q1, qP, qK, qD⟩ := q; exact ⟨q0, q1, qP, va_K.moved (u := U) (U := U.calling g mk a) (Vm.Alike.refl U.vm) qK, qD⟩, fun U hU hW => ⟨rfl, by rw [hU], by rw [hU]; exact hPc, va_K.moved hW.alike hKc, hDc.weaken (fun _ _ _ _ => trivial)⟩⟩ rfl rfl hl.1 rfl (lv_room (Nat.le_of_ble_eq_true rfl)) dX11_feed_5 ⟨Nat.le_of_ble_eq_true rfl, Nat.le_of_ble_eq_true rfl⟩) hS (fun q _ h => hFc q h) hFc (fun r_4 u t H1 locs ht hvm hw hB hz1 hk1 hS => ?_)
  obtain ⟨hP1, hK1, hD1⟩ := hB
  rw [ht] at hP1
  have hP := bv_still hP hk1
  generalize H1 = H at hP hS ⊢
  as_aux_lemma =>
  rcases hw with ⟨h_5, h_6⟩
  have h_6 : r_4 = _ := h_6
  replace hEX := hEX.trans (exc1_eq h_6)
  refine lv_iadd hx hb dX11_feed_8 ?_
  refine lv_topi (fun x_7 ex_7 => ?_)
  replace hEX := hEX.trans (exl_eq ex_7)
  refine lv_iload_n hx hb dX11_feed_9 rfl (lv_at hl 3 rfl) ?_
  obtain ⟨hPc, hDc, hFc, hqc⟩ := cl_cut (wc := []) hP hD hS hA [] (by decide +kernel) rfl
  have hKc := hK.sub (tys' := []) [] rfl
  refine va_calli (va_runS (As := [.int p3]) (rest := [.int x_7]) ⟨hx, hb, hml, hown, hts⟩ (c_X9_bytesIn l dC dI H.size p3) (va_cwS 1 hts gf_c_X11_feed_c_X9_bytesIn rfl rfl rfl md_X9_bytesIn ⟨Nat.le_of_ble_eq_true rfl, Nat.le_of_ble_eq_true rfl⟩) ⟨fun a U g mk q => by obtain ⟨q0, q1, qP, qK, qD⟩ := q; exact ⟨q0, q1, qP, va_K.moved (u := U) (U := U.calling g mk a) (Vm.Alike.refl U.vm) qK, qD⟩, fun U hU hW => ⟨rfl, by rw [hU], by rw [hU]; exact hPc, va_K.moved hW.alike hKc, hDc.weaken (fun _ _ _ _ => trivial)⟩⟩ rfl rfl hl.1 rfl (lv_room (Nat.le_of_ble_eq_true rfl)) dX11_feed_10 ⟨Nat.le_of_ble_eq_true rfl, Nat.le_of_ble_eq_true rfl⟩) hS (fun q _ h => hFc q h) hFc (fun r_8 u t H1 locs ht hvm hw hB hz1 hk1 hS => ?_)
  obtain ⟨hP1, hK1, hD1⟩ := hB
  rw [ht] at hP1
  have hP := bv_still hP hk1
  generalize H1 = H at hP hS ⊢
  as_aux_lemma =>
  rcases hw with ⟨h_9, h_10⟩
  have h_10 : r_8 = _ := h_10
  replace hEX := hEX.trans (exc1_eq h_10)
  refine lv_iadd hx hb dX11_feed_13 ?_
  refine lv_topi (fun x_11 ex_11 => ?_)
  replace hEX := hEX.trans (exl_eq ex_11)
  refine lv_iload hx hb dX11_feed_14 (lv_at hl 4 rfl) ?_
  obtain ⟨hPc, hDc, hFc, hqc⟩ := cl_cut (wc := []) hP hD hS hA [] (by decide +kernel) rfl
  have hKc := hK.sub (tys' := []) [] rfl
  refine va_calli (va_runS (As := [.int p4]) (rest := [.int x_11]) ⟨hx, hb, hml, hown, hts⟩ (c_X9_bytesIn l dC dI H.size p4) (va_cwS 1 hts gf_c_X11_feed_c_X9_bytesIn rfl rfl rfl md_X9_bytesIn ⟨Nat.le_of_ble_eq_true rfl, Nat.le_of_ble_eq_true rfl⟩) ⟨fun a U g mk q => by obtain ⟨q0, q1, qP, qK, qD⟩ := q; exact ⟨q0, q1, qP, va_K.moved (u := U) (U := U.calling g mk a) (Vm.Alike.refl U.vm) qK, qD⟩, fun U hU hW => ⟨rfl, by rw [hU], by rw [hU]; exact hPc, va_K.moved hW.alike hKc, hDc.weaken (fun _ _ _ _ => trivial)⟩⟩ rfl rfl hl.1 rfl (lv_room (Nat.le_of_ble_eq_true rfl)) dX11_feed_16 ⟨Nat.le_of_ble_eq_true rfl, Nat.le_of_ble_eq_true rfl⟩) hS (fun q _ h => hFc q h) hFc (fun r_12 u t H1 locs ht hvm hw hB hz1 hk1 hS => ?_)
  obtain ⟨hP1, hK1, hD1⟩ := hB
  rw [ht] at hP1
  have hP := bv_still hP hk1
  generalize H1 = H at hP hS ⊢
  as_aux_lemma =>
  rcases hw with ⟨h_13, h_14⟩
  have h_14 : r_12 = _ := h_14
  replace hEX := hEX.trans (exc1_eq h_14)
  refine lv_iadd hx hb dX11_feed_19 ?_
  refine lv_topi (fun x_15 ex_15 => ?_)
  replace hEX := hEX.trans (exl_eq ex_15)
  refine lv_iload hx hb dX11_feed_20 (lv_at hl 5 rfl) ?_
  obtain ⟨hPc, hDc, hFc, hqc⟩ := cl_cut (wc := []) hP hD hS hA [] (by decide +kernel) rfl
  have hKc := hK.sub (tys' := []) [] rfl
  refine va_calli (va_runS (As := [.int p5]) (rest := [.int x_15]) ⟨hx, hb, hml, hown, hts⟩ (c_X9_bytesIn l dC dI H.size p5) (va_cwS 1 hts gf_c_X11_feed_c_X9_bytesIn rfl rfl rfl md_X9_bytesIn ⟨Nat.le_of_ble_eq_true rfl, Nat.le_of_ble_eq_true rfl⟩) ⟨fun a U g mk q => by obtain ⟨q0, q1, qP, qK, qD⟩ := q; exact ⟨q0, q1, qP, va_K.moved (u := U) (U := U.calling g mk a) (Vm.Alike.refl U.vm) qK, qD⟩, fun U hU hW => ⟨rfl, by rw [hU], by rw [hU]; exact hPc, va_K.moved hW.alike hKc, hDc.weaken (fun _ _ _ _ => trivial)⟩⟩ rfl rfl hl.1 rfl (lv_room (Nat.le_of_ble_eq_true rfl)) dX11_feed_22 ⟨Nat.le_of_ble_eq_true rfl, Nat.le_of_ble_eq_true rfl⟩) hS (fun q _ h => hFc q h) hFc (fun r_16 u t H1 locs ht hvm hw hB hz1 hk1 hS => ?_)
  obtain ⟨hP1, hK1, hD1⟩ := hB
  rw [ht] at hP1
  have hP := bv_still hP hk1
  generalize H1 = H at hP hS ⊢
  as_aux_lemma =>
  rcases hw with ⟨h_17, h_18⟩
  have h_18 : r_16 = _ := h_18
  replace hEX := hEX.trans (exc1_eq h_18)
  refine lv_iadd hx hb dX11_feed_25 ?_
  refine lv_topi (fun x_19 ex_19 => ?_)
  replace hEX := hEX.trans (exl_eq ex_19)
  refine lv_istore (lv' := [(6, .int x_19), (0, .ref h0), (1, .int p1), (2, .int p2), (3, .int p3), (4, .int p4), (5, .int p5)]) hx hb dX11_feed_26 hl (Nat.le_of_ble_eq_true rfl) rfl (fun ls hl => ?_)
  refine lv_aload_n hx hb dX11_feed_28 rfl (lv_at hl 1 rfl) ?_
  refine va_get (D := (dC, dI)) (ci := 11) (v := .ref h0_0) (C := RX11) (T := TX11) (N := 16) hx hb hts iw_c_X11_feed_X11 hown hK hP 0 rfl rfl 0 (by decide +kernel) (hts (.fieldLink RX11 10 "BuoyVote" "tape" "LBuoyVote$Tape;") (List.mem_of_getElem? (i := 5) rfl)) (fun _ h9 => h9) rfl dX11_feed_29 ?_
  refine va_get (D := (dC, dI)) (ci := 9) (v := .int h0_0_f1) (C := RX9) (T := TX9) (N := 4) hx hb hts iw_c_X11_feed_X9 hown hK hP 1 rfl rfl 1 (by decide +kernel) (hts (.fieldLink RX11 103 "BuoyVote$Tape" "length" "I") (List.mem_of_getElem? (i := 6) rfl)) (fun _ h9 => h9) rfl dX11_feed_32 ?_
  refine lv_iload hx hb dX11_feed_35 (lv_at hl 0 rfl) ?_
  refine lv_iadd hx hb dX11_feed_37 ?_
  refine lv_topi (fun x_20 ex_20 => ?_)
  replace hEX := hEX.trans (exl_eq ex_20)
  refine lv_sipush (v := 240) hx hb dX11_feed_38 kc_sipush_240 ?_
  as_aux_lemma =>
  refine lv_icmp_le (tgt := 46) hx hb dX11_feed_41 rfl (fun c_21 => ?_) (fun c_21 => ?_)
  · replace hEX := hEX.trans (if_pos c_21)
    have g_22 : RG x_20 (-2147483648) 240 := RG_le1 (RG_any x_20) (RG_k 240 240 rfl) c_21 (by decide +kernel)
    refine lv_aload_n hx hb dX11_feed_46 rfl (lv_at hl 1 rfl) ?_
    refine va_get (D := (dC, dI)) (ci := 11) (v := .ref h0_0) (C := RX11) (T := TX11) (N := 16) hx hb hts iw_c_X11_feed_X11 hown hK hP 0 rfl rfl 0 (by decide +kernel) (hts (.fieldLink RX11 10 "BuoyVote" "tape" "LBuoyVote$Tape;") (List.mem_of_getElem? (i := 5) rfl)) (fun _ h9 => h9) rfl dX11_feed_47 ?_
    refine lv_iload_n hx hb dX11_feed_50 rfl (lv_at hl 2 rfl) ?_
    obtain ⟨hPc, hDc, hFc, hqc⟩ := cl_cut (wc := (wd_c_X9_append h0_0 h0_0_0 h0_0_f1 h0_0_f2 h0_0_f3 h0_0_0 h0_0_0k h0_0_0c)) hP hD hS hA [1, 2] (by decide +kernel) rfl
    have hKc := hK.sub (tys' := [(h0_0_0k, .int)]) [0] rfl
    have hrv := va_recv hKc hPc (ci := 9) (q0 := 0) rfl rfl
    refine va_callv (va_runV (As := [.int p1]) (rest := []) ⟨hx, hb, hml, hown, hts⟩ (c_X9_append l dC dI H.size h0_0 p1 h0_0_0 h0_0_f1 h0_0_f2 h0_0_f3 h0_0_0k h0_0_0c g_h0_0_f1 g_h0_0_f2 g_h0_0_f3 a_h0_0_0c) (cwV 1 hts gf_c_X11_feed_c_X9_append rfl rfl rfl mdV_X9_append ⟨Nat.le_of_ble_eq_true rfl, Nat.le_of_ble_eq_true rfl⟩) ⟨fun a U g mk q => by obtain ⟨q0, q1, qP, qK, qD⟩ := q; exact ⟨q0, q1, qP, va_K.moved (u := U) (U := U.calling g mk a) (Vm.Alike.refl U.vm) qK, qD⟩, hrv, fun U hU hW => ⟨rfl, by rw [hU], by rw [hU]; exact hPc, va_K.moved hW.alike hKc, hDc.weaken (fun _ _ _ _ => trivial)⟩⟩ rfl rfl hl.1 rfl (lv_room (Nat.le_of_ble_eq_true rfl)) dX11_feed_51 ⟨Nat.le_of_ble_eq_true rfl, Nat.le_of_ble_eq_true rfl⟩) hS (fun q _ h => hFc q h) hFc (fun u t H1 locs ht hvm hw hB hz1 hk1 hS => ?_)
    obtain ⟨x_24, w_25⟩ := u
    obtain ⟨hP1, hK1, hD1⟩ := hB
    rw [ht] at hP1
    obtain ⟨hP, hD⟩ := cl_put (w1 := (wd_c_X9_append h0_0 h0_0_0 x_24 h0_0_f2 h0_0_f3 h0_0_0 h0_0_0k w_25)) (nw := (wd_c_X11_feed h0 h0_0 h0_1 h0_2 h0_3 h0_4 h0_f5 h0_6 h0_7 h0_8 h0_9 h0_10 h0_11 h0_12 h0_13 h0_14 h0_f15 h0_0 h0_0_0 x_24 h0_0_f2 h0_0_f3 h0_0_0 h0_0_0k w_25)) hP hD [1, 2] [0, 3, 4] 3 rfl hqc (by decide +kernel) rfl hk1 hFc hP1 hD1
    generalize H1 = H at hP hS ⊢
    as_aux_lemma =>
    rcases hw with ⟨h_26, h_27, h_28⟩
    have h_28 : (x_24, w_25) = _ := h_28
    replace hEX := hEX.trans (exc2_eq h_28)
    refine lv_aload_n hx hb dX11_feed_54 rfl (lv_at hl 1 rfl) ?_
    refine va_get (D := (dC, dI)) (ci := 11) (v := .ref h0_0) (C := RX11) (T := TX11) (N := 16) hx hb hts iw_c_X11_feed_X11 hown hK hP 0 rfl rfl 0 (by decide +kernel) (hts (.fieldLink RX11 10 "BuoyVote" "tape" "LBuoyVote$Tape;") (List.mem_of_getElem? (i := 5) rfl)) (fun _ h9 => h9) rfl dX11_feed_55 ?_
    refine lv_iload_n hx hb dX11_feed_58 rfl (lv_at hl 3 rfl) ?_
    obtain ⟨hPc, hDc, hFc, hqc⟩ := cl_cut (wc := (wd_c_X9_append h0_0 h0_0_0 x_24 h0_0_f2 h0_0_f3 h0_0_0 h0_0_0k w_25)) hP hD hS hA [1, 2] (by decide +kernel) rfl
    have hKc := hK.sub (tys' := [(h0_0_0k, .int)]) [0] rfl
    have hrv := va_recv hKc hPc (ci := 9) (q0 := 0) rfl rfl
    refine va_callv (va_runV (As := [.int p2]) (rest := []) ⟨hx, hb, hml, hown, hts⟩ (c_X9_append l dC dI H.size h0_0 p2 h0_0_0 x_24 h0_0_f2 h0_0_f3 h0_0_0k w_25 h_26 g_h0_0_f2 g_h0_0_f3 h_27) (cwV 1 hts gf_c_X11_feed_c_X9_append rfl rfl rfl mdV_X9_append ⟨Nat.le_of_ble_eq_true rfl, Nat.le_of_ble_eq_true rfl⟩) ⟨fun a U g mk q => by obtain ⟨q0, q1, qP, qK, qD⟩ := q; exact ⟨q0, q1, qP, va_K.moved (u := U) (U := U.calling g mk a) (Vm.Alike.refl U.vm) qK, qD⟩, hrv, fun U hU hW => ⟨rfl, by rw [hU], by rw [hU]; exact hPc, va_K.moved hW.alike hKc, hDc.weaken (fun _ _ _ _ => trivial)⟩⟩ rfl rfl hl.1 rfl (lv_room (Nat.le_of_ble_eq_true rfl)) dX11_feed_59 ⟨Nat.le_of_ble_eq_true rfl, Nat.le_of_ble_eq_true rfl⟩) hS (fun q _ h => hFc q h) hFc (fun u t H1 locs ht hvm hw hB hz1 hk1 hS => ?_)
    obtain ⟨x_30, w_31⟩ := u
    obtain ⟨hP1, hK1, hD1⟩ := hB
    rw [ht] at hP1
    obtain ⟨hP, hD⟩ := cl_put (w1 := (wd_c_X9_append h0_0 h0_0_0 x_30 h0_0_f2 h0_0_f3 h0_0_0 h0_0_0k w_31)) (nw := (wd_c_X11_feed h0 h0_0 h0_1 h0_2 h0_3 h0_4 h0_f5 h0_6 h0_7 h0_8 h0_9 h0_10 h0_11 h0_12 h0_13 h0_14 h0_f15 h0_0 h0_0_0 x_30 h0_0_f2 h0_0_f3 h0_0_0 h0_0_0k w_31)) hP hD [1, 2] [0, 3, 4] 3 rfl hqc (by decide +kernel) rfl hk1 hFc hP1 hD1
    generalize H1 = H at hP hS ⊢
    as_aux_lemma =>
    rcases hw with ⟨h_32, h_33, h_34⟩
    have h_34 : (x_30, w_31) = _ := h_34
    replace hEX := hEX.trans (exc2_eq h_34)
    refine lv_aload_n hx hb dX11_feed_62 rfl (lv_at hl 1 rfl) ?_
    refine va_get (D := (dC, dI)) (ci := 11) (v := .ref h0_0) (C := RX11) (T := TX11) (N := 16) hx hb hts iw_c_X11_feed_X11 hown hK hP 0 rfl rfl 0 (by decide +kernel) (hts (.fieldLink RX11 10 "BuoyVote" "tape" "LBuoyVote$Tape;") (List.mem_of_getElem? (i := 5) rfl)) (fun _ h9 => h9) rfl dX11_feed_63 ?_
    refine lv_iload_n hx hb dX11_feed_66 rfl (lv_at hl 4 rfl) ?_
    obtain ⟨hPc, hDc, hFc, hqc⟩ := cl_cut (wc := (wd_c_X9_append h0_0 h0_0_0 x_30 h0_0_f2 h0_0_f3 h0_0_0 h0_0_0k w_31)) hP hD hS hA [1, 2] (by decide +kernel) rfl
    have hKc := hK.sub (tys' := [(h0_0_0k, .int)]) [0] rfl
    have hrv := va_recv hKc hPc (ci := 9) (q0 := 0) rfl rfl
    refine va_callv (va_runV (As := [.int p3]) (rest := []) ⟨hx, hb, hml, hown, hts⟩ (c_X9_append l dC dI H.size h0_0 p3 h0_0_0 x_30 h0_0_f2 h0_0_f3 h0_0_0k w_31 h_32 g_h0_0_f2 g_h0_0_f3 h_33) (cwV 1 hts gf_c_X11_feed_c_X9_append rfl rfl rfl mdV_X9_append ⟨Nat.le_of_ble_eq_true rfl, Nat.le_of_ble_eq_true rfl⟩) ⟨fun a U g mk q => by obtain ⟨q0, q1, qP, qK, qD⟩ := q; exact ⟨q0, q1, qP, va_K.moved (u := U) (U := U.calling g mk a) (Vm.Alike.refl U.vm) qK, qD⟩, hrv, fun U hU hW => ⟨rfl, by rw [hU], by rw [hU]; exact hPc, va_K.moved hW.alike hKc, hDc.weaken (fun _ _ _ _ => trivial)⟩⟩ rfl rfl hl.1 rfl (lv_room (Nat.le_of_ble_eq_true rfl)) dX11_feed_67 ⟨Nat.le_of_ble_eq_true rfl, Nat.le_of_ble_eq_true rfl⟩) hS (fun q _ h => hFc q h) hFc (fun u t H1 locs ht hvm hw hB hz1 hk1 hS => ?_)
    obtain ⟨x_36, w_37⟩ := u
    obtain ⟨hP1, hK1, hD1⟩ := hB
    rw [ht] at hP1
    obtain ⟨hP, hD⟩ := cl_put (w1 := (wd_c_X9_append h0_0 h0_0_0 x_36 h0_0_f2 h0_0_f3 h0_0_0 h0_0_0k w_37)) (nw := (wd_c_X11_feed h0 h0_0 h0_1 h0_2 h0_3 h0_4 h0_f5 h0_6 h0_7 h0_8 h0_9 h0_10 h0_11 h0_12 h0_13 h0_14 h0_f15 h0_0 h0_0_0 x_36 h0_0_f2 h0_0_f3 h0_0_0 h0_0_0k w_37)) hP hD [1, 2] [0, 3, 4] 3 rfl hqc (by decide +kernel) rfl hk1 hFc hP1 hD1
    generalize H1 = H at hP hS ⊢
    as_aux_lemma =>
    rcases hw with ⟨h_38, h_39, h_40⟩
    have h_40 : (x_36, w_37) = _ := h_40
    replace hEX := hEX.trans (exc2_eq h_40)
    refine lv_aload_n hx hb dX11_feed_70 rfl (lv_at hl 1 rfl) ?_
    refine va_get (D := (dC, dI)) (ci := 11) (v := .ref h0_0) (C := RX11) (T := TX11) (N := 16) hx hb hts iw_c_X11_feed_X11 hown hK hP 0 rfl rfl 0 (by decide +kernel) (hts (.fieldLink RX11 10 "BuoyVote" "tape" "LBuoyVote$Tape;") (List.mem_of_getElem? (i := 5) rfl)) (fun _ h9 => h9) rfl dX11_feed_71 ?_
    refine lv_iload hx hb dX11_feed_74 (lv_at hl 5 rfl) ?_
    obtain ⟨hPc, hDc, hFc, hqc⟩ := cl_cut (wc := (wd_c_X9_append h0_0 h0_0_0 x_36 h0_0_f2 h0_0_f3 h0_0_0 h0_0_0k w_37)) hP hD hS hA [1, 2] (by decide +kernel) rfl
    have hKc := hK.sub (tys' := [(h0_0_0k, .int)]) [0] rfl
    have hrv := va_recv hKc hPc (ci := 9) (q0 := 0) rfl rfl
    refine va_callv (va_runV (As := [.int p4]) (rest := []) ⟨hx, hb, hml, hown, hts⟩ (c_X9_append l dC dI H.size h0_0 p4 h0_0_0 x_36 h0_0_f2 h0_0_f3 h0_0_0k w_37 h_38 g_h0_0_f2 g_h0_0_f3 h_39) (cwV 1 hts gf_c_X11_feed_c_X9_append rfl rfl rfl mdV_X9_append ⟨Nat.le_of_ble_eq_true rfl, Nat.le_of_ble_eq_true rfl⟩) ⟨fun a U g mk q => by obtain ⟨q0, q1, qP, qK, qD⟩ := q; exact ⟨q0, q1, qP, va_K.moved (u := U) (U := U.calling g mk a) (Vm.Alike.refl U.vm) qK, qD⟩, hrv, fun U hU hW => ⟨rfl, by rw [hU], by rw [hU]; exact hPc, va_K.moved hW.alike hKc, hDc.weaken (fun _ _ _ _ => trivial)⟩⟩ rfl rfl hl.1 rfl (lv_room (Nat.le_of_ble_eq_true rfl)) dX11_feed_76 ⟨Nat.le_of_ble_eq_true rfl, Nat.le_of_ble_eq_true rfl⟩) hS (fun q _ h => hFc q h) hFc (fun u t H1 locs ht hvm hw hB hz1 hk1 hS => ?_)
    obtain ⟨x_42, w_43⟩ := u
    obtain ⟨hP1, hK1, hD1⟩ := hB
    rw [ht] at hP1
    obtain ⟨hP, hD⟩ := cl_put (w1 := (wd_c_X9_append h0_0 h0_0_0 x_42 h0_0_f2 h0_0_f3 h0_0_0 h0_0_0k w_43)) (nw := (wd_c_X11_feed h0 h0_0 h0_1 h0_2 h0_3 h0_4 h0_f5 h0_6 h0_7 h0_8 h0_9 h0_10 h0_11 h0_12 h0_13 h0_14 h0_f15 h0_0 h0_0_0 x_42 h0_0_f2 h0_0_f3 h0_0_0 h0_0_0k w_43)) hP hD [1, 2] [0, 3, 4] 3 rfl hqc (by decide +kernel) rfl hk1 hFc hP1 hD1
    generalize H1 = H at hP hS ⊢
    as_aux_lemma =>
    rcases hw with ⟨h_44, h_45, h_46⟩
    have h_46 : (x_42, w_43) = _ := h_46
    replace hEX := hEX.trans (exc2_eq h_46)
    refine lv_aload_n hx hb dX11_feed_79 rfl (lv_at hl 1 rfl) ?_
    refine va_get (D := (dC, dI)) (ci := 11) (v := .ref h0_0) (C := RX11) (T := TX11) (N := 16) hx hb hts iw_c_X11_feed_X11 hown hK hP 0 rfl rfl 0 (by decide +kernel) (hts (.fieldLink RX11 10 "BuoyVote" "tape" "LBuoyVote$Tape;") (List.mem_of_getElem? (i := 5) rfl)) (fun _ h9 => h9) rfl dX11_feed_80 ?_
    refine lv_iload hx hb dX11_feed_83 (lv_at hl 6 rfl) ?_
    obtain ⟨hPc, hDc, hFc, hqc⟩ := cl_cut (wc := (wd_c_X9_append h0_0 h0_0_0 x_42 h0_0_f2 h0_0_f3 h0_0_0 h0_0_0k w_43)) hP hD hS hA [1, 2] (by decide +kernel) rfl
    have hKc := hK.sub (tys' := [(h0_0_0k, .int)]) [0] rfl
    have hrv := va_recv hKc hPc (ci := 9) (q0 := 0) rfl rfl
    refine va_callv (va_runV (As := [.int p5]) (rest := []) ⟨hx, hb, hml, hown, hts⟩ (c_X9_append l dC dI H.size h0_0 p5 h0_0_0 x_42 h0_0_f2 h0_0_f3 h0_0_0k w_43 h_44 g_h0_0_f2 g_h0_0_f3 h_45) (cwV 1 hts gf_c_X11_feed_c_X9_append rfl rfl rfl mdV_X9_append ⟨Nat.le_of_ble_eq_true rfl, Nat.le_of_ble_eq_true rfl⟩) ⟨fun a U g mk q => by obtain ⟨q0, q1, qP, qK, qD⟩ := q; exact ⟨q0, q1, qP, va_K.moved (u := U) (U := U.calling g mk a) (Vm.Alike.refl U.vm) qK, qD⟩, hrv, fun U hU hW => ⟨rfl, by rw [hU], by rw [hU]; exact hPc, va_K.moved hW.alike hKc, hDc.weaken (fun _ _ _ _ => trivial)⟩⟩ rfl rfl hl.1 rfl (lv_room (Nat.le_of_ble_eq_true rfl)) dX11_feed_85 ⟨Nat.le_of_ble_eq_true rfl, Nat.le_of_ble_eq_true rfl⟩) hS (fun q _ h => hFc q h) hFc (fun u t H1 locs ht hvm hw hB hz1 hk1 hS => ?_)
    obtain ⟨x_48, w_49⟩ := u
    obtain ⟨hP1, hK1, hD1⟩ := hB
    rw [ht] at hP1
    obtain ⟨hP, hD⟩ := cl_put (w1 := (wd_c_X9_append h0_0 h0_0_0 x_48 h0_0_f2 h0_0_f3 h0_0_0 h0_0_0k w_49)) (nw := (wd_c_X11_feed h0 h0_0 h0_1 h0_2 h0_3 h0_4 h0_f5 h0_6 h0_7 h0_8 h0_9 h0_10 h0_11 h0_12 h0_13 h0_14 h0_f15 h0_0 h0_0_0 x_48 h0_0_f2 h0_0_f3 h0_0_0 h0_0_0k w_49)) hP hD [1, 2] [0, 3, 4] 3 rfl hqc (by decide +kernel) rfl hk1 hFc hP1 hD1
    generalize H1 = H at hP hS ⊢
    as_aux_lemma =>
    rcases hw with ⟨h_50, h_51, h_52⟩
    have h_52 : (x_48, w_49) = _ := h_52
    replace hEX := hEX.trans (exc2_eq h_52)
    refine lv_aload_n hx hb dX11_feed_88 rfl (lv_at hl 1 rfl) ?_
    refine va_get (D := (dC, dI)) (ci := 11) (v := .ref h0_0) (C := RX11) (T := TX11) (N := 16) hx hb hts iw_c_X11_feed_X11 hown hK hP 0 rfl rfl 0 (by decide +kernel) (hts (.fieldLink RX11 10 "BuoyVote" "tape" "LBuoyVote$Tape;") (List.mem_of_getElem? (i := 5) rfl)) (fun _ h9 => h9) rfl dX11_feed_89 ?_
    refine va_get (D := (dC, dI)) (ci := 9) (v := .int x_48) (C := RX9) (T := TX9) (N := 4) hx hb hts iw_c_X11_feed_X9 hown hK hP 1 rfl rfl 1 (by decide +kernel) (hts (.fieldLink RX11 103 "BuoyVote$Tape" "length" "I") (List.mem_of_getElem? (i := 6) rfl)) (fun _ h9 => h9) rfl dX11_feed_92 ?_
    have hK9 := hK.sub (tys' := []) [] rfl
    exact W.iret (v := x_48) hx hb hr (fun t ht hW => ⟨⟨x_48, (x_48, w_49), rfl, (Or.inr ⟨h_50, h_50, h_51, (hR.trans hEX).symm⟩), by rw [ht]; exact hP, va_K.moved hW.alike hK9, hD⟩, hS.F ht⟩) hS.2.2 dX11_feed_95
  · replace hEX := hEX.trans (if_neg c_21)
    have d_53 := Int32.not_le.mp c_21
    have g_54 : RG x_20 241 2147483647 := RG_lt2 (RG_k 240 240 rfl) (RG_any x_20) d_53 (by decide +kernel)
    refine lv_iconst (v := (-1)) hx hb dX11_feed_44 kc_iconst_m1 ?_
    have hK9 := hK.sub (tys' := []) [] rfl
    exact W.iret (v := (-1)) hx hb hr (fun t ht hW => ⟨⟨(-1), (h0_0_f1, h0_0_0c), rfl, (Or.inl ⟨rfl, g_h0_0_f1, a_h0_0_0c, (hR.trans hEX).symm⟩), by rw [ht]; exact hP, va_K.moved hW.alike hK9, hD⟩, hS.F ht⟩) hS.2.2 dX11_feed_45
noncomputable def wf_c_X11_isWithin : List Cond := .code yX11_isWithin cX11_isWithin 3 (some .boolean) :: ([])
set_option maxHeartbeats 4000000 in
set_option maxRecDepth 100000 in
theorem c_X11_isWithin (l : Launch) (dC : Nat → ClassId) (dI : Nat → Nat → Nat) (sz : Nat) (p0 : Int32) (p2 : Int32) (g_p2 : RG p2 0 240) : Met l yX11_isWithin wf_c_X11_isWithin ({ frames := 0, cells := 0, slots := 0, locals := 0 }) (va_Pc [.int p0, .int 0, .int p2] (fun U => U.heap.size = sz ∧ va_P (dC, dI) vwCl [] U.heap ∧ va_K (dC, dI) vwCl [] U ∧ va_D (fun _ => True) [])) (va_Qi (fun (r : Int32) (u : Unit) => (r = 0 ∧ RG p0 (-2147483648) 2147483647 ∧ r = fx_c_X11_isWithin p0 p2) ∨ (r = 1 ∧ RG p0 0 240 ∧ p0.toInt ≤ p2.toInt + 0 ∧ r = fx_c_X11_isWithin p0 p2)) (fun (u : Unit) t => va_P (dC, dI) vwCl [] t.heap ∧ va_K (dC, dI) vwCl [] t ∧ va_D (va_A [] sz) []) (va_A [] sz)) 0 0 (va_A [] sz) := by
  refine Met.ofW (cc := cX11_isWithin) (maxL := 3) (ret := (some .boolean)) (by decide +kernel) rfl ?_
  intro p e s m args below meth c s₁ B hml hv
  obtain ⟨rfl, hsz, hP, hK, hD0⟩ := hv
  have hx := B.exec
  have hb := B.bytes
  have hr := B.returns
  have hts := atoms_spec (ws := wf_c_X11_isWithin) B.pre
  have hown : s.vm.findClass RX11 = some m.cls := findClass_of_methodNamed B.named
  have hlocks := B.notSynchronized
  subst hsz
  have hD := hD0.self (sz := s.heap.size)
  generalize hAe : va_A [] s.heap.size = A at hD ⊢
  have hA : ∀ q : Nat, s.heap.size ≤ q → A q := fun q h => by rw [← hAe]; exact Or.inr h
  have hP : va_P (dC, dI) vwCl [] s.heap := hP
  have hl := lv_entry ([.int p0, .int 0, .int p2]) (n := 3) (Nat.le_of_ble_eq_true rfl)
  rw [lg_entry_eq]
  generalize (lg_sl ([.int p0, .int 0, .int p2]) ++ List.replicate (3 - (lg_sl ([.int p0, .int 0, .int p2])).length) Slot.unset).toArray = ls at hl ⊢
  have hl : lv_has ls 3 [(0, .int p0), (1, .int 0), (2, .int p2)] := hl
  obtain ⟨H, hHe⟩ : ∃ H : Heap, s.heap = H := ⟨_, rfl⟩
  have hS : va_S A s.heap H [] := by rw [hHe]; exact va_S.rf
  have hP : va_P (dC, dI) vwCl [] H := by rw [← hHe]; exact hP
  rw [hHe]
  obtain ⟨RES, hR⟩ : ∃ z, fx_c_X11_isWithin p0 p2 = z := ⟨_, rfl⟩
  have hEX : RES = fx_c_X11_isWithin p0 p2 := hR.symm
  refine lv_iload_n hx hb dX11_isWithin_0 rfl (lv_at hl 0 rfl) ?_
  as_aux_lemma =>
  refine lv_iload_n hx hb dX11_isWithin_1 rfl (lv_at hl 1 rfl) ?_
  refine lv_icmp_lt (tgt := 14) hx hb dX11_isWithin_2 rfl (fun c_1 => ?_) (fun c_1 => ?_)
  · replace hEX := hEX.trans (if_pos c_1)
    have g_2 : RG p0 (-2147483648) (-1) := RG_lt1 (RG_any p0) (RG_k 0 0 rfl) c_1 (by decide +kernel)
    refine lv_iconst (v := 0) hx hb dX11_isWithin_14 kc_iconst_0 ?_
    have hK9 := hK.sub (tys' := []) [] rfl
    exact W.zret (v := 0) hx hb hr rfl (fun t ht hW => ⟨⟨0, (), rfl, (Or.inl ⟨rfl, (RG_w g_2 (by decide +kernel)), (hR.trans hEX).symm⟩), by rw [ht]; exact hP, va_K.moved hW.alike hK9, hD⟩, hS.F ht⟩) hS.2.2 dX11_isWithin_15
  · replace hEX := hEX.trans (if_neg c_1)
    have d_3 := Int32.not_lt.mp c_1
    have g_4 : RG p0 0 2147483647 := RG_le2 (RG_k 0 0 rfl) (RG_any p0) d_3 (by decide +kernel)
    refine lv_iload_n hx hb dX11_isWithin_5 rfl (lv_at hl 0 rfl) ?_
    refine lv_iload_n hx hb dX11_isWithin_6 rfl (lv_at hl 2 rfl) ?_
    refine lv_icmp_gt (tgt := 14) hx hb dX11_isWithin_7 rfl (fun c_5 => ?_) (fun c_5 => ?_)
    · replace hEX := hEX.trans (if_pos c_5)
      have b_6 : p2.toInt ≤ p0.toInt + (-1) := by have := Int32.lt_iff_toInt_lt.mp c_5; omega
      have g_7 : RG p0 1 2147483647 := RG_lt2 g_p2 g_4 c_5 (by decide +kernel)
      refine lv_iconst (v := 0) hx hb dX11_isWithin_14 kc_iconst_0 ?_
      as_aux_lemma =>
      have hK9 := hK.sub (tys' := []) [] rfl
      exact W.zret (v := 0) hx hb hr rfl (fun t ht hW => ⟨⟨0, (), rfl, (Or.inl ⟨rfl, (RG_w g_7 (by decide +kernel)), (hR.trans hEX).symm⟩), by rw [ht]; exact hP, va_K.moved hW.alike hK9, hD⟩, hS.F ht⟩) hS.2.2 dX11_isWithin_15
    · replace hEX := hEX.trans (if_neg c_5)
      have d_8 := Int32.not_lt.mp c_5
      have b_9 : p0.toInt ≤ p2.toInt + 0 := by have := Int32.le_iff_toInt_le.mp d_8; omega
      have g_10 : RG p0 0 240 := RG_le1 g_4 g_p2 d_8 (by decide +kernel)
      refine lv_iconst (v := 1) hx hb dX11_isWithin_10 kc_iconst_1 ?_
      refine lv_goto (tgt := 15) hx hb dX11_isWithin_11 rfl ?_
      have hK9 := hK.sub (tys' := []) [] rfl
      exact W.zret (v := 1) hx hb hr rfl (fun t ht hW => ⟨⟨1, (), rfl, (Or.inr ⟨rfl, g_10, (by have := b_9; have := (g_10).2; have := (g_p2).1; show p0.toInt ≤ p2.toInt + 0; omega), (hR.trans hEX).symm⟩), by rw [ht]; exact hP, va_K.moved hW.alike hK9, hD⟩, hS.F ht⟩) hS.2.2 dX11_isWithin_15
noncomputable def wd_c_X11_end (a0 : Nat) (a1 : Nat) (a2 : Nat) (a3 : Nat) (a4 : Nat) (a5 : Nat) (a6 : Int32) (a7 : Nat) (a8 : Nat) (a9 : Nat) (a10 : Nat) (a11 : Nat) (a12 : Nat) (a13 : Nat) (a14 : Nat) (a15 : Nat) (a16 : Int64) (a17 : Nat) (a18 : Nat) (a19 : Int32) (a20 : Int32) (a21 : Int32) : va_W := [(a0, .inr (11, [.ref a1, .ref a2, .ref a3, .ref a4, .ref a5, .int a6, .ref a7, .ref a8, .ref a9, .ref a10, .ref a11, .ref a12, .ref a13, .ref a14, .ref a15, .long a16])), (a17, .inr (9, [.ref a18, .int a19, .int a20, .int a21]))]
noncomputable def wf_c_X11_end : List Cond := List.cons (.code yX11_end cX11_end 2 (some .boolean)) (@HAppend.hAppend (List Cond) (List Cond) (List Cond) _ (@HAppend.hAppend (List Cond) (List Cond) (List Cond) _ [.fieldLink RX11 10 "BuoyVote" "tape" "LBuoyVote$Tape;", .fieldLink RX11 103 "BuoyVote$Tape" "length" "I", .methodLink RX11 111 yX11_isWithin, .static yX11_isWithin, .initialized RX11, .code yX11_isWithin cX11_isWithin 3 (some .boolean)] wsX110) wsX90)
theorem iw_c_X11_end_X11 : ∀ w ∈ wsX110, w ∈ wf_c_X11_end := fun w h => List.mem_cons_of_mem _ (List.mem_append_left _ (List.mem_append_right _ h))
theorem iw_c_X11_end_X9 : ∀ w ∈ wsX90, w ∈ wf_c_X11_end := fun w h => List.mem_cons_of_mem _ (List.mem_append_right _ h)
set_option maxRecDepth 20000 in
theorem gf_c_X11_end_c_X11_isWithin : GoodIn wf_c_X11_end (va_wsS RX11 111 yX11_isWithin wf_c_X11_isWithin) := goodIn_app (gi_l [3, 4, 5] rfl rfl) (gi_cons (j := 6) rfl rfl gi_nil)
set_option maxHeartbeats 4000000 in
set_option maxRecDepth 100000 in
theorem c_X11_end (l : Launch) (dC : Nat → ClassId) (dI : Nat → Nat → Nat) (sz : Nat) (h0 : Nat) (p1 : Int32) (h0_0 : Nat) (h0_1 : Nat) (h0_2 : Nat) (h0_3 : Nat) (h0_4 : Nat) (h0_f5 : Int32) (h0_6 : Nat) (h0_7 : Nat) (h0_8 : Nat) (h0_9 : Nat) (h0_10 : Nat) (h0_11 : Nat) (h0_12 : Nat) (h0_13 : Nat) (h0_14 : Nat) (h0_f15 : Int64) (h0_0_0 : Nat) (h0_0_f1 : Int32) (h0_0_f2 : Int32) (h0_0_f3 : Int32) (g_h0_f5 : RG h0_f5 0 4) (g_h0_0_f1 : RG h0_0_f1 0 240) (g_h0_0_f2 : RG h0_0_f2 0 240) (g_h0_0_f3 : RG h0_0_f3 (-1) 240) : Met l yX11_end wf_c_X11_end ({ frames := 1, cells := 0, slots := 0, locals := 22 }) (va_Pc [.ref h0, .int p1] (fun U => U.heap.size = sz ∧ va_P (dC, dI) vwCl (wd_c_X11_end h0 h0_0 h0_1 h0_2 h0_3 h0_4 h0_f5 h0_6 h0_7 h0_8 h0_9 h0_10 h0_11 h0_12 h0_13 h0_14 h0_f15 h0_0 h0_0_0 h0_0_f1 h0_0_f2 h0_0_f3) U.heap ∧ va_K (dC, dI) vwCl [] U ∧ va_D (fun _ => True) (wd_c_X11_end h0 h0_0 h0_1 h0_2 h0_3 h0_4 h0_f5 h0_6 h0_7 h0_8 h0_9 h0_10 h0_11 h0_12 h0_13 h0_14 h0_f15 h0_0 h0_0_0 h0_0_f1 h0_0_f2 h0_0_f3))) (va_Qi (fun (r : Int32) (u : (Int32)) => (r = 0 ∧ RG u 0 240 ∧ (r, u) = fx_c_X11_end p1 h0_0_f1) ∨ (r = 1 ∧ RG u 0 240 ∧ RG p1 0 240 ∧ (r, u) = fx_c_X11_end p1 h0_0_f1)) (fun (u : (Int32)) t => va_P (dC, dI) vwCl (wd_c_X11_end h0 h0_0 h0_1 h0_2 h0_3 h0_4 h0_f5 h0_6 h0_7 h0_8 h0_9 h0_10 h0_11 h0_12 h0_13 h0_14 h0_f15 h0_0 h0_0_0 u h0_0_f2 h0_0_f3) t.heap ∧ va_K (dC, dI) vwCl [] t ∧ va_D (va_A (wd_c_X11_end h0 h0_0 h0_1 h0_2 h0_3 h0_4 h0_f5 h0_6 h0_7 h0_8 h0_9 h0_10 h0_11 h0_12 h0_13 h0_14 h0_f15 h0_0 h0_0_0 h0_0_f1 h0_0_f2 h0_0_f3) sz) (wd_c_X11_end h0 h0_0 h0_1 h0_2 h0_3 h0_4 h0_f5 h0_6 h0_7 h0_8 h0_9 h0_10 h0_11 h0_12 h0_13 h0_14 h0_f15 h0_0 h0_0_0 u h0_0_f2 h0_0_f3)) (va_A (wd_c_X11_end h0 h0_0 h0_1 h0_2 h0_3 h0_4 h0_f5 h0_6 h0_7 h0_8 h0_9 h0_10 h0_11 h0_12 h0_13 h0_14 h0_f15 h0_0 h0_0_0 h0_0_f1 h0_0_f2 h0_0_f3) sz)) 0 0 (va_A (wd_c_X11_end h0 h0_0 h0_1 h0_2 h0_3 h0_4 h0_f5 h0_6 h0_7 h0_8 h0_9 h0_10 h0_11 h0_12 h0_13 h0_14 h0_f15 h0_0 h0_0_0 h0_0_f1 h0_0_f2 h0_0_f3) sz) := by
  refine Met.ofW (cc := cX11_end) (maxL := 2) (ret := (some .boolean)) (by decide +kernel) rfl ?_
  intro p e s m args below meth c s₁ B hml hv
  obtain ⟨rfl, hsz, hP, hK, hD0⟩ := hv
  have hx := B.exec
  have hb := B.bytes
  have hr := B.returns
  have hts := atoms_spec (ws := wf_c_X11_end) B.pre
  have hown : s.vm.findClass RX11 = some m.cls := findClass_of_methodNamed B.named
  have hlocks := B.notSynchronized
  subst hsz
  have hD := hD0.self (sz := s.heap.size)
  generalize hAe : va_A (wd_c_X11_end h0 h0_0 h0_1 h0_2 h0_3 h0_4 h0_f5 h0_6 h0_7 h0_8 h0_9 h0_10 h0_11 h0_12 h0_13 h0_14 h0_f15 h0_0 h0_0_0 h0_0_f1 h0_0_f2 h0_0_f3) s.heap.size = A at hD ⊢
  have hA : ∀ q : Nat, s.heap.size ≤ q → A q := fun q h => by rw [← hAe]; exact Or.inr h
  have hP : va_P (dC, dI) vwCl (wd_c_X11_end h0 h0_0 h0_1 h0_2 h0_3 h0_4 h0_f5 h0_6 h0_7 h0_8 h0_9 h0_10 h0_11 h0_12 h0_13 h0_14 h0_f15 h0_0 h0_0_0 h0_0_f1 h0_0_f2 h0_0_f3) s.heap := hP
  have hl := lv_entry ([.ref h0, .int p1]) (n := 2) (Nat.le_of_ble_eq_true rfl)
  rw [lg_entry_eq]
  generalize (lg_sl ([.ref h0, .int p1]) ++ List.replicate (2 - (lg_sl ([.ref h0, .int p1])).length) Slot.unset).toArray = ls at hl ⊢
  have hl : lv_has ls 2 [(0, .ref h0), (1, .int p1)] := hl
  obtain ⟨H, hHe⟩ : ∃ H : Heap, s.heap = H := ⟨_, rfl⟩
  have hS : va_S A s.heap H [] := by rw [hHe]; exact va_S.rf
  have hP : va_P (dC, dI) vwCl (wd_c_X11_end h0 h0_0 h0_1 h0_2 h0_3 h0_4 h0_f5 h0_6 h0_7 h0_8 h0_9 h0_10 h0_11 h0_12 h0_13 h0_14 h0_f15 h0_0 h0_0_0 h0_0_f1 h0_0_f2 h0_0_f3) H := by rw [← hHe]; exact hP
  rw [hHe]
  obtain ⟨RES, hR⟩ : ∃ z, fx_c_X11_end p1 h0_0_f1 = z := ⟨_, rfl⟩
  have hEX : RES = fx_c_X11_end p1 h0_0_f1 := hR.symm
  refine lv_iload_n hx hb dX11_end_0 rfl (lv_at hl 1 rfl) ?_
  as_aux_lemma =>
  refine lv_iconst (v := 0) hx hb dX11_end_1 kc_iconst_0 ?_
  refine lv_aload_n hx hb dX11_end_2 rfl (lv_at hl 0 rfl) ?_
  refine va_get (D := (dC, dI)) (ci := 11) (v := .ref h0_0) (C := RX11) (T := TX11) (N := 16) hx hb hts iw_c_X11_end_X11 hown hK hP 0 rfl rfl 0 (by decide +kernel) (hts (.fieldLink RX11 10 "BuoyVote" "tape" "LBuoyVote$Tape;") (List.mem_of_getElem? (i := 1) rfl)) (fun _ h9 => h9) rfl dX11_end_3 ?_
  refine va_get (D := (dC, dI)) (ci := 9) (v := .int h0_0_f1) (C := RX9) (T := TX9) (N := 4) hx hb hts iw_c_X11_end_X9 hown hK hP 1 rfl rfl 1 (by decide +kernel) (hts (.fieldLink RX11 103 "BuoyVote$Tape" "length" "I") (List.mem_of_getElem? (i := 2) rfl)) (fun _ h9 => h9) rfl dX11_end_6 ?_
  obtain ⟨hPc, hDc, hFc, hqc⟩ := cl_cut (wc := []) hP hD hS hA [] (by decide +kernel) rfl
  have hKc := hK.sub (tys' := []) [] rfl
  refine va_calli (va_runS (As := [.int p1, .int 0, .int h0_0_f1]) (rest := []) ⟨hx, hb, hml, hown, hts⟩ (c_X11_isWithin l dC dI H.size p1 h0_0_f1 g_h0_0_f1) (va_cwS 3 hts gf_c_X11_end_c_X11_isWithin rfl rfl rfl md_X11_isWithin ⟨Nat.le_of_ble_eq_true rfl, Nat.le_of_ble_eq_true rfl⟩) ⟨fun a U g mk q => by obtain ⟨q0, q1, qP, qK, qD⟩ := q; exact ⟨q0, q1, qP, va_K.moved (u := U) (U := U.calling g mk a) (Vm.Alike.refl U.vm) qK, qD⟩, fun U hU hW => ⟨rfl, by rw [hU], by rw [hU]; exact hPc, va_K.moved hW.alike hKc, hDc.weaken (fun _ _ _ _ => trivial)⟩⟩ rfl rfl hl.1 rfl (lv_room (Nat.le_of_ble_eq_true rfl)) dX11_end_9 ⟨Nat.le_of_ble_eq_true rfl, Nat.le_of_ble_eq_true rfl⟩) hS (fun q _ h => hFc q h) hFc (fun r_1 u t H1 locs ht hvm hw hB hz1 hk1 hS => ?_)
  obtain ⟨hP1, hK1, hD1⟩ := hB
  rw [ht] at hP1
  have hP := bv_still hP hk1
  generalize H1 = H at hP hS ⊢
  as_aux_lemma =>
  rcases hw with ⟨h_2, h_3, h_4⟩ | ⟨h_5, h_6, h_7, h_8⟩
  · have h_4 : r_1 = _ := h_4
    replace hEX := hEX.trans (exc1_eq h_4)
    replace hEX := hEX.trans (if_pos (show r_1 = 0 from h_2))
    rw [h_2]
    refine lv_if_ne (tgt := 17) hx hb dX11_end_12 rfl (fun c_9 => absurd c_9 (by decide +kernel)) (fun c_9 => ?_)
    refine lv_iconst (v := 0) hx hb dX11_end_15 kc_iconst_0 ?_
    have hK9 := hK.sub (tys' := []) [] rfl
    exact W.zret (v := 0) hx hb hr rfl (fun t ht hW => ⟨⟨0, h0_0_f1, rfl, (Or.inl ⟨rfl, g_h0_0_f1, (hR.trans hEX).symm⟩), by rw [ht]; exact hP, va_K.moved hW.alike hK9, hD⟩, hS.F ht⟩) hS.2.2 dX11_end_16
  · have h_8 : r_1 = _ := h_8
    replace hEX := hEX.trans (exc1_eq h_8)
    replace hEX := hEX.trans (if_neg (fun q9 : r_1 = 0 => absurd ((show r_1 = 1 from h_5).symm.trans q9) (by decide +kernel)))
    rw [h_5]
    refine lv_if_ne (tgt := 17) hx hb dX11_end_12 rfl (fun c_10 => ?_) (fun c_10 => absurd c_10 (by decide +kernel))
    refine lv_aload_n hx hb dX11_end_17 rfl (lv_at hl 0 rfl) ?_
    as_aux_lemma =>
    refine va_get (D := (dC, dI)) (ci := 11) (v := .ref h0_0) (C := RX11) (T := TX11) (N := 16) hx hb hts iw_c_X11_end_X11 hown hK hP 0 rfl rfl 0 (by decide +kernel) (hts (.fieldLink RX11 10 "BuoyVote" "tape" "LBuoyVote$Tape;") (List.mem_of_getElem? (i := 1) rfl)) (fun _ h9 => h9) rfl dX11_end_18 ?_
    refine lv_iload_n hx hb dX11_end_21 rfl (lv_at hl 1 rfl) ?_
    refine va_put (D := (dC, dI)) (ci := 9) (v := .int p1) (ty := .int) (C := RX9) (T := TX9) (N := 4) hx hb hts iw_c_X11_end_X9 tyX9 tyX9_ok nmX9 hown hK hP hD hS 1 rfl rfl 1 (by decide +kernel) (hts (.fieldLink RX11 103 "BuoyVote$Tape" "length" "I") (List.mem_of_getElem? (i := 2) rfl)) (fun _ h9 => h9) rfl (by decide +kernel) rfl rfl (Nat.le_of_ble_eq_true rfl) dX11_end_22 (fun H locs hP hD hS => ?_)
    have hP : va_P (dC, dI) vwCl (wd_c_X11_end h0 h0_0 h0_1 h0_2 h0_3 h0_4 h0_f5 h0_6 h0_7 h0_8 h0_9 h0_10 h0_11 h0_12 h0_13 h0_14 h0_f15 h0_0 h0_0_0 p1 h0_0_f2 h0_0_f3) H := hP
    have hD : va_D A (wd_c_X11_end h0 h0_0 h0_1 h0_2 h0_3 h0_4 h0_f5 h0_6 h0_7 h0_8 h0_9 h0_10 h0_11 h0_12 h0_13 h0_14 h0_f15 h0_0 h0_0_0 p1 h0_0_f2 h0_0_f3) := hD
    refine lv_iconst (v := 1) hx hb dX11_end_25 kc_iconst_1 ?_
    have hK9 := hK.sub (tys' := []) [] rfl
    exact W.zret (v := 1) hx hb hr rfl (fun t ht hW => ⟨⟨1, p1, rfl, (Or.inr ⟨rfl, h_6, h_6, (hR.trans hEX).symm⟩), by rw [ht]; exact hP, va_K.moved hW.alike hK9, hD⟩, hS.F ht⟩) hS.2.2 dX11_end_26
noncomputable def wf_c_X0_lettersOf : List Cond := .code yX0_lettersOf cX0_lettersOf 1 (some (.object "java/lang/String")) :: ([])
set_option maxHeartbeats 4000000 in
set_option maxRecDepth 100000 in
theorem c_X0_lettersOf (l : Launch) (dC : Nat → ClassId) (dI : Nat → Nat → Nat) (sz : Nat) (ts1 : Nat) : Met l yX0_lettersOf wf_c_X0_lettersOf ({ frames := 0, cells := 0, slots := 0, locals := 0 }) (va_Pc [.int 0] (fun U => U.heap.size = sz ∧ va_P (dC, dI) vwCl [] U.heap ∧ va_K (dC, dI) vwCl [] U ∧ va_D (fun _ => True) [] ∧ vk_R RX0 122 "wdth" ts1 U)) (va_Qr (fun (u : (Nat)) => (u = ts1)) (fun (u : (Nat)) (ra : Nat) t => ra = u ∧ va_P (dC, dI) vwCl [] t.heap ∧ va_K (dC, dI) vwCl [] t ∧ va_D (va_A [] sz) []) (va_A [] sz)) 0 0 (va_A [] sz) := by
  refine Met.ofW (cc := cX0_lettersOf) (maxL := 1) (ret := (some (.object "java/lang/String"))) (by decide +kernel) rfl ?_
  intro p e s m args below meth c s₁ B hml hv
  obtain ⟨rfl, hsz, hP, hK, hD0, hE_17⟩ := hv
  have hx := B.exec
  have hb := B.bytes
  have hr := B.returns
  have hts := atoms_spec (ws := wf_c_X0_lettersOf) B.pre
  have hown : s.vm.findClass RX0 = some m.cls := findClass_of_methodNamed B.named
  have hlocks := B.notSynchronized
  subst hsz
  have hD := hD0.self (sz := s.heap.size)
  generalize hAe : va_A [] s.heap.size = A at hD ⊢
  have hA : ∀ q : Nat, s.heap.size ≤ q → A q := fun q h => by rw [← hAe]; exact Or.inr h
  have hP : va_P (dC, dI) vwCl [] s.heap := hP
  have hl := lv_entry ([.int 0]) (n := 1) (Nat.le_of_ble_eq_true rfl)
  rw [lg_entry_eq]
  generalize (lg_sl ([.int 0]) ++ List.replicate (1 - (lg_sl ([.int 0])).length) Slot.unset).toArray = ls at hl ⊢
  have hl : lv_has ls 1 [(0, .int 0)] := hl
  obtain ⟨H, hHe⟩ : ∃ H : Heap, s.heap = H := ⟨_, rfl⟩
  have hS : va_S A s.heap H [] := by rw [hHe]; exact va_S.rf
  have hP : va_P (dC, dI) vwCl [] H := by rw [← hHe]; exact hP
  rw [hHe]
  refine lv_iload_n hx hb dX0_lettersOf_0 rfl (lv_at hl 0 rfl) ?_
  as_aux_lemma =>
  refine lv_if_ne (tgt := 7) hx hb dX0_lettersOf_1 rfl (fun c_1 => absurd c_1 (by decide +kernel)) (fun c_1 => ?_)
  refine va_ldcS hx hb hown hE_17 dX0_lettersOf_4 ?_
  have hK9 := hK.sub (tys' := []) [] rfl
  exact W.aret (v := .ref ts1) hx hb hr (Or.inl ⟨_, rfl⟩) (Or.inr ⟨_, rfl⟩) (fun t ht hW => ⟨⟨ts1, ts1, rfl, rfl, rfl, by rw [ht]; exact hP, va_K.moved hW.alike hK9, hD⟩, hS.F ht⟩) hS.2.2 dX0_lettersOf_6
noncomputable def wf_c_J0_coder_7d493 : List Cond := .code yJ0_coder_7d493 cJ0_coder_7d493 1 (some .byte) :: ([.fieldLink RJ0 38 "java/lang/String" "COMPACT_STRINGS" "Z", .fieldLink RJ0 15 "java/lang/String" "coder" "B"])
set_option maxHeartbeats 4000000 in
set_option maxRecDepth 100000 in
theorem c_J0_coder_7d493 (l : Launch) (dC : Nat → ClassId) (dI : Nat → Nat → Nat) (sz : Nat) (ts1 : Nat) : Met l yJ0_coder_7d493 wf_c_J0_coder_7d493 ({ frames := 0, cells := 0, slots := 0, locals := 0 }) (va_Pc [.ref ts1] (fun U => U.heap.size = sz ∧ va_P (dC, dI) vwCl [] U.heap ∧ va_K (dC, dI) vwCl [] U ∧ va_D (fun _ => True) [] ∧ va_Z "java/lang/String" "COMPACT_STRINGS" "Z" (.int 1) (va_A [] sz) U U.heap ∧ va_OF "java/lang/String" "coder" "B" (.int 0) ts1 (va_A [] sz) U U.heap)) (va_Qi (fun (r : Int32) (u : Unit) => (r = 0 ∧ r = fx_c_J0_coder_7d493)) (fun (u : Unit) t => va_P (dC, dI) vwCl [] t.heap ∧ va_K (dC, dI) vwCl [] t ∧ va_D (va_A [] sz) []) (va_A [] sz)) 0 0 (va_A [] sz) := by
  refine Met.ofW (cc := cJ0_coder_7d493) (maxL := 1) (ret := (some .byte)) (by decide +kernel) rfl ?_
  intro p e s m args below meth c s₁ B hml hv
  obtain ⟨rfl, hsz, hP, hK, hD0, hE_10, hE_19⟩ := hv
  have hx := B.exec
  have hb := B.bytes
  have hr := B.returns
  have hts := atoms_spec (ws := wf_c_J0_coder_7d493) B.pre
  have hown : s.vm.findClass RJ0 = some m.cls := findClass_of_methodNamed B.named
  have hlocks := B.notSynchronized
  subst hsz
  have hD := hD0.self (sz := s.heap.size)
  generalize hAe : va_A [] s.heap.size = A at hD hE_10 hE_19 ⊢
  have hA : ∀ q : Nat, s.heap.size ≤ q → A q := fun q h => by rw [← hAe]; exact Or.inr h
  have hP : va_P (dC, dI) vwCl [] s.heap := hP
  have hl := lv_entry ([.ref ts1]) (n := 1) (Nat.le_of_ble_eq_true rfl)
  rw [lg_entry_eq]
  generalize (lg_sl ([.ref ts1]) ++ List.replicate (1 - (lg_sl ([.ref ts1])).length) Slot.unset).toArray = ls at hl ⊢
  have hl : lv_has ls 1 [(0, .ref ts1)] := hl
  obtain ⟨H, hHe⟩ : ∃ H : Heap, s.heap = H := ⟨_, rfl⟩
  have hS : va_S A s.heap H [] := by rw [hHe]; exact va_S.rf
  have hP : va_P (dC, dI) vwCl [] H := by rw [← hHe]; exact hP
  rw [hHe]
  obtain ⟨RES, hR⟩ : ∃ z, fx_c_J0_coder_7d493 = z := ⟨_, rfl⟩
  have hEX : RES = fx_c_J0_coder_7d493 := hR.symm
  refine va_gets hx hb hE_10 hS hown (hts (.fieldLink RJ0 38 "java/lang/String" "COMPACT_STRINGS" "Z") (List.mem_of_getElem? (i := 1) rfl)) (fun _ h9 => h9) dJ0_coder_7d493_0 ?_
  as_aux_lemma =>
  refine lv_if_eq (tgt := 13) hx hb dJ0_coder_7d493_3 rfl (fun c_1 => absurd c_1 (by decide +kernel)) (fun c_1 => ?_)
  refine lv_aload_n hx hb dJ0_coder_7d493_6 rfl (lv_at hl 0 rfl) ?_
  refine vk_getf hx hb hE_19 hS hown (hts (.fieldLink RJ0 15 "java/lang/String" "coder" "B") (List.mem_of_getElem? (i := 2) rfl)) (fun _ h9 => h9) dJ0_coder_7d493_7 ?_
  refine lv_goto (tgt := 14) hx hb dJ0_coder_7d493_10 rfl ?_
  have hK9 := hK.sub (tys' := []) [] rfl
  exact W.zret (v := 0) hx hb hr rfl (fun t ht hW => ⟨⟨0, (), rfl, ⟨rfl, (hR.trans hEX).symm⟩, by rw [ht]; exact hP, va_K.moved hW.alike hK9, hD⟩, hS.F ht⟩) hS.2.2 dJ0_coder_7d493_14
noncomputable def wf_c_J0_length_8abf5 : List Cond := .code yJ0_length_8abf5 cJ0_length_8abf5 1 (some .int) :: ([.fieldLink RJ0 9 "java/lang/String" "value" "[B", .methodLink RJ0 335 yJ0_coder_7d493, .instanceMethod yJ0_coder_7d493, .selects RJ0 yJ0_coder_7d493 yJ0_coder_7d493, .initialized RJ0, .code yJ0_coder_7d493 cJ0_coder_7d493 1 (some .byte), .fieldLink RJ0 38 "java/lang/String" "COMPACT_STRINGS" "Z", .fieldLink RJ0 15 "java/lang/String" "coder" "B"])
set_option maxRecDepth 20000 in
theorem gf_c_J0_length_8abf5_c_J0_coder_7d493 : GoodIn wf_c_J0_length_8abf5 (wsV RJ0 335 RJ0 yJ0_coder_7d493 wf_c_J0_coder_7d493) := goodIn_app (gi_l [2, 3, 4, 5] rfl rfl) (gi_cons (j := 6) rfl rfl (gi_l [7, 8] rfl rfl))
set_option maxHeartbeats 4000000 in
set_option maxRecDepth 100000 in
theorem c_J0_length_8abf5 (l : Launch) (dC : Nat → ClassId) (dI : Nat → Nat → Nat) (sz : Nat) (ts1 : Nat) (tv1 : Nat) : Met l yJ0_length_8abf5 wf_c_J0_length_8abf5 ({ frames := 1, cells := 0, slots := 0, locals := 20 }) (va_Pc [.ref ts1] (fun U => U.heap.size = sz ∧ va_P (dC, dI) vwCl [] U.heap ∧ va_K (dC, dI) vwCl [] U ∧ va_D (fun _ => True) [] ∧ va_OF "java/lang/String" "value" "[B" (.ref tv1) ts1 (va_A [] sz) U U.heap ∧ va_T .byte tv1 4 (fun j => .int ([119, 100, 116, 104].getD j 0)) (va_A [] sz) U U.heap ∧ va_Z "java/lang/String" "COMPACT_STRINGS" "Z" (.int 1) (va_A [] sz) U U.heap ∧ va_OF "java/lang/String" "coder" "B" (.int 0) ts1 (va_A [] sz) U U.heap ∧ va_O "java/lang/String" ts1 (va_A [] sz) U U.heap)) (va_Qi (fun (r : Int32) (u : Unit) => (r = 4 ∧ r = fx_c_J0_length_8abf5)) (fun (u : Unit) t => va_P (dC, dI) vwCl [] t.heap ∧ va_K (dC, dI) vwCl [] t ∧ va_D (va_A [] sz) []) (va_A [] sz)) 0 0 (va_A [] sz) := by
  refine Met.ofW (cc := cJ0_length_8abf5) (maxL := 1) (ret := (some .int)) (by decide +kernel) rfl ?_
  intro p e s m args below meth c s₁ B hml hv
  obtain ⟨rfl, hsz, hP, hK, hD0, hE_20, hE_21, hE_10, hE_19, hE_18⟩ := hv
  have hx := B.exec
  have hb := B.bytes
  have hr := B.returns
  have hts := atoms_spec (ws := wf_c_J0_length_8abf5) B.pre
  have hown : s.vm.findClass RJ0 = some m.cls := findClass_of_methodNamed B.named
  have hlocks := B.notSynchronized
  subst hsz
  have hD := hD0.self (sz := s.heap.size)
  generalize hAe : va_A [] s.heap.size = A at hD hE_20 hE_21 hE_10 hE_19 hE_18 ⊢
  have hA : ∀ q : Nat, s.heap.size ≤ q → A q := fun q h => by rw [← hAe]; exact Or.inr h
  have hP : va_P (dC, dI) vwCl [] s.heap := hP
  have hl := lv_entry ([.ref ts1]) (n := 1) (Nat.le_of_ble_eq_true rfl)
  rw [lg_entry_eq]
  generalize (lg_sl ([.ref ts1]) ++ List.replicate (1 - (lg_sl ([.ref ts1])).length) Slot.unset).toArray = ls at hl ⊢
  have hl : lv_has ls 1 [(0, .ref ts1)] := hl
  obtain ⟨H, hHe⟩ : ∃ H : Heap, s.heap = H := ⟨_, rfl⟩
  have hS : va_S A s.heap H [] := by rw [hHe]; exact va_S.rf
  have hP : va_P (dC, dI) vwCl [] H := by rw [← hHe]; exact hP
  rw [hHe]
  obtain ⟨RES, hR⟩ : ∃ z, fx_c_J0_length_8abf5 = z := ⟨_, rfl⟩
  have hEX : RES = fx_c_J0_length_8abf5 := hR.symm
  refine lv_aload_n hx hb dJ0_length_8abf5_0 rfl (lv_at hl 0 rfl) ?_
  as_aux_lemma =>
  refine vk_getf hx hb hE_20 hS hown (hts (.fieldLink RJ0 9 "java/lang/String" "value" "[B") (List.mem_of_getElem? (i := 1) rfl)) (fun _ h9 => h9) dJ0_length_8abf5_1 ?_
  refine va_tlen (v := 4) hx hb hE_21 hS rfl dJ0_length_8abf5_4 ?_
  refine lv_aload_n hx hb dJ0_length_8abf5_5 rfl (lv_at hl 0 rfl) ?_
  obtain ⟨hPc, hDc, hFc, hqc⟩ := cl_cut (wc := []) hP hD hS hA [] (by decide +kernel) rfl
  have hKc := hK.sub (tys' := []) [] rfl
  have hrv := bv_Orecv hE_18 hS
  refine va_calli (va_runV (As := []) (rest := [.int 4]) ⟨hx, hb, hml, hown, hts⟩ (c_J0_coder_7d493 l dC dI H.size ts1) (cwV 0 hts gf_c_J0_length_8abf5_c_J0_coder_7d493 rfl rfl rfl mdV_J0_coder_7d493 ⟨Nat.le_of_ble_eq_true rfl, Nat.le_of_ble_eq_true rfl⟩) ⟨fun a U g mk q => by obtain ⟨q0, q1, qP, qK, qD, qE0, qE1⟩ := q; exact ⟨q0, q1, qP, va_K.moved (u := U) (U := U.calling g mk a) (Vm.Alike.refl U.vm) qK, qD, va_Z.moved (u := U) (U := U.calling g mk a) (Vm.Alike.refl U.vm) qE0, va_OF.moved (u := U) (U := U.calling g mk a) (Vm.Alike.refl U.vm) qE1⟩, hrv, fun U hU hW => ⟨rfl, by rw [hU], by rw [hU]; exact hPc, va_K.moved hW.alike hKc, hDc.weaken (fun _ _ _ _ => trivial), va_Z.moved hW.alike (by rw [hU]; exact (hE_10.kept hS.2.1).narrow hFc), va_OF.moved hW.alike (by rw [hU]; exact (hE_19.kept hS.2.1).narrow hFc)⟩⟩ rfl rfl hl.1 rfl (lv_room (Nat.le_of_ble_eq_true rfl)) dJ0_length_8abf5_6 ⟨Nat.le_of_ble_eq_true rfl, Nat.le_of_ble_eq_true rfl⟩) hS (fun q _ h => hFc q h) hFc (fun r_1 u t H1 locs ht hvm hw hB hz1 hk1 hS => ?_)
  obtain ⟨hP1, hK1, hD1⟩ := hB
  rw [ht] at hP1
  have hP := bv_still hP hk1
  generalize H1 = H at hP hS ⊢
  as_aux_lemma =>
  rcases hw with ⟨h_2, h_3⟩
  have h_3 : r_1 = _ := h_3
  replace hEX := hEX.trans (exc1_eq h_3)
  rw [h_2]
  refine lv_ishr hx hb dJ0_length_8abf5_9 ?_
  refine lv_topi (fun x_4 ex_4 => ?_)
  obtain rfl : x_4 = 4 := ex_4.trans (by decide +kernel)
  have hK9 := hK.sub (tys' := []) [] rfl
  exact W.iret (v := 4) hx hb hr (fun t ht hW => ⟨⟨4, (), rfl, ⟨rfl, (hR.trans hEX).symm⟩, by rw [ht]; exact hP, va_K.moved hW.alike hK9, hD⟩, hS.F ht⟩) hS.2.2 dJ0_length_8abf5_10
noncomputable def wd_c_X0_setUsual (a0 : Nat) (a1 : Nat) (a2 : Int32) (a3 : Int32) (a4 : Int32) (a5 : Nat) (a6 : ClassId) (a7 : Nat → Int32) : va_W := [(a0, .inr (0, [.ref a1, .int a2, .int a3, .int a4])), (a5, .inl (a6, 80, .inl a7))]
noncomputable def wf_c_X0_setUsual : List Cond := List.cons (.code yX0_setUsual cX0_setUsual 5 none) (@HAppend.hAppend (List Cond) (List Cond) (List Cond) _ [.methodLink RX0 92 yX0_lettersOf, .static yX0_lettersOf, .initialized RX0, .code yX0_lettersOf cX0_lettersOf 1 (some (.object "java/lang/String")), .methodLink RX0 96 yJ0_length_8abf5, .instanceMethod yJ0_length_8abf5, .selects RJ0 yJ0_length_8abf5 yJ0_length_8abf5, .initialized RJ0, .code yJ0_length_8abf5 cJ0_length_8abf5 1 (some .int), .fieldLink RJ0 9 "java/lang/String" "value" "[B", .methodLink RJ0 335 yJ0_coder_7d493, .instanceMethod yJ0_coder_7d493, .selects RJ0 yJ0_coder_7d493 yJ0_coder_7d493, .code yJ0_coder_7d493 cJ0_coder_7d493 1 (some .byte), .fieldLink RJ0 38 "java/lang/String" "COMPACT_STRINGS" "Z", .fieldLink RJ0 15 "java/lang/String" "coder" "B", .fieldLink RX0 11 "BuoyVote$Borough" "values" "[I", .fieldLink RX0 113 "BuoyVote$Borough" "USUAL" "[I", .fieldLink RX0 103 "BuoyVote$Borough" "FIRST" "[I"] wsX00)
theorem iw_c_X0_setUsual_X0 : ∀ w ∈ wsX00, w ∈ wf_c_X0_setUsual := fun w h => List.mem_cons_of_mem _ (List.mem_append_right _ h)
set_option maxRecDepth 20000 in
theorem gf_c_X0_setUsual_c_X0_lettersOf : GoodIn wf_c_X0_setUsual (va_wsS RX0 92 yX0_lettersOf wf_c_X0_lettersOf) := goodIn_app (gi_l [1, 2, 3] rfl rfl) (gi_cons (j := 4) rfl rfl gi_nil)
set_option maxRecDepth 20000 in
theorem gf_c_X0_setUsual_c_J0_length_8abf5 : GoodIn wf_c_X0_setUsual (wsV RX0 96 RJ0 yJ0_length_8abf5 wf_c_J0_length_8abf5) := goodIn_app (gi_l [5, 6, 7, 8] rfl rfl) (gi_cons (j := 9) rfl rfl (gi_l [10, 11, 12, 13, 8, 14, 15, 16] rfl rfl))
set_option maxHeartbeats 4000000 in
set_option maxRecDepth 100000 in
theorem c_X0_setUsual (l : Launch) (dC : Nat → ClassId) (dI : Nat → Nat → Nat) (sz : Nat) (h0 : Nat) (h0_0 : Nat) (h0_f1 : Int32) (h0_f2 : Int32) (h0_f3 : Int32) (h0_0k : ClassId) (h0_0c : Nat → Int32) (ts1 : Nat) (tv1 : Nat) (ta3 : Nat) (ta0 : Nat) (g_h0_f1 : RG h0_f1 0 8) (g_h0_f2 : RG h0_f2 0 3) (g_h0_f3 : RG h0_f3 0 1) (a_h0_0c : AI h0_0c (-1) 99) : Met l yX0_setUsual wf_c_X0_setUsual ({ frames := 2, cells := 0, slots := 0, locals := 40 }) (va_Pc [.ref h0, .int 0, .int 0] (fun U => U.heap.size = sz ∧ va_P (dC, dI) vwCl (wd_c_X0_setUsual h0 h0_0 h0_f1 h0_f2 h0_f3 h0_0 h0_0k h0_0c) U.heap ∧ va_K (dC, dI) vwCl [(h0_0k, .int)] U ∧ va_D (fun _ => True) (wd_c_X0_setUsual h0 h0_0 h0_f1 h0_f2 h0_f3 h0_0 h0_0k h0_0c) ∧ vk_R RX0 122 "wdth" ts1 U ∧ va_OF "java/lang/String" "value" "[B" (.ref tv1) ts1 (va_A (wd_c_X0_setUsual h0 h0_0 h0_f1 h0_f2 h0_f3 h0_0 h0_0k h0_0c) sz) U U.heap ∧ va_T .byte tv1 4 (fun j => .int ([119, 100, 116, 104].getD j 0)) (va_A (wd_c_X0_setUsual h0 h0_0 h0_f1 h0_f2 h0_f3 h0_0 h0_0k h0_0c) sz) U U.heap ∧ va_Z "java/lang/String" "COMPACT_STRINGS" "Z" (.int 1) (va_A (wd_c_X0_setUsual h0 h0_0 h0_f1 h0_f2 h0_f3 h0_0 h0_0k h0_0c) sz) U U.heap ∧ va_OF "java/lang/String" "coder" "B" (.int 0) ts1 (va_A (wd_c_X0_setUsual h0 h0_0 h0_f1 h0_f2 h0_f3 h0_0 h0_0k h0_0c) sz) U U.heap ∧ va_O "java/lang/String" ts1 (va_A (wd_c_X0_setUsual h0 h0_0 h0_f1 h0_f2 h0_f3 h0_0 h0_0k h0_0c) sz) U U.heap ∧ va_Z "BuoyVote$Borough" "USUAL" "[I" (.ref ta3) (va_A (wd_c_X0_setUsual h0 h0_0 h0_f1 h0_f2 h0_f3 h0_0 h0_0k h0_0c) sz) U U.heap ∧ va_Z "BuoyVote$Borough" "FIRST" "[I" (.ref ta0) (va_A (wd_c_X0_setUsual h0 h0_0 h0_f1 h0_f2 h0_f3 h0_0 h0_0k h0_0c) sz) U U.heap ∧ va_T .int ta0 3 (fun j => .int ([0, 4, 12].getD j 0)) (va_A (wd_c_X0_setUsual h0 h0_0 h0_f1 h0_f2 h0_f3 h0_0 h0_0k h0_0c) sz) U U.heap ∧ va_T .int ta3 16 (fun j => .int ([2, 0, 6, 8, 0, 0, 3, 0, 0, 0, 3, 2, 0, 0, 2, 3].getD j 0)) (va_A (wd_c_X0_setUsual h0 h0_0 h0_f1 h0_f2 h0_f3 h0_0 h0_0k h0_0c) sz) U U.heap)) (va_Qv (fun (u : (Nat → Int32)) => (AI (u) (-1) 99 ∧ u = fx_c_X0_setUsual h0_0c)) (fun (u : (Nat → Int32)) t => va_P (dC, dI) vwCl (wd_c_X0_setUsual h0 h0_0 h0_f1 h0_f2 h0_f3 h0_0 h0_0k (u)) t.heap ∧ va_K (dC, dI) vwCl [] t ∧ va_D (va_A (wd_c_X0_setUsual h0 h0_0 h0_f1 h0_f2 h0_f3 h0_0 h0_0k h0_0c) sz) (wd_c_X0_setUsual h0 h0_0 h0_f1 h0_f2 h0_f3 h0_0 h0_0k (u))) (va_A (wd_c_X0_setUsual h0 h0_0 h0_f1 h0_f2 h0_f3 h0_0 h0_0k h0_0c) sz)) 0 0 (va_A (wd_c_X0_setUsual h0 h0_0 h0_f1 h0_f2 h0_f3 h0_0 h0_0k h0_0c) sz) := by
  refine Met.ofW (cc := cX0_setUsual) (maxL := 5) (ret := none) (by decide +kernel) rfl ?_
  intro p e s m args below meth c s₁ B hml hv
  obtain ⟨rfl, hsz, hP, hK, hD0, hE_17, hE_20, hE_21, hE_10, hE_19, hE_18, hE_6, hE_0, hE_1, hE_7⟩ := hv
  have hx := B.exec
  have hb := B.bytes
  have hr := B.returns
  have hts := atoms_spec (ws := wf_c_X0_setUsual) B.pre
  have hown : s.vm.findClass RX0 = some m.cls := findClass_of_methodNamed B.named
  have hlocks := B.notSynchronized
  subst hsz
  have hD := hD0.self (sz := s.heap.size)
  generalize hAe : va_A (wd_c_X0_setUsual h0 h0_0 h0_f1 h0_f2 h0_f3 h0_0 h0_0k h0_0c) s.heap.size = A at hD hE_20 hE_21 hE_10 hE_19 hE_18 hE_6 hE_0 hE_1 hE_7 ⊢
  have hA : ∀ q : Nat, s.heap.size ≤ q → A q := fun q h => by rw [← hAe]; exact Or.inr h
  have hP : va_P (dC, dI) vwCl (wd_c_X0_setUsual h0 h0_0 h0_f1 h0_f2 h0_f3 h0_0 h0_0k h0_0c) s.heap := hP
  have hl := lv_entry ([.ref h0, .int 0, .int 0]) (n := 5) (Nat.le_of_ble_eq_true rfl)
  rw [lg_entry_eq]
  generalize (lg_sl ([.ref h0, .int 0, .int 0]) ++ List.replicate (5 - (lg_sl ([.ref h0, .int 0, .int 0])).length) Slot.unset).toArray = ls at hl ⊢
  have hl : lv_has ls 5 [(0, .ref h0), (1, .int 0), (2, .int 0)] := hl
  obtain ⟨H, hHe⟩ : ∃ H : Heap, s.heap = H := ⟨_, rfl⟩
  have hS : va_S A s.heap H [] := by rw [hHe]; exact va_S.rf
  have hP : va_P (dC, dI) vwCl (wd_c_X0_setUsual h0 h0_0 h0_f1 h0_f2 h0_f3 h0_0 h0_0k h0_0c) H := by rw [← hHe]; exact hP
  rw [hHe]
  obtain ⟨RES, hR⟩ : ∃ z, fx_c_X0_setUsual h0_0c = z := ⟨_, rfl⟩
  have hEX : RES = fx_c_X0_setUsual h0_0c := hR.symm
  refine wj (fun G hG hU => ?_)
  as_aux_lemma =>
  have J11 : ∀ (n11 : Nat) (j11_l4 : Int32) (j11_h0_0c : Nat → Int32) (hM11 : MU j11_l4 < n11) (g_h0_f1 : RG h0_f1 0 8) (g_h0_f2 : RG h0_f2 0 3) (g_h0_f3 : RG h0_f3 0 1) (g_j11_l4 : RG j11_l4 0 4) (a_j11_h0_0c : AI j11_h0_0c (-1) 99) (hEX : RES = fx_c_X0_setUsual_p11 n11 j11_l4 j11_h0_0c) (H : Heap) (locs : List Loc) (ls : Array Slot) (hP : va_P (dC, dI) vwCl (wd_c_X0_setUsual h0 h0_0 h0_f1 h0_f2 h0_f3 h0_0 h0_0k j11_h0_0c) H) (hD : va_D A (wd_c_X0_setUsual h0 h0_0 h0_f1 h0_f2 h0_f3 h0_0 h0_0k j11_h0_0c)) (hS : va_S A s.heap H locs) (hl : lv_has ls 5 [(4, .int j11_l4), (3, .int 4), (0, .ref h0), (1, .int 0), (2, .int 0)]), G H locs (F0 m 11 ls []) := by
    as_aux_lemma =>
    intro n11
    induction n11 with
    | zero => intros; exact absurd (by assumption) (Nat.not_lt_zero _)
    | succ n11 ih11 =>
      intro j11_l4 j11_h0_0c hM11 g_h0_f1 g_h0_f2 g_h0_f3 g_j11_l4 a_j11_h0_0c hEX H locs ls hP hD hS hl
      refine hG _ _ _ ?_
      replace hEX := hEX.trans (if_pos (rfl : j11_l4 = j11_l4))
      refine lv_iload hx hb dX0_setUsual_11 (lv_at hl 0 rfl) ?_
      refine lv_iload_n hx hb dX0_setUsual_13 rfl (lv_at hl 1 rfl) ?_
      refine lv_icmp_ge (tgt := 44) hx hb dX0_setUsual_14 rfl (fun c_1 => ?_) (fun c_1 => ?_)
      · replace hEX := hEX.trans (if_pos c_1)
        have g_2 : RG j11_l4 4 4 := RG_le2 (RG_k 4 4 rfl) g_j11_l4 c_1 (by decide +kernel)
        have hK9 := hK.sub (tys' := []) [] rfl
        exact W.vret hx hb hr (fun t ht hW => ⟨⟨j11_h0_0c, rfl, ⟨a_j11_h0_0c, (hR.trans hEX).symm⟩, by rw [ht]; exact hP, va_K.moved hW.alike hK9, hD⟩, hS.F ht⟩) hS.2.2 dX0_setUsual_44
      · replace hEX := hEX.trans (if_neg c_1)
        have d_3 := Int32.not_le.mp c_1
        have g_4 : RG j11_l4 0 3 := RG_lt1 g_j11_l4 (RG_k 4 4 rfl) d_3 (by decide +kernel)
        refine lv_aload_n hx hb dX0_setUsual_17 rfl (lv_at hl 2 rfl) ?_
        as_aux_lemma =>
        refine va_get (D := (dC, dI)) (ci := 0) (v := .ref h0_0) (C := RX0) (T := TX0) (N := 4) hx hb hts iw_c_X0_setUsual_X0 hown hK hP 0 rfl rfl 0 (by decide +kernel) (hts (.fieldLink RX0 11 "BuoyVote$Borough" "values" "[I") (List.mem_of_getElem? (i := 17) rfl)) (fun _ h9 => h9) rfl dX0_setUsual_18 ?_
        refine lv_iload_n hx hb dX0_setUsual_21 rfl (lv_at hl 4 rfl) ?_
        refine lv_iload hx hb dX0_setUsual_22 (lv_at hl 0 rfl) ?_
        refine lv_iadd hx hb dX0_setUsual_24 ?_
        refine lv_topi (fun x_5 ex_5 => ?_)
        replace hEX := hEX.trans (exl_eq ex_5)
        have g_6 : RG x_5 0 3 := RG_add ex_5 (RG_k 0 0 rfl) g_4 (by decide +kernel)
        refine va_gets hx hb hE_6 hS hown (hts (.fieldLink RX0 113 "BuoyVote$Borough" "USUAL" "[I") (List.mem_of_getElem? (i := 18) rfl)) (fun _ h9 => h9) dX0_setUsual_25 ?_
        refine va_gets hx hb hE_0 hS hown (hts (.fieldLink RX0 103 "BuoyVote$Borough" "FIRST" "[I") (List.mem_of_getElem? (i := 19) rfl)) (fun _ h9 => h9) dX0_setUsual_28 ?_
        refine lv_iload_n hx hb dX0_setUsual_31 rfl (lv_at hl 3 rfl) ?_
        refine va_ti (v := .int 0) hx hb hE_1 hS (by unfold vp_in; decide) rfl dX0_setUsual_32 ?_
        refine lv_iload hx hb dX0_setUsual_33 (lv_at hl 0 rfl) ?_
        refine lv_iadd hx hb dX0_setUsual_35 ?_
        refine lv_topi (fun x_7 ex_7 => ?_)
        as_aux_lemma =>
        obtain rfl : x_5 = x_7 := ex_5.trans ex_7.symm
        refine va_ti hx hb hE_7 hS (RG_in g_6 (by decide +kernel)) rfl dX0_setUsual_36 ?_
        refine lv_topi (fun x_8 ex_8 => ?_)
        replace hEX := hEX.trans (exl_eq ex_8)
        have g_9 : RG x_8 0 8 := RG_tab ex_8 (by decide +kernel)
        refine va_iast hx hb hK hP hD hS 1 0 rfl rfl (RG_in g_6 (by decide +kernel)) dX0_setUsual_37 (fun H locs hP hD hS => ?_)
        have hP : va_P (dC, dI) vwCl (wd_c_X0_setUsual h0 h0_0 h0_f1 h0_f2 h0_f3 h0_0 h0_0k (upd j11_h0_0c (x_5 : Int32).toNatClampNeg x_8)) H := hP
        have hD : va_D A (wd_c_X0_setUsual h0 h0_0 h0_f1 h0_f2 h0_f3 h0_0 h0_0k (upd j11_h0_0c (x_5 : Int32).toNatClampNeg x_8)) := hD
        have l_11 : (upd j11_h0_0c (x_5 : Int32).toNatClampNeg x_8) (x_5 : Int32).toNatClampNeg = x_8 := pk_us
        have a_12 : AI (upd j11_h0_0c (x_5 : Int32).toNatClampNeg x_8) (-1) 99 := AI_up a_j11_h0_0c g_9 (by decide +kernel)
        generalize huw_10 : (upd j11_h0_0c (x_5 : Int32).toNatClampNeg x_8) = w_10 at hP hD a_12 l_11
        replace hEX := hEX.trans (exl_eq huw_10.symm)
        have hP : va_P (dC, dI) vwCl (wd_c_X0_setUsual h0 h0_0 h0_f1 h0_f2 h0_f3 h0_0 h0_0k w_10) H := hP
        have hD : va_D A (wd_c_X0_setUsual h0 h0_0 h0_f1 h0_f2 h0_f3 h0_0 h0_0k w_10) := hD
        obtain ⟨x_13, ex_13⟩ : ∃ y : Int32, y = j11_l4 + 1 := ⟨_, rfl⟩
        have g_14 : RG x_13 1 4 := RG_add ex_13 g_4 (RG_k 1 1 rfl) (by decide +kernel)
        replace hEX := hEX.trans (exl_eq ex_13)
        refine lv_iinc (v := x_13) (lv' := [(4, .int x_13), (3, .int 4), (0, .ref h0), (1, .int 0), (2, .int 0)]) hx hb dX0_setUsual_38 hl (k := 0) rfl (by rw [ex_13]; rfl) (Nat.le_of_ble_eq_true rfl) rfl (fun ls hl => ?_)
        as_aux_lemma =>
        refine lv_goto (tgt := 11) hx hb dX0_setUsual_41 rfl ?_
        exact hU _ _ _ (ih11 x_13 w_10 (mu_s (MU_add ex_13 g_4 (q := 1) rfl (by decide +kernel)) hM11) g_h0_f1 g_h0_f2 g_h0_f3 (RG_w g_14 (by decide +kernel)) a_12 hEX _ _ _ hP hD hS (lv_sub hl [0, 1, 2, 3, 4] rfl))
  refine hG _ _ _ ?_
  refine lv_iload_n hx hb dX0_setUsual_0 rfl (lv_at hl 1 rfl) ?_
  obtain ⟨hPc, hDc, hFc, hqc⟩ := cl_cut (wc := []) hP hD hS hA [] (by decide +kernel) rfl
  have hKc := hK.sub (tys' := []) [] rfl
  refine va_callr (va_runS (As := [.int 0]) (rest := []) ⟨hx, hb, hml, hown, hts⟩ (c_X0_lettersOf l dC dI H.size ts1) (va_cwS 1 hts gf_c_X0_setUsual_c_X0_lettersOf rfl rfl rfl md_X0_lettersOf ⟨Nat.le_of_ble_eq_true rfl, Nat.le_of_ble_eq_true rfl⟩) ⟨fun a U g mk q => by obtain ⟨q0, q1, qP, qK, qD, qE0⟩ := q; exact ⟨q0, q1, qP, va_K.moved (u := U) (U := U.calling g mk a) (Vm.Alike.refl U.vm) qK, qD, vk_R.same rfl qE0⟩, fun U hU hW => ⟨rfl, by rw [hU], by rw [hU]; exact hPc, va_K.moved hW.alike hKc, hDc.weaken (fun _ _ _ _ => trivial), vk_R.warm hW hE_17⟩⟩ rfl rfl hl.1 rfl (lv_room (Nat.le_of_ble_eq_true rfl)) dX0_setUsual_1 ⟨Nat.le_of_ble_eq_true rfl, Nat.le_of_ble_eq_true rfl⟩) hS (fun q _ h => hFc q h) hFc (fun x_16 r_15 t H1 locs ht hvm hw hB hz1 hk1 hS => ?_)
  obtain ⟨hra, hP1, hK1, hD1⟩ := hB
  rw [ht] at hP1
  have hP := bv_still hP hk1
  generalize H1 = H at hP hS ⊢
  as_aux_lemma =>
  have h_17 := hw
  rw [hra, show x_16 = ts1 from h_17]
  obtain ⟨hPc, hDc, hFc, hqc⟩ := cl_cut (wc := []) hP hD hS hA [] (by decide +kernel) rfl
  have hKc := hK.sub (tys' := []) [] rfl
  have hrv := bv_Orecv hE_18 hS
  refine va_calli (va_runV (As := []) (rest := []) ⟨hx, hb, hml, hown, hts⟩ (c_J0_length_8abf5 l dC dI H.size ts1 tv1) (cwV 0 hts gf_c_X0_setUsual_c_J0_length_8abf5 rfl rfl rfl mdV_J0_length_8abf5 ⟨Nat.le_of_ble_eq_true rfl, Nat.le_of_ble_eq_true rfl⟩) ⟨fun a U g mk q => by obtain ⟨q0, q1, qP, qK, qD, qE0, qE1, qE2, qE3, qE4⟩ := q; exact ⟨q0, q1, qP, va_K.moved (u := U) (U := U.calling g mk a) (Vm.Alike.refl U.vm) qK, qD, va_OF.moved (u := U) (U := U.calling g mk a) (Vm.Alike.refl U.vm) qE0, va_T.moved (u := U) (U := U.calling g mk a) (Vm.Alike.refl U.vm) qE1, va_Z.moved (u := U) (U := U.calling g mk a) (Vm.Alike.refl U.vm) qE2, va_OF.moved (u := U) (U := U.calling g mk a) (Vm.Alike.refl U.vm) qE3, va_O.moved (u := U) (U := U.calling g mk a) (Vm.Alike.refl U.vm) qE4⟩, hrv, fun U hU hW => ⟨rfl, by rw [hU], by rw [hU]; exact hPc, va_K.moved hW.alike hKc, hDc.weaken (fun _ _ _ _ => trivial), va_OF.moved hW.alike (by rw [hU]; exact (hE_20.kept hS.2.1).narrow hFc), va_T.moved hW.alike (by rw [hU]; exact (hE_21.kept hS.2.1).narrow hFc), va_Z.moved hW.alike (by rw [hU]; exact (hE_10.kept hS.2.1).narrow hFc), va_OF.moved hW.alike (by rw [hU]; exact (hE_19.kept hS.2.1).narrow hFc), va_O.moved hW.alike (by rw [hU]; exact (hE_18.kept hS.2.1).narrow hFc)⟩⟩ rfl rfl hl.1 rfl (lv_room (Nat.le_of_ble_eq_true rfl)) dX0_setUsual_4 ⟨Nat.le_of_ble_eq_true rfl, Nat.le_of_ble_eq_true rfl⟩) hS (fun q _ h => hFc q h) hFc (fun r_18 u t H1 locs ht hvm hw hB hz1 hk1 hS => ?_)
  obtain ⟨hP1, hK1, hD1⟩ := hB
  rw [ht] at hP1
  have hP := bv_still hP hk1
  generalize H1 = H at hP hS ⊢
  as_aux_lemma =>
  rcases hw with ⟨h_19, h_20⟩
  have h_20 : r_18 = _ := h_20
  replace hEX := hEX.trans (exc1_eq h_20)
  rw [h_19]
  refine lv_istore_n (lv' := [(3, .int 4), (0, .ref h0), (1, .int 0), (2, .int 0)]) hx hb dX0_setUsual_7 rfl hl (Nat.le_of_ble_eq_true rfl) rfl (fun ls hl => ?_)
  refine lv_iconst (v := 0) hx hb dX0_setUsual_8 kc_iconst_0 ?_
  refine lv_istore (lv' := [(4, .int 0), (3, .int 4), (0, .ref h0), (1, .int 0), (2, .int 0)]) hx hb dX0_setUsual_9 hl (Nat.le_of_ble_eq_true rfl) rfl (fun ls hl => ?_)
  exact hU _ _ _ (J11 exF 0 h0_0c MU_F g_h0_f1 g_h0_f2 g_h0_f3 (RG_w (RG_k 0 0 rfl) (by decide +kernel)) a_h0_0c hEX _ _ _ hP hD hS (lv_sub hl [0, 1, 2, 3, 4] rfl))
noncomputable def wd_c_X9_rewind (a0 : Nat) (a1 : Nat) (a2 : Int32) (a3 : Int32) (a4 : Int32) : va_W := [(a0, .inr (9, [.ref a1, .int a2, .int a3, .int a4]))]
noncomputable def wf_c_X9_rewind : List Cond := List.cons (.code yX9_rewind cX9_rewind 1 none) (@HAppend.hAppend (List Cond) (List Cond) (List Cond) _ [.fieldLink RX9 22 "BuoyVote$Tape" "at" "I", .fieldLink RX9 15 "BuoyVote$Tape" "wrong" "I"] wsX90)
theorem iw_c_X9_rewind_X9 : ∀ w ∈ wsX90, w ∈ wf_c_X9_rewind := fun w h => List.mem_cons_of_mem _ (List.mem_append_right _ h)
set_option maxHeartbeats 4000000 in
set_option maxRecDepth 100000 in
theorem c_X9_rewind (l : Launch) (dC : Nat → ClassId) (dI : Nat → Nat → Nat) (sz : Nat) (h0 : Nat) (h0_0 : Nat) (h0_f1 : Int32) (h0_f2 : Int32) (h0_f3 : Int32) (g_h0_f1 : RG h0_f1 0 240) (g_h0_f2 : RG h0_f2 0 240) (g_h0_f3 : RG h0_f3 (-1) 240) : Met l yX9_rewind wf_c_X9_rewind ({ frames := 0, cells := 0, slots := 0, locals := 0 }) (va_Pc [.ref h0] (fun U => U.heap.size = sz ∧ va_P (dC, dI) vwCl (wd_c_X9_rewind h0 h0_0 h0_f1 h0_f2 h0_f3) U.heap ∧ va_K (dC, dI) vwCl [] U ∧ va_D (fun _ => True) (wd_c_X9_rewind h0 h0_0 h0_f1 h0_f2 h0_f3))) (va_Qv (fun (u : Unit) => (True)) (fun (u : Unit) t => va_P (dC, dI) vwCl (wd_c_X9_rewind h0 h0_0 h0_f1 0 (-1)) t.heap ∧ va_K (dC, dI) vwCl [] t ∧ va_D (va_A (wd_c_X9_rewind h0 h0_0 h0_f1 h0_f2 h0_f3) sz) (wd_c_X9_rewind h0 h0_0 h0_f1 0 (-1))) (va_A (wd_c_X9_rewind h0 h0_0 h0_f1 h0_f2 h0_f3) sz)) 0 0 (va_A (wd_c_X9_rewind h0 h0_0 h0_f1 h0_f2 h0_f3) sz) := by
  refine Met.ofW (cc := cX9_rewind) (maxL := 1) (ret := none) (by decide +kernel) rfl ?_
  intro p e s m args below meth c s₁ B hml hv
  obtain ⟨rfl, hsz, hP, hK, hD0⟩ := hv
  have hx := B.exec
  have hb := B.bytes
  have hr := B.returns
  have hts := atoms_spec (ws := wf_c_X9_rewind) B.pre
  have hown : s.vm.findClass RX9 = some m.cls := findClass_of_methodNamed B.named
  have hlocks := B.notSynchronized
  subst hsz
  have hD := hD0.self (sz := s.heap.size)
  generalize hAe : va_A (wd_c_X9_rewind h0 h0_0 h0_f1 h0_f2 h0_f3) s.heap.size = A at hD ⊢
  have hA : ∀ q : Nat, s.heap.size ≤ q → A q := fun q h => by rw [← hAe]; exact Or.inr h
  have hP : va_P (dC, dI) vwCl (wd_c_X9_rewind h0 h0_0 h0_f1 h0_f2 h0_f3) s.heap := hP
  have hl := lv_entry ([.ref h0]) (n := 1) (Nat.le_of_ble_eq_true rfl)
  rw [lg_entry_eq]
  generalize (lg_sl ([.ref h0]) ++ List.replicate (1 - (lg_sl ([.ref h0])).length) Slot.unset).toArray = ls at hl ⊢
  have hl : lv_has ls 1 [(0, .ref h0)] := hl
  obtain ⟨H, hHe⟩ : ∃ H : Heap, s.heap = H := ⟨_, rfl⟩
  have hS : va_S A s.heap H [] := by rw [hHe]; exact va_S.rf
  have hP : va_P (dC, dI) vwCl (wd_c_X9_rewind h0 h0_0 h0_f1 h0_f2 h0_f3) H := by rw [← hHe]; exact hP
  rw [hHe]
  refine lv_aload_n hx hb dX9_rewind_0 rfl (lv_at hl 0 rfl) ?_
  as_aux_lemma =>
  refine lv_iconst (v := 0) hx hb dX9_rewind_1 kc_iconst_0 ?_
  refine va_put (D := (dC, dI)) (ci := 9) (v := .int 0) (ty := .int) (C := RX9) (T := TX9) (N := 4) hx hb hts iw_c_X9_rewind_X9 tyX9 tyX9_ok nmX9 hown hK hP hD hS 0 rfl rfl 2 (by decide +kernel) (hts (.fieldLink RX9 22 "BuoyVote$Tape" "at" "I") (List.mem_of_getElem? (i := 1) rfl)) (fun _ h9 => h9) rfl (by decide +kernel) rfl rfl (Nat.le_of_ble_eq_true rfl) dX9_rewind_2 (fun H locs hP hD hS => ?_)
  have hP : va_P (dC, dI) vwCl (wd_c_X9_rewind h0 h0_0 h0_f1 0 h0_f3) H := hP
  have hD : va_D A (wd_c_X9_rewind h0 h0_0 h0_f1 0 h0_f3) := hD
  refine lv_aload_n hx hb dX9_rewind_5 rfl (lv_at hl 0 rfl) ?_
  refine lv_iconst (v := (-1)) hx hb dX9_rewind_6 kc_iconst_m1 ?_
  refine va_put (D := (dC, dI)) (ci := 9) (v := .int (-1)) (ty := .int) (C := RX9) (T := TX9) (N := 4) hx hb hts iw_c_X9_rewind_X9 tyX9 tyX9_ok nmX9 hown hK hP hD hS 0 rfl rfl 3 (by decide +kernel) (hts (.fieldLink RX9 15 "BuoyVote$Tape" "wrong" "I") (List.mem_of_getElem? (i := 2) rfl)) (fun _ h9 => h9) rfl (by decide +kernel) rfl rfl (Nat.le_of_ble_eq_true rfl) dX9_rewind_7 (fun H locs hP hD hS => ?_)
  have hP : va_P (dC, dI) vwCl (wd_c_X9_rewind h0 h0_0 h0_f1 0 (-1)) H := hP
  have hD : va_D A (wd_c_X9_rewind h0 h0_0 h0_f1 0 (-1)) := hD
  have hK9 := hK.sub (tys' := []) [] rfl
  exact W.vret hx hb hr (fun t ht hW => ⟨⟨(), rfl, trivial, by rw [ht]; exact hP, va_K.moved hW.alike hK9, hD⟩, hS.F ht⟩) hS.2.2 dX9_rewind_10
noncomputable def wd_c_X9_peek (a0 : Nat) (a1 : Nat) (a2 : Int32) (a3 : Int32) (a4 : Int32) (a5 : Nat) (a6 : ClassId) (a7 : Nat → Int32) : va_W := [(a0, .inr (9, [.ref a1, .int a2, .int a3, .int a4])), (a5, .inl (a6, 240, .inl a7))]
noncomputable def wf_c_X9_peek : List Cond := List.cons (.code yX9_peek cX9_peek 1 (some .int)) (@HAppend.hAppend (List Cond) (List Cond) (List Cond) _ [.fieldLink RX9 22 "BuoyVote$Tape" "at" "I", .fieldLink RX9 19 "BuoyVote$Tape" "length" "I", .fieldLink RX9 11 "BuoyVote$Tape" "bytes" "[I"] wsX90)
theorem iw_c_X9_peek_X9 : ∀ w ∈ wsX90, w ∈ wf_c_X9_peek := fun w h => List.mem_cons_of_mem _ (List.mem_append_right _ h)
set_option maxHeartbeats 4000000 in
set_option maxRecDepth 100000 in
theorem c_X9_peek (l : Launch) (dC : Nat → ClassId) (dI : Nat → Nat → Nat) (sz : Nat) (h0 : Nat) (h0_0 : Nat) (h0_f1 : Int32) (h0_f2 : Int32) (h0_f3 : Int32) (h0_0k : ClassId) (h0_0c : Nat → Int32) (g_h0_f1 : RG h0_f1 0 240) (g_h0_f2 : RG h0_f2 0 240) (g_h0_f3 : RG h0_f3 (-1) 240) (a_h0_0c : AI h0_0c 0 255) : Met l yX9_peek wf_c_X9_peek ({ frames := 0, cells := 0, slots := 0, locals := 0 }) (va_Pc [.ref h0] (fun U => U.heap.size = sz ∧ va_P (dC, dI) vwCl (wd_c_X9_peek h0 h0_0 h0_f1 h0_f2 h0_f3 h0_0 h0_0k h0_0c) U.heap ∧ va_K (dC, dI) vwCl [(h0_0k, .int)] U ∧ va_D (fun _ => True) (wd_c_X9_peek h0 h0_0 h0_f1 h0_f2 h0_f3 h0_0 h0_0k h0_0c))) (va_Qi (fun (r : Int32) (u : (Int32)) => (r = (-1) ∧ RG u 0 240 ∧ h0_f2.toInt + 0 ≤ (u).toInt ∧ (r, u) = fx_c_X9_peek h0_f1 h0_f2 h0_0c) ∨ (RG r 0 255 ∧ RG u 0 239 ∧ RG h0_f1 1 240 ∧ h0_f2.toInt + 0 ≤ (u).toInt ∧ (r, u) = fx_c_X9_peek h0_f1 h0_f2 h0_0c)) (fun (u : (Int32)) t => va_P (dC, dI) vwCl (wd_c_X9_peek h0 h0_0 h0_f1 u h0_f3 h0_0 h0_0k h0_0c) t.heap ∧ va_K (dC, dI) vwCl [] t ∧ va_D (va_A (wd_c_X9_peek h0 h0_0 h0_f1 h0_f2 h0_f3 h0_0 h0_0k h0_0c) sz) (wd_c_X9_peek h0 h0_0 h0_f1 u h0_f3 h0_0 h0_0k h0_0c)) (va_A (wd_c_X9_peek h0 h0_0 h0_f1 h0_f2 h0_f3 h0_0 h0_0k h0_0c) sz)) 0 0 (va_A (wd_c_X9_peek h0 h0_0 h0_f1 h0_f2 h0_f3 h0_0 h0_0k h0_0c) sz) := by
  refine Met.ofW (cc := cX9_peek) (maxL := 1) (ret := (some .int)) (by decide +kernel) rfl ?_
  intro p e s m args below meth c s₁ B hml hv
  obtain ⟨rfl, hsz, hP, hK, hD0⟩ := hv
  have hx := B.exec
  have hb := B.bytes
  have hr := B.returns
  have hts := atoms_spec (ws := wf_c_X9_peek) B.pre
  have hown : s.vm.findClass RX9 = some m.cls := findClass_of_methodNamed B.named
  have hlocks := B.notSynchronized
  subst hsz
  have hD := hD0.self (sz := s.heap.size)
  generalize hAe : va_A (wd_c_X9_peek h0 h0_0 h0_f1 h0_f2 h0_f3 h0_0 h0_0k h0_0c) s.heap.size = A at hD ⊢
  have hA : ∀ q : Nat, s.heap.size ≤ q → A q := fun q h => by rw [← hAe]; exact Or.inr h
  have hP : va_P (dC, dI) vwCl (wd_c_X9_peek h0 h0_0 h0_f1 h0_f2 h0_f3 h0_0 h0_0k h0_0c) s.heap := hP
  have hl := lv_entry ([.ref h0]) (n := 1) (Nat.le_of_ble_eq_true rfl)
  rw [lg_entry_eq]
  generalize (lg_sl ([.ref h0]) ++ List.replicate (1 - (lg_sl ([.ref h0])).length) Slot.unset).toArray = ls at hl ⊢
  have hl : lv_has ls 1 [(0, .ref h0)] := hl
  obtain ⟨H, hHe⟩ : ∃ H : Heap, s.heap = H := ⟨_, rfl⟩
  have hS : va_S A s.heap H [] := by rw [hHe]; exact va_S.rf
  have hP : va_P (dC, dI) vwCl (wd_c_X9_peek h0 h0_0 h0_f1 h0_f2 h0_f3 h0_0 h0_0k h0_0c) H := by rw [← hHe]; exact hP
  rw [hHe]
  obtain ⟨RES, hR⟩ : ∃ z, fx_c_X9_peek h0_f1 h0_f2 h0_0c = z := ⟨_, rfl⟩
  have hEX : RES = fx_c_X9_peek h0_f1 h0_f2 h0_0c := hR.symm
  refine wj (fun G hG hU => ?_)
  as_aux_lemma =>
  have J38 : ∀ (j38_h0_f2 : Int32) (g_h0_f1 : RG h0_f1 0 240) (g_h0_f2 : RG h0_f2 0 240) (g_h0_f3 : RG h0_f3 (-1) 240) (g_j38_h0_f2 : RG j38_h0_f2 0 240) (r_h0_f2_j38_h0_f2 : h0_f2.toInt + 0 ≤ j38_h0_f2.toInt) (hEX : RES = fx_c_X9_peek_p38 h0_f1 h0_0c j38_h0_f2) (H : Heap) (locs : List Loc) (ls : Array Slot) (hP : va_P (dC, dI) vwCl (wd_c_X9_peek h0 h0_0 h0_f1 j38_h0_f2 h0_f3 h0_0 h0_0k h0_0c) H) (hD : va_D A (wd_c_X9_peek h0 h0_0 h0_f1 j38_h0_f2 h0_f3 h0_0 h0_0k h0_0c)) (hS : va_S A s.heap H locs) (hl : lv_has ls 1 [(0, .ref h0)]), G H locs (F0 m 38 ls []) := by
    as_aux_lemma =>
    intro j38_h0_f2 g_h0_f1 g_h0_f2 g_h0_f3 g_j38_h0_f2 r_h0_f2_j38_h0_f2 hEX H locs ls hP hD hS hl
    refine hG _ _ _ ?_
    refine lv_aload_n hx hb dX9_peek_38 rfl (lv_at hl 0 rfl) ?_
    refine va_get (D := (dC, dI)) (ci := 9) (v := .int j38_h0_f2) (C := RX9) (T := TX9) (N := 4) hx hb hts iw_c_X9_peek_X9 hown hK hP 0 rfl rfl 2 (by decide +kernel) (hts (.fieldLink RX9 22 "BuoyVote$Tape" "at" "I") (List.mem_of_getElem? (i := 1) rfl)) (fun _ h9 => h9) rfl dX9_peek_39 ?_
    refine lv_aload_n hx hb dX9_peek_42 rfl (lv_at hl 0 rfl) ?_
    refine va_get (D := (dC, dI)) (ci := 9) (v := .int h0_f1) (C := RX9) (T := TX9) (N := 4) hx hb hts iw_c_X9_peek_X9 hown hK hP 0 rfl rfl 1 (by decide +kernel) (hts (.fieldLink RX9 19 "BuoyVote$Tape" "length" "I") (List.mem_of_getElem? (i := 2) rfl)) (fun _ h9 => h9) rfl dX9_peek_43 ?_
    refine lv_icmp_ge (tgt := 61) hx hb dX9_peek_46 rfl (fun c_1 => ?_) (fun c_1 => ?_)
    · replace hEX := hEX.trans (if_pos c_1)
      refine lv_iconst (v := (-1)) hx hb dX9_peek_61 kc_iconst_m1 ?_
      have hK9 := hK.sub (tys' := []) [] rfl
      exact W.iret (v := (-1)) hx hb hr (fun t ht hW => ⟨⟨(-1), j38_h0_f2, rfl, (Or.inl ⟨rfl, g_j38_h0_f2, (by have := r_h0_f2_j38_h0_f2; show h0_f2.toInt + 0 ≤ j38_h0_f2.toInt; omega), (hR.trans hEX).symm⟩), by rw [ht]; exact hP, va_K.moved hW.alike hK9, hD⟩, hS.F ht⟩) hS.2.2 dX9_peek_62
    · replace hEX := hEX.trans (if_neg c_1)
      have d_2 := Int32.not_le.mp c_1
      have g_3 : RG j38_h0_f2 0 239 := RG_lt1 g_j38_h0_f2 g_h0_f1 d_2 (by decide +kernel)
      have g_4 : RG h0_f1 1 240 := RG_lt2 g_j38_h0_f2 g_h0_f1 d_2 (by decide +kernel)
      refine lv_aload_n hx hb dX9_peek_49 rfl (lv_at hl 0 rfl) ?_
      as_aux_lemma =>
      refine va_get (D := (dC, dI)) (ci := 9) (v := .ref h0_0) (C := RX9) (T := TX9) (N := 4) hx hb hts iw_c_X9_peek_X9 hown hK hP 0 rfl rfl 0 (by decide +kernel) (hts (.fieldLink RX9 11 "BuoyVote$Tape" "bytes" "[I") (List.mem_of_getElem? (i := 3) rfl)) (fun _ h9 => h9) rfl dX9_peek_50 ?_
      refine lv_aload_n hx hb dX9_peek_53 rfl (lv_at hl 0 rfl) ?_
      refine va_get (D := (dC, dI)) (ci := 9) (v := .int j38_h0_f2) (C := RX9) (T := TX9) (N := 4) hx hb hts iw_c_X9_peek_X9 hown hK hP 0 rfl rfl 2 (by decide +kernel) (hts (.fieldLink RX9 22 "BuoyVote$Tape" "at" "I") (List.mem_of_getElem? (i := 1) rfl)) (fun _ h9 => h9) rfl dX9_peek_54 ?_
      refine va_iald hx hb hK hP 1 0 rfl rfl (RG_in g_3 (by decide +kernel)) dX9_peek_57 ?_
      refine lv_topi (fun x_5 ex_5 => ?_)
      replace hEX := hEX.trans (exl_eq ex_5)
      have g_6 : RG x_5 0 255 := AI_rd a_h0_0c ex_5
      refine lv_goto (tgt := 62) hx hb dX9_peek_58 rfl ?_
      have hK9 := hK.sub (tys' := []) [] rfl
      exact W.iret (v := x_5) hx hb hr (fun t ht hW => ⟨⟨x_5, j38_h0_f2, rfl, (Or.inr ⟨g_6, g_3, g_4, (by have := r_h0_f2_j38_h0_f2; show h0_f2.toInt + 0 ≤ j38_h0_f2.toInt; omega), (hR.trans hEX).symm⟩), by rw [ht]; exact hP, va_K.moved hW.alike hK9, hD⟩, hS.F ht⟩) hS.2.2 dX9_peek_62
  have J0 : ∀ (n0 : Nat) (j0_h0_f2 : Int32) (hM0 : MU j0_h0_f2 < n0) (g_h0_f1 : RG h0_f1 0 240) (g_h0_f2 : RG h0_f2 0 240) (g_h0_f3 : RG h0_f3 (-1) 240) (g_j0_h0_f2 : RG j0_h0_f2 0 240) (r_h0_f2_j0_h0_f2 : h0_f2.toInt + 0 ≤ j0_h0_f2.toInt) (hEX : RES = fx_c_X9_peek_p0 h0_f1 h0_0c n0 j0_h0_f2) (H : Heap) (locs : List Loc) (ls : Array Slot) (hP : va_P (dC, dI) vwCl (wd_c_X9_peek h0 h0_0 h0_f1 j0_h0_f2 h0_f3 h0_0 h0_0k h0_0c) H) (hD : va_D A (wd_c_X9_peek h0 h0_0 h0_f1 j0_h0_f2 h0_f3 h0_0 h0_0k h0_0c)) (hS : va_S A s.heap H locs) (hl : lv_has ls 1 [(0, .ref h0)]), G H locs (F0 m 0 ls []) := by
    as_aux_lemma =>
    intro n0
    induction n0 with
    | zero => intros; exact absurd (by assumption) (Nat.not_lt_zero _)
    | succ n0 ih0 =>
      intro j0_h0_f2 hM0 g_h0_f1 g_h0_f2 g_h0_f3 g_j0_h0_f2 r_h0_f2_j0_h0_f2 hEX H locs ls hP hD hS hl
      refine hG _ _ _ ?_
      replace hEX := hEX.trans (if_pos (rfl : j0_h0_f2 = j0_h0_f2))
      refine lv_aload_n hx hb dX9_peek_0 rfl (lv_at hl 0 rfl) ?_
      refine va_get (D := (dC, dI)) (ci := 9) (v := .int j0_h0_f2) (C := RX9) (T := TX9) (N := 4) hx hb hts iw_c_X9_peek_X9 hown hK hP 0 rfl rfl 2 (by decide +kernel) (hts (.fieldLink RX9 22 "BuoyVote$Tape" "at" "I") (List.mem_of_getElem? (i := 1) rfl)) (fun _ h9 => h9) rfl dX9_peek_1 ?_
      refine lv_aload_n hx hb dX9_peek_4 rfl (lv_at hl 0 rfl) ?_
      refine va_get (D := (dC, dI)) (ci := 9) (v := .int h0_f1) (C := RX9) (T := TX9) (N := 4) hx hb hts iw_c_X9_peek_X9 hown hK hP 0 rfl rfl 1 (by decide +kernel) (hts (.fieldLink RX9 19 "BuoyVote$Tape" "length" "I") (List.mem_of_getElem? (i := 2) rfl)) (fun _ h9 => h9) rfl dX9_peek_5 ?_
      refine lv_icmp_ge (tgt := 38) hx hb dX9_peek_8 rfl (fun c_7 => ?_) (fun c_7 => ?_)
      · replace hEX := hEX.trans (if_pos c_7)
        exact hU _ _ _ (J38 j0_h0_f2 g_h0_f1 g_h0_f2 g_h0_f3 g_j0_h0_f2 (by have := r_h0_f2_j0_h0_f2; omega) hEX _ _ _ hP hD hS (lv_sub hl [0] rfl))
      · replace hEX := hEX.trans (if_neg c_7)
        have d_8 := Int32.not_le.mp c_7
        have g_9 : RG j0_h0_f2 0 239 := RG_lt1 g_j0_h0_f2 g_h0_f1 d_8 (by decide +kernel)
        have g_10 : RG h0_f1 1 240 := RG_lt2 g_j0_h0_f2 g_h0_f1 d_8 (by decide +kernel)
        refine lv_aload_n hx hb dX9_peek_11 rfl (lv_at hl 0 rfl) ?_
        as_aux_lemma =>
        refine va_get (D := (dC, dI)) (ci := 9) (v := .ref h0_0) (C := RX9) (T := TX9) (N := 4) hx hb hts iw_c_X9_peek_X9 hown hK hP 0 rfl rfl 0 (by decide +kernel) (hts (.fieldLink RX9 11 "BuoyVote$Tape" "bytes" "[I") (List.mem_of_getElem? (i := 3) rfl)) (fun _ h9 => h9) rfl dX9_peek_12 ?_
        refine lv_aload_n hx hb dX9_peek_15 rfl (lv_at hl 0 rfl) ?_
        refine va_get (D := (dC, dI)) (ci := 9) (v := .int j0_h0_f2) (C := RX9) (T := TX9) (N := 4) hx hb hts iw_c_X9_peek_X9 hown hK hP 0 rfl rfl 2 (by decide +kernel) (hts (.fieldLink RX9 22 "BuoyVote$Tape" "at" "I") (List.mem_of_getElem? (i := 1) rfl)) (fun _ h9 => h9) rfl dX9_peek_16 ?_
        refine va_iald hx hb hK hP 1 0 rfl rfl (RG_in g_9 (by decide +kernel)) dX9_peek_19 ?_
        refine lv_topi (fun x_11 ex_11 => ?_)
        replace hEX := hEX.trans (exl_eq ex_11)
        have g_12 : RG x_11 0 255 := AI_rd a_h0_0c ex_11
        refine lv_bipush (v := 32) hx hb dX9_peek_20 kc_bipush_32 ?_
        refine lv_icmp_ne (tgt := 38) hx hb dX9_peek_22 rfl (fun c_13 => ?_) (fun c_13 => ?_)
        · replace hEX := hEX.trans (if_neg c_13)
          exact hU _ _ _ (J38 j0_h0_f2 (RG_w g_10 (by decide +kernel)) g_h0_f2 g_h0_f3 (RG_w g_9 (by decide +kernel)) (by have := r_h0_f2_j0_h0_f2; omega) hEX _ _ _ hP hD hS (lv_sub hl [0] rfl))
        · replace hEX := hEX.trans (if_pos c_13)
          have g_14 : RG x_11 32 32 := RG_eq1 g_12 (RG_k 32 32 rfl) c_13 (by decide +kernel)
          refine lv_aload_n hx hb dX9_peek_25 rfl (lv_at hl 0 rfl) ?_
          as_aux_lemma =>
          refine lv_dup hx hb dX9_peek_26 rfl ?_
          refine va_get (D := (dC, dI)) (ci := 9) (v := .int j0_h0_f2) (C := RX9) (T := TX9) (N := 4) hx hb hts iw_c_X9_peek_X9 hown hK hP 0 rfl rfl 2 (by decide +kernel) (hts (.fieldLink RX9 22 "BuoyVote$Tape" "at" "I") (List.mem_of_getElem? (i := 1) rfl)) (fun _ h9 => h9) rfl dX9_peek_27 ?_
          refine lv_iconst (v := 1) hx hb dX9_peek_30 kc_iconst_1 ?_
          refine lv_iadd hx hb dX9_peek_31 ?_
          refine lv_topi (fun x_15 ex_15 => ?_)
          replace hEX := hEX.trans (exl_eq ex_15)
          have g_16 : RG x_15 1 240 := RG_add ex_15 g_9 (RG_k 1 1 rfl) (by decide +kernel)
          have q_17 : x_15.toInt = j0_h0_f2.toInt + 1 := eq_add ex_15 g_9 (q := 1) rfl (by decide +kernel)
          refine va_put (D := (dC, dI)) (ci := 9) (v := .int x_15) (ty := .int) (C := RX9) (T := TX9) (N := 4) hx hb hts iw_c_X9_peek_X9 tyX9 tyX9_ok nmX9 hown hK hP hD hS 0 rfl rfl 2 (by decide +kernel) (hts (.fieldLink RX9 22 "BuoyVote$Tape" "at" "I") (List.mem_of_getElem? (i := 1) rfl)) (fun _ h9 => h9) rfl (by decide +kernel) rfl rfl (Nat.le_of_ble_eq_true rfl) dX9_peek_32 (fun H locs hP hD hS => ?_)
          have hP : va_P (dC, dI) vwCl (wd_c_X9_peek h0 h0_0 h0_f1 x_15 h0_f3 h0_0 h0_0k h0_0c) H := hP
          have hD : va_D A (wd_c_X9_peek h0 h0_0 h0_f1 x_15 h0_f3 h0_0 h0_0k h0_0c) := hD
          refine lv_goto (tgt := 0) hx hb dX9_peek_35 rfl ?_
          exact hU _ _ _ (ih0 x_15 (mu_s (MU_add ex_15 g_9 (q := 1) rfl (by decide +kernel)) hM0) (RG_w g_10 (by decide +kernel)) g_h0_f2 g_h0_f3 (RG_w g_16 (by decide +kernel)) (by have := r_h0_f2_j0_h0_f2; have := q_17; omega) hEX _ _ _ hP hD hS (lv_sub hl [0] rfl))
  refine hG _ _ _ ?_
  as_aux_lemma =>
  exact hU _ _ _ (J0 exF h0_f2 MU_F g_h0_f1 g_h0_f2 g_h0_f3 g_h0_f2 (by omega) hEX _ _ _ hP hD hS (lv_sub hl [0] rfl))
noncomputable def wf_c_X0_placeIn : List Cond := .code yX0_placeIn cX0_placeIn 2 (some .int) :: ([])
set_option maxHeartbeats 4000000 in
set_option maxRecDepth 100000 in
theorem c_X0_placeIn (l : Launch) (dC : Nat → ClassId) (dI : Nat → Nat → Nat) (sz : Nat) (ts0 : Nat) (p1 : Int32) (g_p1 : RG p1 (-1) (-1)) : Met l yX0_placeIn wf_c_X0_placeIn ({ frames := 0, cells := 0, slots := 0, locals := 0 }) (va_Pc [.ref ts0, .int p1] (fun U => U.heap.size = sz ∧ va_P (dC, dI) vwCl [] U.heap ∧ va_K (dC, dI) vwCl [] U ∧ va_D (fun _ => True) [])) (va_Qi (fun (r : Int32) (u : Unit) => (r = (-1) ∧ r = fx_c_X0_placeIn p1)) (fun (u : Unit) t => va_P (dC, dI) vwCl [] t.heap ∧ va_K (dC, dI) vwCl [] t ∧ va_D (va_A [] sz) []) (va_A [] sz)) 0 0 (va_A [] sz) := by
  refine Met.ofW (cc := cX0_placeIn) (maxL := 2) (ret := (some .int)) (by decide +kernel) rfl ?_
  intro p e s m args below meth c s₁ B hml hv
  obtain ⟨rfl, hsz, hP, hK, hD0⟩ := hv
  have hx := B.exec
  have hb := B.bytes
  have hr := B.returns
  have hts := atoms_spec (ws := wf_c_X0_placeIn) B.pre
  have hown : s.vm.findClass RX0 = some m.cls := findClass_of_methodNamed B.named
  have hlocks := B.notSynchronized
  subst hsz
  have hD := hD0.self (sz := s.heap.size)
  generalize hAe : va_A [] s.heap.size = A at hD ⊢
  have hA : ∀ q : Nat, s.heap.size ≤ q → A q := fun q h => by rw [← hAe]; exact Or.inr h
  have hP : va_P (dC, dI) vwCl [] s.heap := hP
  have hl := lv_entry ([.ref ts0, .int p1]) (n := 2) (Nat.le_of_ble_eq_true rfl)
  rw [lg_entry_eq]
  generalize (lg_sl ([.ref ts0, .int p1]) ++ List.replicate (2 - (lg_sl ([.ref ts0, .int p1])).length) Slot.unset).toArray = ls at hl ⊢
  have hl : lv_has ls 2 [(0, .ref ts0), (1, .int p1)] := hl
  obtain ⟨H, hHe⟩ : ∃ H : Heap, s.heap = H := ⟨_, rfl⟩
  have hS : va_S A s.heap H [] := by rw [hHe]; exact va_S.rf
  have hP : va_P (dC, dI) vwCl [] H := by rw [← hHe]; exact hP
  rw [hHe]
  obtain ⟨RES, hR⟩ : ∃ z, fx_c_X0_placeIn p1 = z := ⟨_, rfl⟩
  have hEX : RES = fx_c_X0_placeIn p1 := hR.symm
  refine lv_iload_n hx hb dX0_placeIn_0 rfl (lv_at hl 1 rfl) ?_
  as_aux_lemma =>
  refine lv_if_ge (tgt := 8) hx hb dX0_placeIn_1 rfl (fun c_1 => ?_) (fun c_1 => ?_)
  · replace hEX := hEX.trans (if_pos c_1)
    exact RG_dead (RG_le1 (RG_k 0 0 rfl) g_p1 c_1 (b' := (-1)) (by decide +kernel)) (by decide +kernel)
  · replace hEX := hEX.trans (if_neg c_1)
    have d_2 := Int32.not_le.mp c_1
    refine lv_iconst (v := (-1)) hx hb dX0_placeIn_4 kc_iconst_m1 ?_
    refine lv_goto (tgt := 14) hx hb dX0_placeIn_5 rfl ?_
    have hK9 := hK.sub (tys' := []) [] rfl
    exact W.iret (v := (-1)) hx hb hr (fun t ht hW => ⟨⟨(-1), (), rfl, ⟨rfl, (hR.trans hEX).symm⟩, by rw [ht]; exact hP, va_K.moved hW.alike hK9, hD⟩, hS.F ht⟩) hS.2.2 dX0_placeIn_14
noncomputable def wf_c_J0_isLatin1_aae02 : List Cond := .code yJ0_isLatin1_aae02 cJ0_isLatin1_aae02 1 (some .boolean) :: ([.fieldLink RJ0 38 "java/lang/String" "COMPACT_STRINGS" "Z", .fieldLink RJ0 15 "java/lang/String" "coder" "B"])
set_option maxHeartbeats 4000000 in
set_option maxRecDepth 100000 in
theorem c_J0_isLatin1_aae02 (l : Launch) (dC : Nat → ClassId) (dI : Nat → Nat → Nat) (sz : Nat) (ts0 : Nat) : Met l yJ0_isLatin1_aae02 wf_c_J0_isLatin1_aae02 ({ frames := 0, cells := 0, slots := 0, locals := 0 }) (va_Pc [.ref ts0] (fun U => U.heap.size = sz ∧ va_P (dC, dI) vwCl [] U.heap ∧ va_K (dC, dI) vwCl [] U ∧ va_D (fun _ => True) [] ∧ va_Z "java/lang/String" "COMPACT_STRINGS" "Z" (.int 1) (va_A [] sz) U U.heap ∧ va_OF "java/lang/String" "coder" "B" (.int 0) ts0 (va_A [] sz) U U.heap)) (va_Qi (fun (r : Int32) (u : Unit) => (r = 1 ∧ r = fx_c_J0_isLatin1_aae02)) (fun (u : Unit) t => va_P (dC, dI) vwCl [] t.heap ∧ va_K (dC, dI) vwCl [] t ∧ va_D (va_A [] sz) []) (va_A [] sz)) 0 0 (va_A [] sz) := by
  refine Met.ofW (cc := cJ0_isLatin1_aae02) (maxL := 1) (ret := (some .boolean)) (by decide +kernel) rfl ?_
  intro p e s m args below meth c s₁ B hml hv
  obtain ⟨rfl, hsz, hP, hK, hD0, hE_10, hE_14⟩ := hv
  have hx := B.exec
  have hb := B.bytes
  have hr := B.returns
  have hts := atoms_spec (ws := wf_c_J0_isLatin1_aae02) B.pre
  have hown : s.vm.findClass RJ0 = some m.cls := findClass_of_methodNamed B.named
  have hlocks := B.notSynchronized
  subst hsz
  have hD := hD0.self (sz := s.heap.size)
  generalize hAe : va_A [] s.heap.size = A at hD hE_10 hE_14 ⊢
  have hA : ∀ q : Nat, s.heap.size ≤ q → A q := fun q h => by rw [← hAe]; exact Or.inr h
  have hP : va_P (dC, dI) vwCl [] s.heap := hP
  have hl := lv_entry ([.ref ts0]) (n := 1) (Nat.le_of_ble_eq_true rfl)
  rw [lg_entry_eq]
  generalize (lg_sl ([.ref ts0]) ++ List.replicate (1 - (lg_sl ([.ref ts0])).length) Slot.unset).toArray = ls at hl ⊢
  have hl : lv_has ls 1 [(0, .ref ts0)] := hl
  obtain ⟨H, hHe⟩ : ∃ H : Heap, s.heap = H := ⟨_, rfl⟩
  have hS : va_S A s.heap H [] := by rw [hHe]; exact va_S.rf
  have hP : va_P (dC, dI) vwCl [] H := by rw [← hHe]; exact hP
  rw [hHe]
  obtain ⟨RES, hR⟩ : ∃ z, fx_c_J0_isLatin1_aae02 = z := ⟨_, rfl⟩
  have hEX : RES = fx_c_J0_isLatin1_aae02 := hR.symm
  refine va_gets hx hb hE_10 hS hown (hts (.fieldLink RJ0 38 "java/lang/String" "COMPACT_STRINGS" "Z") (List.mem_of_getElem? (i := 1) rfl)) (fun _ h9 => h9) dJ0_isLatin1_aae02_0 ?_
  as_aux_lemma =>
  refine lv_if_eq (tgt := 17) hx hb dJ0_isLatin1_aae02_3 rfl (fun c_1 => absurd c_1 (by decide +kernel)) (fun c_1 => ?_)
  refine lv_aload_n hx hb dJ0_isLatin1_aae02_6 rfl (lv_at hl 0 rfl) ?_
  refine vk_getf hx hb hE_14 hS hown (hts (.fieldLink RJ0 15 "java/lang/String" "coder" "B") (List.mem_of_getElem? (i := 2) rfl)) (fun _ h9 => h9) dJ0_isLatin1_aae02_7 ?_
  refine lv_if_ne (tgt := 17) hx hb dJ0_isLatin1_aae02_10 rfl (fun c_2 => absurd c_2 (by decide +kernel)) (fun c_2 => ?_)
  refine lv_iconst (v := 1) hx hb dJ0_isLatin1_aae02_13 kc_iconst_1 ?_
  refine lv_goto (tgt := 18) hx hb dJ0_isLatin1_aae02_14 rfl ?_
  have hK9 := hK.sub (tys' := []) [] rfl
  exact W.zret (v := 1) hx hb hr rfl (fun t ht hW => ⟨⟨1, (), rfl, ⟨rfl, (hR.trans hEX).symm⟩, by rw [ht]; exact hP, va_K.moved hW.alike hK9, hD⟩, hS.F ht⟩) hS.2.2 dJ0_isLatin1_aae02_18
noncomputable def wf_c_J0_coder_7d493_1 : List Cond := .code yJ0_coder_7d493 cJ0_coder_7d493 1 (some .byte) :: ([.fieldLink RJ0 38 "java/lang/String" "COMPACT_STRINGS" "Z", .fieldLink RJ0 15 "java/lang/String" "coder" "B"])
set_option maxHeartbeats 4000000 in
set_option maxRecDepth 100000 in
theorem c_J0_coder_7d493_1 (l : Launch) (dC : Nat → ClassId) (dI : Nat → Nat → Nat) (sz : Nat) (ts0 : Nat) : Met l yJ0_coder_7d493 wf_c_J0_coder_7d493_1 ({ frames := 0, cells := 0, slots := 0, locals := 0 }) (va_Pc [.ref ts0] (fun U => U.heap.size = sz ∧ va_P (dC, dI) vwCl [] U.heap ∧ va_K (dC, dI) vwCl [] U ∧ va_D (fun _ => True) [] ∧ va_Z "java/lang/String" "COMPACT_STRINGS" "Z" (.int 1) (va_A [] sz) U U.heap ∧ va_OF "java/lang/String" "coder" "B" (.int 0) ts0 (va_A [] sz) U U.heap)) (va_Qi (fun (r : Int32) (u : Unit) => (r = 0 ∧ r = fx_c_J0_coder_7d493_1)) (fun (u : Unit) t => va_P (dC, dI) vwCl [] t.heap ∧ va_K (dC, dI) vwCl [] t ∧ va_D (va_A [] sz) []) (va_A [] sz)) 0 0 (va_A [] sz) := by
  refine Met.ofW (cc := cJ0_coder_7d493) (maxL := 1) (ret := (some .byte)) (by decide +kernel) rfl ?_
  intro p e s m args below meth c s₁ B hml hv
  obtain ⟨rfl, hsz, hP, hK, hD0, hE_10, hE_14⟩ := hv
  have hx := B.exec
  have hb := B.bytes
  have hr := B.returns
  have hts := atoms_spec (ws := wf_c_J0_coder_7d493_1) B.pre
  have hown : s.vm.findClass RJ0 = some m.cls := findClass_of_methodNamed B.named
  have hlocks := B.notSynchronized
  subst hsz
  have hD := hD0.self (sz := s.heap.size)
  generalize hAe : va_A [] s.heap.size = A at hD hE_10 hE_14 ⊢
  have hA : ∀ q : Nat, s.heap.size ≤ q → A q := fun q h => by rw [← hAe]; exact Or.inr h
  have hP : va_P (dC, dI) vwCl [] s.heap := hP
  have hl := lv_entry ([.ref ts0]) (n := 1) (Nat.le_of_ble_eq_true rfl)
  rw [lg_entry_eq]
  generalize (lg_sl ([.ref ts0]) ++ List.replicate (1 - (lg_sl ([.ref ts0])).length) Slot.unset).toArray = ls at hl ⊢
  have hl : lv_has ls 1 [(0, .ref ts0)] := hl
  obtain ⟨H, hHe⟩ : ∃ H : Heap, s.heap = H := ⟨_, rfl⟩
  have hS : va_S A s.heap H [] := by rw [hHe]; exact va_S.rf
  have hP : va_P (dC, dI) vwCl [] H := by rw [← hHe]; exact hP
  rw [hHe]
  obtain ⟨RES, hR⟩ : ∃ z, fx_c_J0_coder_7d493_1 = z := ⟨_, rfl⟩
  have hEX : RES = fx_c_J0_coder_7d493_1 := hR.symm
  refine va_gets hx hb hE_10 hS hown (hts (.fieldLink RJ0 38 "java/lang/String" "COMPACT_STRINGS" "Z") (List.mem_of_getElem? (i := 1) rfl)) (fun _ h9 => h9) dJ0_coder_7d493_0 ?_
  as_aux_lemma =>
  refine lv_if_eq (tgt := 13) hx hb dJ0_coder_7d493_3 rfl (fun c_1 => absurd c_1 (by decide +kernel)) (fun c_1 => ?_)
  refine lv_aload_n hx hb dJ0_coder_7d493_6 rfl (lv_at hl 0 rfl) ?_
  refine vk_getf hx hb hE_14 hS hown (hts (.fieldLink RJ0 15 "java/lang/String" "coder" "B") (List.mem_of_getElem? (i := 2) rfl)) (fun _ h9 => h9) dJ0_coder_7d493_7 ?_
  refine lv_goto (tgt := 14) hx hb dJ0_coder_7d493_10 rfl ?_
  have hK9 := hK.sub (tys' := []) [] rfl
  exact W.zret (v := 0) hx hb hr rfl (fun t ht hW => ⟨⟨0, (), rfl, ⟨rfl, (hR.trans hEX).symm⟩, by rw [ht]; exact hP, va_K.moved hW.alike hK9, hD⟩, hS.F ht⟩) hS.2.2 dJ0_coder_7d493_14
noncomputable def wf_c_J0_length_8abf5_1 : List Cond := .code yJ0_length_8abf5 cJ0_length_8abf5 1 (some .int) :: ([.fieldLink RJ0 9 "java/lang/String" "value" "[B", .methodLink RJ0 335 yJ0_coder_7d493, .instanceMethod yJ0_coder_7d493, .selects RJ0 yJ0_coder_7d493 yJ0_coder_7d493, .initialized RJ0, .code yJ0_coder_7d493 cJ0_coder_7d493 1 (some .byte), .fieldLink RJ0 38 "java/lang/String" "COMPACT_STRINGS" "Z", .fieldLink RJ0 15 "java/lang/String" "coder" "B"])
set_option maxRecDepth 20000 in
theorem gf_c_J0_length_8abf5_1_c_J0_coder_7d493_1 : GoodIn wf_c_J0_length_8abf5_1 (wsV RJ0 335 RJ0 yJ0_coder_7d493 wf_c_J0_coder_7d493_1) := goodIn_app (gi_l [2, 3, 4, 5] rfl rfl) (gi_cons (j := 6) rfl rfl (gi_l [7, 8] rfl rfl))
set_option maxHeartbeats 4000000 in
set_option maxRecDepth 100000 in
theorem c_J0_length_8abf5_1 (l : Launch) (dC : Nat → ClassId) (dI : Nat → Nat → Nat) (sz : Nat) (ts0 : Nat) (tv0 : Nat) : Met l yJ0_length_8abf5 wf_c_J0_length_8abf5_1 ({ frames := 1, cells := 0, slots := 0, locals := 20 }) (va_Pc [.ref ts0] (fun U => U.heap.size = sz ∧ va_P (dC, dI) vwCl [] U.heap ∧ va_K (dC, dI) vwCl [] U ∧ va_D (fun _ => True) [] ∧ va_OF "java/lang/String" "value" "[B" (.ref tv0) ts0 (va_A [] sz) U U.heap ∧ va_T .byte tv0 3 (fun j => .int ([115, 98, 99].getD j 0)) (va_A [] sz) U U.heap ∧ va_Z "java/lang/String" "COMPACT_STRINGS" "Z" (.int 1) (va_A [] sz) U U.heap ∧ va_OF "java/lang/String" "coder" "B" (.int 0) ts0 (va_A [] sz) U U.heap ∧ va_O "java/lang/String" ts0 (va_A [] sz) U U.heap)) (va_Qi (fun (r : Int32) (u : Unit) => (r = 3 ∧ r = fx_c_J0_length_8abf5_1)) (fun (u : Unit) t => va_P (dC, dI) vwCl [] t.heap ∧ va_K (dC, dI) vwCl [] t ∧ va_D (va_A [] sz) []) (va_A [] sz)) 0 0 (va_A [] sz) := by
  refine Met.ofW (cc := cJ0_length_8abf5) (maxL := 1) (ret := (some .int)) (by decide +kernel) rfl ?_
  intro p e s m args below meth c s₁ B hml hv
  obtain ⟨rfl, hsz, hP, hK, hD0, hE_15, hE_16, hE_10, hE_14, hE_13⟩ := hv
  have hx := B.exec
  have hb := B.bytes
  have hr := B.returns
  have hts := atoms_spec (ws := wf_c_J0_length_8abf5_1) B.pre
  have hown : s.vm.findClass RJ0 = some m.cls := findClass_of_methodNamed B.named
  have hlocks := B.notSynchronized
  subst hsz
  have hD := hD0.self (sz := s.heap.size)
  generalize hAe : va_A [] s.heap.size = A at hD hE_15 hE_16 hE_10 hE_14 hE_13 ⊢
  have hA : ∀ q : Nat, s.heap.size ≤ q → A q := fun q h => by rw [← hAe]; exact Or.inr h
  have hP : va_P (dC, dI) vwCl [] s.heap := hP
  have hl := lv_entry ([.ref ts0]) (n := 1) (Nat.le_of_ble_eq_true rfl)
  rw [lg_entry_eq]
  generalize (lg_sl ([.ref ts0]) ++ List.replicate (1 - (lg_sl ([.ref ts0])).length) Slot.unset).toArray = ls at hl ⊢
  have hl : lv_has ls 1 [(0, .ref ts0)] := hl
  obtain ⟨H, hHe⟩ : ∃ H : Heap, s.heap = H := ⟨_, rfl⟩
  have hS : va_S A s.heap H [] := by rw [hHe]; exact va_S.rf
  have hP : va_P (dC, dI) vwCl [] H := by rw [← hHe]; exact hP
  rw [hHe]
  obtain ⟨RES, hR⟩ : ∃ z, fx_c_J0_length_8abf5_1 = z := ⟨_, rfl⟩
  have hEX : RES = fx_c_J0_length_8abf5_1 := hR.symm
  refine lv_aload_n hx hb dJ0_length_8abf5_0 rfl (lv_at hl 0 rfl) ?_
  as_aux_lemma =>
  refine vk_getf hx hb hE_15 hS hown (hts (.fieldLink RJ0 9 "java/lang/String" "value" "[B") (List.mem_of_getElem? (i := 1) rfl)) (fun _ h9 => h9) dJ0_length_8abf5_1 ?_
  refine va_tlen (v := 3) hx hb hE_16 hS rfl dJ0_length_8abf5_4 ?_
  refine lv_aload_n hx hb dJ0_length_8abf5_5 rfl (lv_at hl 0 rfl) ?_
  obtain ⟨hPc, hDc, hFc, hqc⟩ := cl_cut (wc := []) hP hD hS hA [] (by decide +kernel) rfl
  have hKc := hK.sub (tys' := []) [] rfl
  have hrv := bv_Orecv hE_13 hS
  refine va_calli (va_runV (As := []) (rest := [.int 3]) ⟨hx, hb, hml, hown, hts⟩ (c_J0_coder_7d493_1 l dC dI H.size ts0) (cwV 0 hts gf_c_J0_length_8abf5_1_c_J0_coder_7d493_1 rfl rfl rfl mdV_J0_coder_7d493 ⟨Nat.le_of_ble_eq_true rfl, Nat.le_of_ble_eq_true rfl⟩) ⟨fun a U g mk q => by obtain ⟨q0, q1, qP, qK, qD, qE0, qE1⟩ := q; exact ⟨q0, q1, qP, va_K.moved (u := U) (U := U.calling g mk a) (Vm.Alike.refl U.vm) qK, qD, va_Z.moved (u := U) (U := U.calling g mk a) (Vm.Alike.refl U.vm) qE0, va_OF.moved (u := U) (U := U.calling g mk a) (Vm.Alike.refl U.vm) qE1⟩, hrv, fun U hU hW => ⟨rfl, by rw [hU], by rw [hU]; exact hPc, va_K.moved hW.alike hKc, hDc.weaken (fun _ _ _ _ => trivial), va_Z.moved hW.alike (by rw [hU]; exact (hE_10.kept hS.2.1).narrow hFc), va_OF.moved hW.alike (by rw [hU]; exact (hE_14.kept hS.2.1).narrow hFc)⟩⟩ rfl rfl hl.1 rfl (lv_room (Nat.le_of_ble_eq_true rfl)) dJ0_length_8abf5_6 ⟨Nat.le_of_ble_eq_true rfl, Nat.le_of_ble_eq_true rfl⟩) hS (fun q _ h => hFc q h) hFc (fun r_1 u t H1 locs ht hvm hw hB hz1 hk1 hS => ?_)
  obtain ⟨hP1, hK1, hD1⟩ := hB
  rw [ht] at hP1
  have hP := bv_still hP hk1
  generalize H1 = H at hP hS ⊢
  as_aux_lemma =>
  rcases hw with ⟨h_2, h_3⟩
  have h_3 : r_1 = _ := h_3
  replace hEX := hEX.trans (exc1_eq h_3)
  rw [h_2]
  refine lv_ishr hx hb dJ0_length_8abf5_9 ?_
  refine lv_topi (fun x_4 ex_4 => ?_)
  obtain rfl : x_4 = 3 := ex_4.trans (by decide +kernel)
  have hK9 := hK.sub (tys' := []) [] rfl
  exact W.iret (v := 3) hx hb hr (fun t ht hW => ⟨⟨3, (), rfl, ⟨rfl, (hR.trans hEX).symm⟩, by rw [ht]; exact hP, va_K.moved hW.alike hK9, hD⟩, hS.F ht⟩) hS.2.2 dJ0_length_8abf5_10
noncomputable def wf_c_J1_canEncode_9a6ad : List Cond := .code yJ1_canEncode_9a6ad cJ1_canEncode_9a6ad 1 (some .boolean) :: ([])
set_option maxHeartbeats 4000000 in
set_option maxRecDepth 100000 in
theorem c_J1_canEncode_9a6ad (l : Launch) (dC : Nat → ClassId) (dI : Nat → Nat → Nat) (sz : Nat) (p0 : Int32) (g_p0 : RG p0 0 65535) : Met l yJ1_canEncode_9a6ad wf_c_J1_canEncode_9a6ad ({ frames := 0, cells := 0, slots := 0, locals := 0 }) (va_Pc [.int p0] (fun U => U.heap.size = sz ∧ va_P (dC, dI) vwCl [] U.heap ∧ va_K (dC, dI) vwCl [] U ∧ va_D (fun _ => True) [])) (va_Qi (fun (r : Int32) (u : Unit) => (r = 0 ∧ RG p0 256 65535 ∧ r = fx_c_J1_canEncode_9a6ad p0) ∨ (r = 1 ∧ RG p0 0 255 ∧ r = fx_c_J1_canEncode_9a6ad p0)) (fun (u : Unit) t => va_P (dC, dI) vwCl [] t.heap ∧ va_K (dC, dI) vwCl [] t ∧ va_D (va_A [] sz) []) (va_A [] sz)) 0 0 (va_A [] sz) := by
  refine Met.ofW (cc := cJ1_canEncode_9a6ad) (maxL := 1) (ret := (some .boolean)) (by decide +kernel) rfl ?_
  intro p e s m args below meth c s₁ B hml hv
  obtain ⟨rfl, hsz, hP, hK, hD0⟩ := hv
  have hx := B.exec
  have hb := B.bytes
  have hr := B.returns
  have hts := atoms_spec (ws := wf_c_J1_canEncode_9a6ad) B.pre
  have hown : s.vm.findClass RJ1 = some m.cls := findClass_of_methodNamed B.named
  have hlocks := B.notSynchronized
  subst hsz
  have hD := hD0.self (sz := s.heap.size)
  generalize hAe : va_A [] s.heap.size = A at hD ⊢
  have hA : ∀ q : Nat, s.heap.size ≤ q → A q := fun q h => by rw [← hAe]; exact Or.inr h
  have hP : va_P (dC, dI) vwCl [] s.heap := hP
  have hl := lv_entry ([.int p0]) (n := 1) (Nat.le_of_ble_eq_true rfl)
  rw [lg_entry_eq]
  generalize (lg_sl ([.int p0]) ++ List.replicate (1 - (lg_sl ([.int p0])).length) Slot.unset).toArray = ls at hl ⊢
  have hl : lv_has ls 1 [(0, .int p0)] := hl
  obtain ⟨H, hHe⟩ : ∃ H : Heap, s.heap = H := ⟨_, rfl⟩
  have hS : va_S A s.heap H [] := by rw [hHe]; exact va_S.rf
  have hP : va_P (dC, dI) vwCl [] H := by rw [← hHe]; exact hP
  rw [hHe]
  obtain ⟨RES, hR⟩ : ∃ z, fx_c_J1_canEncode_9a6ad p0 = z := ⟨_, rfl⟩
  have hEX : RES = fx_c_J1_canEncode_9a6ad p0 := hR.symm
  refine lv_iload_n hx hb dJ1_canEncode_9a6ad_0 rfl (lv_at hl 0 rfl) ?_
  as_aux_lemma =>
  refine lv_if_lt (tgt := 15) hx hb dJ1_canEncode_9a6ad_1 rfl (fun c_1 => ?_) (fun c_1 => ?_)
  · replace hEX := hEX.trans (if_pos c_1)
    have g_2 : RG p0 0 (-1) := RG_lt1 g_p0 (RG_k 0 0 rfl) c_1 (by decide +kernel)
    exact RG_dead (RG_lt1 g_p0 (RG_k 0 0 rfl) c_1 (b' := (-1)) (by decide +kernel)) (by decide +kernel)
  · replace hEX := hEX.trans (if_neg c_1)
    have d_3 := Int32.not_lt.mp c_1
    refine lv_iload_n hx hb dJ1_canEncode_9a6ad_4 rfl (lv_at hl 0 rfl) ?_
    refine lv_sipush (v := 255) hx hb dJ1_canEncode_9a6ad_5 kc_sipush_255 ?_
    refine lv_icmp_gt (tgt := 15) hx hb dJ1_canEncode_9a6ad_8 rfl (fun c_4 => ?_) (fun c_4 => ?_)
    · replace hEX := hEX.trans (if_pos c_4)
      have g_5 : RG p0 256 65535 := RG_lt2 (RG_k 255 255 rfl) g_p0 c_4 (by decide +kernel)
      refine lv_iconst (v := 0) hx hb dJ1_canEncode_9a6ad_15 kc_iconst_0 ?_
      have hK9 := hK.sub (tys' := []) [] rfl
      exact W.zret (v := 0) hx hb hr rfl (fun t ht hW => ⟨⟨0, (), rfl, (Or.inl ⟨rfl, g_5, (hR.trans hEX).symm⟩), by rw [ht]; exact hP, va_K.moved hW.alike hK9, hD⟩, hS.F ht⟩) hS.2.2 dJ1_canEncode_9a6ad_16
    · replace hEX := hEX.trans (if_neg c_4)
      have d_6 := Int32.not_lt.mp c_4
      have g_7 : RG p0 0 255 := RG_le1 g_p0 (RG_k 255 255 rfl) d_6 (by decide +kernel)
      refine lv_iconst (v := 1) hx hb dJ1_canEncode_9a6ad_11 kc_iconst_1 ?_
      as_aux_lemma =>
      refine lv_goto (tgt := 16) hx hb dJ1_canEncode_9a6ad_12 rfl ?_
      have hK9 := hK.sub (tys' := []) [] rfl
      exact W.zret (v := 1) hx hb hr rfl (fun t ht hW => ⟨⟨1, (), rfl, (Or.inr ⟨rfl, g_7, (hR.trans hEX).symm⟩), by rw [ht]; exact hP, va_K.moved hW.alike hK9, hD⟩, hS.F ht⟩) hS.2.2 dJ1_canEncode_9a6ad_16
noncomputable def wf_c_J1_indexOfChar_4cfef : List Cond := .code yJ1_indexOfChar_4cfef cJ1_indexOfChar_4cfef 6 (some .int) :: ([])
set_option maxHeartbeats 4000000 in
set_option maxRecDepth 100000 in
theorem c_J1_indexOfChar_4cfef (l : Launch) (dC : Nat → ClassId) (dI : Nat → Nat → Nat) (sz : Nat) (tv0 : Nat) (p1 : Int32) (p2 : Int32) (p3 : Int32) (g_p1 : RG p1 0 255) (g_p2 : RG p2 0 0) (g_p3 : RG p3 3 3) : Met l yJ1_indexOfChar_4cfef wf_c_J1_indexOfChar_4cfef ({ frames := 0, cells := 0, slots := 0, locals := 0 }) (va_Pc [.ref tv0, .int p1, .int p2, .int p3] (fun U => U.heap.size = sz ∧ va_P (dC, dI) vwCl [] U.heap ∧ va_K (dC, dI) vwCl [] U ∧ va_D (fun _ => True) [] ∧ va_T .byte tv0 3 (fun j => .int ([115, 98, 99].getD j 0)) (va_A [] sz) U U.heap)) (va_Qi (fun (r : Int32) (u : Unit) => (r = (-1) ∧ r = fx_c_J1_indexOfChar_4cfef p1 p2 p3) ∨ (RG r 0 2 ∧ r = fx_c_J1_indexOfChar_4cfef p1 p2 p3)) (fun (u : Unit) t => va_P (dC, dI) vwCl [] t.heap ∧ va_K (dC, dI) vwCl [] t ∧ va_D (va_A [] sz) []) (va_A [] sz)) 0 0 (va_A [] sz) := by
  refine Met.ofW (cc := cJ1_indexOfChar_4cfef) (maxL := 6) (ret := (some .int)) (by decide +kernel) rfl ?_
  intro p e s m args below meth c s₁ B hml hv
  obtain ⟨rfl, hsz, hP, hK, hD0, hE_16⟩ := hv
  have hx := B.exec
  have hb := B.bytes
  have hr := B.returns
  have hts := atoms_spec (ws := wf_c_J1_indexOfChar_4cfef) B.pre
  have hown : s.vm.findClass RJ1 = some m.cls := findClass_of_methodNamed B.named
  have hlocks := B.notSynchronized
  subst hsz
  have hD := hD0.self (sz := s.heap.size)
  generalize hAe : va_A [] s.heap.size = A at hD hE_16 ⊢
  have hA : ∀ q : Nat, s.heap.size ≤ q → A q := fun q h => by rw [← hAe]; exact Or.inr h
  have hP : va_P (dC, dI) vwCl [] s.heap := hP
  have hl := lv_entry ([.ref tv0, .int p1, .int p2, .int p3]) (n := 6) (Nat.le_of_ble_eq_true rfl)
  rw [lg_entry_eq]
  generalize (lg_sl ([.ref tv0, .int p1, .int p2, .int p3]) ++ List.replicate (6 - (lg_sl ([.ref tv0, .int p1, .int p2, .int p3])).length) Slot.unset).toArray = ls at hl ⊢
  have hl : lv_has ls 6 [(0, .ref tv0), (1, .int p1), (2, .int p2), (3, .int p3)] := hl
  obtain ⟨H, hHe⟩ : ∃ H : Heap, s.heap = H := ⟨_, rfl⟩
  have hS : va_S A s.heap H [] := by rw [hHe]; exact va_S.rf
  have hP : va_P (dC, dI) vwCl [] H := by rw [← hHe]; exact hP
  rw [hHe]
  obtain ⟨RES, hR⟩ : ∃ z, fx_c_J1_indexOfChar_4cfef p1 p2 p3 = z := ⟨_, rfl⟩
  have hEX : RES = fx_c_J1_indexOfChar_4cfef p1 p2 p3 := hR.symm
  refine lv_iload_n hx hb dJ1_indexOfChar_4cfef_0 rfl (lv_at hl 1 rfl) ?_
  as_aux_lemma =>
  refine lv_i2b hx hb dJ1_indexOfChar_4cfef_1 rfl ?_
  refine lv_topi (fun x_1 ex_1 => ?_)
  replace hEX := hEX.trans (exl_eq ex_1)
  refine lv_istore (lv' := [(4, .int x_1), (0, .ref tv0), (1, .int p1), (2, .int p2), (3, .int p3)]) hx hb dJ1_indexOfChar_4cfef_2 hl (Nat.le_of_ble_eq_true rfl) rfl (fun ls hl => ?_)
  refine lv_iload_n hx hb dJ1_indexOfChar_4cfef_4 rfl (lv_at hl 3 rfl) ?_
  refine lv_istore (lv' := [(5, .int p2), (4, .int x_1), (0, .ref tv0), (1, .int p1), (2, .int p2), (3, .int p3)]) hx hb dJ1_indexOfChar_4cfef_5 hl (Nat.le_of_ble_eq_true rfl) rfl (fun ls hl => ?_)
  refine lv_iload hx hb dJ1_indexOfChar_4cfef_7 (lv_at hl 0 rfl) ?_
  refine lv_iload_n hx hb dJ1_indexOfChar_4cfef_9 rfl (lv_at hl 5 rfl) ?_
  refine lv_icmp_ge (tgt := 31) hx hb dJ1_indexOfChar_4cfef_10 rfl (fun c_2 => ?_) (fun c_2 => ?_)
  · replace hEX := hEX.trans (if_pos c_2)
    have g_3 : RG p3 3 0 := RG_le1 g_p3 g_p2 c_2 (by decide +kernel)
    exact RG_dead (RG_le1 g_p3 g_p2 c_2 (b' := 0) (by decide +kernel)) (by decide +kernel)
  · replace hEX := hEX.trans (if_neg c_2)
    have d_4 := Int32.not_le.mp c_2
    refine lv_aload_n hx hb dJ1_indexOfChar_4cfef_13 rfl (lv_at hl 2 rfl) ?_
    as_aux_lemma =>
    refine lv_iload hx hb dJ1_indexOfChar_4cfef_14 (lv_at hl 0 rfl) ?_
    refine va_tb hx hb hE_16 hS (RG_in g_p2 (by decide +kernel)) rfl dJ1_indexOfChar_4cfef_16 ?_
    refine lv_topi (fun x_5 ex_5 => ?_)
    replace hEX := hEX.trans (exl_eq ex_5)
    have g_6 : RG x_5 0 115 := RG_tab ex_5 (by decide +kernel)
    refine lv_iload hx hb dJ1_indexOfChar_4cfef_17 (lv_at hl 1 rfl) ?_
    refine lv_icmp_ne (tgt := 25) hx hb dJ1_indexOfChar_4cfef_19 rfl (fun c_7 => ?_) (fun c_7 => ?_)
    · replace hEX := hEX.trans (if_neg c_7)
      obtain ⟨x_8, ex_8⟩ : ∃ y : Int32, y = p2 + 1 := ⟨_, rfl⟩
      have g_9 : RG x_8 1 1 := RG_add ex_8 g_p2 (RG_k 1 1 rfl) (by decide +kernel)
      replace hEX := hEX.trans (exl_eq ex_8)
      refine lv_iinc (v := x_8) (lv' := [(5, .int x_8), (4, .int x_1), (0, .ref tv0), (1, .int p1), (2, .int p2), (3, .int p3)]) hx hb dJ1_indexOfChar_4cfef_25 hl (k := 0) rfl (by rw [ex_8]; rfl) (Nat.le_of_ble_eq_true rfl) rfl (fun ls hl => ?_)
      refine lv_goto (tgt := 7) hx hb dJ1_indexOfChar_4cfef_28 rfl ?_
      refine lv_iload hx hb dJ1_indexOfChar_4cfef_7 (lv_at hl 0 rfl) ?_
      as_aux_lemma =>
      refine lv_iload_n hx hb dJ1_indexOfChar_4cfef_9 rfl (lv_at hl 5 rfl) ?_
      refine lv_icmp_ge (tgt := 31) hx hb dJ1_indexOfChar_4cfef_10 rfl (fun c_10 => ?_) (fun c_10 => ?_)
      · replace hEX := hEX.trans (if_pos c_10)
        have g_11 : RG p3 3 1 := RG_le1 g_p3 g_9 c_10 (by decide +kernel)
        exact RG_dead (RG_le1 g_p3 g_9 c_10 (b' := 1) (by decide +kernel)) (by decide +kernel)
      · replace hEX := hEX.trans (if_neg c_10)
        have d_12 := Int32.not_le.mp c_10
        refine lv_aload_n hx hb dJ1_indexOfChar_4cfef_13 rfl (lv_at hl 2 rfl) ?_
        refine lv_iload hx hb dJ1_indexOfChar_4cfef_14 (lv_at hl 0 rfl) ?_
        refine va_tb hx hb hE_16 hS (RG_in g_9 (by decide +kernel)) rfl dJ1_indexOfChar_4cfef_16 ?_
        refine lv_topi (fun x_13 ex_13 => ?_)
        replace hEX := hEX.trans (exl_eq ex_13)
        have g_14 : RG x_13 0 115 := RG_tab ex_13 (by decide +kernel)
        refine lv_iload hx hb dJ1_indexOfChar_4cfef_17 (lv_at hl 1 rfl) ?_
        as_aux_lemma =>
        refine lv_icmp_ne (tgt := 25) hx hb dJ1_indexOfChar_4cfef_19 rfl (fun c_15 => ?_) (fun c_15 => ?_)
        · replace hEX := hEX.trans (if_neg c_15)
          obtain ⟨x_16, ex_16⟩ : ∃ y : Int32, y = x_8 + 1 := ⟨_, rfl⟩
          have g_17 : RG x_16 2 2 := RG_add ex_16 g_9 (RG_k 1 1 rfl) (by decide +kernel)
          replace hEX := hEX.trans (exl_eq ex_16)
          refine lv_iinc (v := x_16) (lv' := [(5, .int x_16), (4, .int x_1), (0, .ref tv0), (1, .int p1), (2, .int p2), (3, .int p3)]) hx hb dJ1_indexOfChar_4cfef_25 hl (k := 0) rfl (by rw [ex_16]; rfl) (Nat.le_of_ble_eq_true rfl) rfl (fun ls hl => ?_)
          refine lv_goto (tgt := 7) hx hb dJ1_indexOfChar_4cfef_28 rfl ?_
          refine lv_iload hx hb dJ1_indexOfChar_4cfef_7 (lv_at hl 0 rfl) ?_
          refine lv_iload_n hx hb dJ1_indexOfChar_4cfef_9 rfl (lv_at hl 5 rfl) ?_
          refine lv_icmp_ge (tgt := 31) hx hb dJ1_indexOfChar_4cfef_10 rfl (fun c_18 => ?_) (fun c_18 => ?_)
          · replace hEX := hEX.trans (if_pos c_18)
            have g_19 : RG p3 3 2 := RG_le1 g_p3 g_17 c_18 (by decide +kernel)
            exact RG_dead (RG_le1 g_p3 g_17 c_18 (b' := 2) (by decide +kernel)) (by decide +kernel)
          · replace hEX := hEX.trans (if_neg c_18)
            have d_20 := Int32.not_le.mp c_18
            refine lv_aload_n hx hb dJ1_indexOfChar_4cfef_13 rfl (lv_at hl 2 rfl) ?_
            as_aux_lemma =>
            refine lv_iload hx hb dJ1_indexOfChar_4cfef_14 (lv_at hl 0 rfl) ?_
            refine va_tb hx hb hE_16 hS (RG_in g_17 (by decide +kernel)) rfl dJ1_indexOfChar_4cfef_16 ?_
            refine lv_topi (fun x_21 ex_21 => ?_)
            replace hEX := hEX.trans (exl_eq ex_21)
            have g_22 : RG x_21 0 115 := RG_tab ex_21 (by decide +kernel)
            refine lv_iload hx hb dJ1_indexOfChar_4cfef_17 (lv_at hl 1 rfl) ?_
            refine lv_icmp_ne (tgt := 25) hx hb dJ1_indexOfChar_4cfef_19 rfl (fun c_23 => ?_) (fun c_23 => ?_)
            · replace hEX := hEX.trans (if_neg c_23)
              obtain ⟨x_24, ex_24⟩ : ∃ y : Int32, y = x_16 + 1 := ⟨_, rfl⟩
              have g_25 : RG x_24 3 3 := RG_add ex_24 g_17 (RG_k 1 1 rfl) (by decide +kernel)
              replace hEX := hEX.trans (exl_eq ex_24)
              refine lv_iinc (v := x_24) (lv' := [(5, .int x_24), (4, .int x_1), (0, .ref tv0), (1, .int p1), (2, .int p2), (3, .int p3)]) hx hb dJ1_indexOfChar_4cfef_25 hl (k := 0) rfl (by rw [ex_24]; rfl) (Nat.le_of_ble_eq_true rfl) rfl (fun ls hl => ?_)
              refine lv_goto (tgt := 7) hx hb dJ1_indexOfChar_4cfef_28 rfl ?_
              refine lv_iload hx hb dJ1_indexOfChar_4cfef_7 (lv_at hl 0 rfl) ?_
              as_aux_lemma =>
              refine lv_iload_n hx hb dJ1_indexOfChar_4cfef_9 rfl (lv_at hl 5 rfl) ?_
              refine lv_icmp_ge (tgt := 31) hx hb dJ1_indexOfChar_4cfef_10 rfl (fun c_26 => ?_) (fun c_26 => ?_)
              · replace hEX := hEX.trans (if_pos c_26)
                refine lv_iconst (v := (-1)) hx hb dJ1_indexOfChar_4cfef_31 kc_iconst_m1 ?_
                have hK9 := hK.sub (tys' := []) [] rfl
                exact W.iret (v := (-1)) hx hb hr (fun t ht hW => ⟨⟨(-1), (), rfl, (Or.inl ⟨rfl, (hR.trans hEX).symm⟩), by rw [ht]; exact hP, va_K.moved hW.alike hK9, hD⟩, hS.F ht⟩) hS.2.2 dJ1_indexOfChar_4cfef_32
              · replace hEX := hEX.trans (if_neg c_26)
                have d_27 := Int32.not_le.mp c_26
                have g_28 : RG x_24 3 2 := RG_lt1 g_25 g_p3 d_27 (by decide +kernel)
                exact RG_dead (RG_lt1 g_25 g_p3 d_27 (b' := 2) (by decide +kernel)) (by decide +kernel)
            · replace hEX := hEX.trans (if_pos c_23)
              have g_29 : RG x_1 0 115 := RG_eq1 (RG_any x_1) g_22 c_23.symm (by decide +kernel)
              refine lv_iload hx hb dJ1_indexOfChar_4cfef_22 (lv_at hl 0 rfl) ?_
              have hK9 := hK.sub (tys' := []) [] rfl
              exact W.iret (v := x_16) hx hb hr (fun t ht hW => ⟨⟨x_16, (), rfl, (Or.inr ⟨(RG_w g_17 (by decide +kernel)), (hR.trans hEX).symm⟩), by rw [ht]; exact hP, va_K.moved hW.alike hK9, hD⟩, hS.F ht⟩) hS.2.2 dJ1_indexOfChar_4cfef_24
        · replace hEX := hEX.trans (if_pos c_15)
          have g_30 : RG x_1 0 115 := RG_eq1 (RG_any x_1) g_14 c_15.symm (by decide +kernel)
          refine lv_iload hx hb dJ1_indexOfChar_4cfef_22 (lv_at hl 0 rfl) ?_
          as_aux_lemma =>
          have hK9 := hK.sub (tys' := []) [] rfl
          exact W.iret (v := x_8) hx hb hr (fun t ht hW => ⟨⟨x_8, (), rfl, (Or.inr ⟨(RG_w g_9 (by decide +kernel)), (hR.trans hEX).symm⟩), by rw [ht]; exact hP, va_K.moved hW.alike hK9, hD⟩, hS.F ht⟩) hS.2.2 dJ1_indexOfChar_4cfef_24
    · replace hEX := hEX.trans (if_pos c_7)
      have g_31 : RG x_1 0 115 := RG_eq1 (RG_any x_1) g_6 c_7.symm (by decide +kernel)
      refine lv_iload hx hb dJ1_indexOfChar_4cfef_22 (lv_at hl 0 rfl) ?_
      have hK9 := hK.sub (tys' := []) [] rfl
      exact W.iret (v := p2) hx hb hr (fun t ht hW => ⟨⟨p2, (), rfl, (Or.inr ⟨(RG_w g_p2 (by decide +kernel)), (hR.trans hEX).symm⟩), by rw [ht]; exact hP, va_K.moved hW.alike hK9, hD⟩, hS.F ht⟩) hS.2.2 dJ1_indexOfChar_4cfef_24
noncomputable def wf_c_J1_indexOf_4cfef : List Cond := .code yJ1_indexOf_4cfef cJ1_indexOf_4cfef 4 (some .int) :: ([.methodLink RJ1 88 yJ1_canEncode_9a6ad, .static yJ1_canEncode_9a6ad, .initialized RJ1, .code yJ1_canEncode_9a6ad cJ1_canEncode_9a6ad 1 (some .boolean), .methodLink RJ1 92 Lib.Math.max.name, .static Lib.Math.max.name, .initialized "java/lang/Math", .code Lib.Math.max.name Lib.Math.max.code 2 (some .int), .methodLink RJ1 38 Lib.Math.min.name, .static Lib.Math.min.name, .code Lib.Math.min.name Lib.Math.min.code 2 (some .int), .methodLink RJ1 95 yJ1_indexOfChar_4cfef, .static yJ1_indexOfChar_4cfef, .code yJ1_indexOfChar_4cfef cJ1_indexOfChar_4cfef 6 (some .int)])
set_option maxRecDepth 20000 in
theorem gf_c_J1_indexOf_4cfef_c_J1_canEncode_9a6ad : GoodIn wf_c_J1_indexOf_4cfef (va_wsS RJ1 88 yJ1_canEncode_9a6ad wf_c_J1_canEncode_9a6ad) := goodIn_app (gi_l [1, 2, 3] rfl rfl) (gi_cons (j := 4) rfl rfl gi_nil)
set_option maxRecDepth 20000 in
theorem gf_c_J1_indexOf_4cfef_c_J1_indexOfChar_4cfef : GoodIn wf_c_J1_indexOf_4cfef (va_wsS RJ1 95 yJ1_indexOfChar_4cfef wf_c_J1_indexOfChar_4cfef) := goodIn_app (gi_l [12, 13, 3] rfl rfl) (gi_cons (j := 14) rfl rfl gi_nil)
set_option maxHeartbeats 4000000 in
set_option maxRecDepth 100000 in
theorem c_J1_indexOf_4cfef (l : Launch) (dC : Nat → ClassId) (dI : Nat → Nat → Nat) (sz : Nat) (tv0 : Nat) (p1 : Int32) (g_p1 : RG p1 0 65535) : Met l yJ1_indexOf_4cfef wf_c_J1_indexOf_4cfef ({ frames := 1, cells := 0, slots := 0, locals := 25 }) (va_Pc [.ref tv0, .int p1, .int 0, .int 3] (fun U => U.heap.size = sz ∧ va_P (dC, dI) vwCl [] U.heap ∧ va_K (dC, dI) vwCl [] U ∧ va_D (fun _ => True) [] ∧ va_T .byte tv0 3 (fun j => .int ([115, 98, 99].getD j 0)) (va_A [] sz) U U.heap)) (va_Qi (fun (r : Int32) (u : Unit) => (r = (-1) ∧ r = fx_c_J1_indexOf_4cfef p1) ∨ (RG r 0 2 ∧ RG p1 0 255 ∧ r = fx_c_J1_indexOf_4cfef p1)) (fun (u : Unit) t => va_P (dC, dI) vwCl [] t.heap ∧ va_K (dC, dI) vwCl [] t ∧ va_D (va_A [] sz) []) (va_A [] sz)) 0 0 (va_A [] sz) := by
  refine Met.ofW (cc := cJ1_indexOf_4cfef) (maxL := 4) (ret := (some .int)) (by decide +kernel) rfl ?_
  intro p e s m args below meth c s₁ B hml hv
  obtain ⟨rfl, hsz, hP, hK, hD0, hE_16⟩ := hv
  have hx := B.exec
  have hb := B.bytes
  have hr := B.returns
  have hts := atoms_spec (ws := wf_c_J1_indexOf_4cfef) B.pre
  have hown : s.vm.findClass RJ1 = some m.cls := findClass_of_methodNamed B.named
  have hlocks := B.notSynchronized
  subst hsz
  have hD := hD0.self (sz := s.heap.size)
  generalize hAe : va_A [] s.heap.size = A at hD hE_16 ⊢
  have hA : ∀ q : Nat, s.heap.size ≤ q → A q := fun q h => by rw [← hAe]; exact Or.inr h
  have hP : va_P (dC, dI) vwCl [] s.heap := hP
  have hl := lv_entry ([.ref tv0, .int p1, .int 0, .int 3]) (n := 4) (Nat.le_of_ble_eq_true rfl)
  rw [lg_entry_eq]
  generalize (lg_sl ([.ref tv0, .int p1, .int 0, .int 3]) ++ List.replicate (4 - (lg_sl ([.ref tv0, .int p1, .int 0, .int 3])).length) Slot.unset).toArray = ls at hl ⊢
  have hl : lv_has ls 4 [(0, .ref tv0), (1, .int p1), (2, .int 0), (3, .int 3)] := hl
  obtain ⟨H, hHe⟩ : ∃ H : Heap, s.heap = H := ⟨_, rfl⟩
  have hS : va_S A s.heap H [] := by rw [hHe]; exact va_S.rf
  have hP : va_P (dC, dI) vwCl [] H := by rw [← hHe]; exact hP
  rw [hHe]
  obtain ⟨RES, hR⟩ : ∃ z, fx_c_J1_indexOf_4cfef p1 = z := ⟨_, rfl⟩
  have hEX : RES = fx_c_J1_indexOf_4cfef p1 := hR.symm
  refine lv_iload_n hx hb dJ1_indexOf_4cfef_0 rfl (lv_at hl 1 rfl) ?_
  as_aux_lemma =>
  obtain ⟨hPc, hDc, hFc, hqc⟩ := cl_cut (wc := []) hP hD hS hA [] (by decide +kernel) rfl
  have hKc := hK.sub (tys' := []) [] rfl
  refine va_calli (va_runS (As := [.int p1]) (rest := []) ⟨hx, hb, hml, hown, hts⟩ (c_J1_canEncode_9a6ad l dC dI H.size p1 g_p1) (va_cwS 1 hts gf_c_J1_indexOf_4cfef_c_J1_canEncode_9a6ad rfl rfl rfl md_J1_canEncode_9a6ad ⟨Nat.le_of_ble_eq_true rfl, Nat.le_of_ble_eq_true rfl⟩) ⟨fun a U g mk q => by obtain ⟨q0, q1, qP, qK, qD⟩ := q; exact ⟨q0, q1, qP, va_K.moved (u := U) (U := U.calling g mk a) (Vm.Alike.refl U.vm) qK, qD⟩, fun U hU hW => ⟨rfl, by rw [hU], by rw [hU]; exact hPc, va_K.moved hW.alike hKc, hDc.weaken (fun _ _ _ _ => trivial)⟩⟩ rfl rfl hl.1 rfl (lv_room (Nat.le_of_ble_eq_true rfl)) dJ1_indexOf_4cfef_1 ⟨Nat.le_of_ble_eq_true rfl, Nat.le_of_ble_eq_true rfl⟩) hS (fun q _ h => hFc q h) hFc (fun r_1 u t H1 locs ht hvm hw hB hz1 hk1 hS => ?_)
  obtain ⟨hP1, hK1, hD1⟩ := hB
  rw [ht] at hP1
  have hP := bv_still hP hk1
  generalize H1 = H at hP hS ⊢
  as_aux_lemma =>
  rcases hw with ⟨h_2, h_3, h_4⟩ | ⟨h_5, h_6, h_7⟩
  · have h_4 : r_1 = _ := h_4
    replace hEX := hEX.trans (exc1_eq h_4)
    replace hEX := hEX.trans (if_pos (show r_1 = 0 from h_2))
    rw [h_2]
    refine lv_if_ne (tgt := 9) hx hb dJ1_indexOf_4cfef_4 rfl (fun c_8 => absurd c_8 (by decide +kernel)) (fun c_8 => ?_)
    refine lv_iconst (v := (-1)) hx hb dJ1_indexOf_4cfef_7 kc_iconst_m1 ?_
    have hK9 := hK.sub (tys' := []) [] rfl
    exact W.iret (v := (-1)) hx hb hr (fun t ht hW => ⟨⟨(-1), (), rfl, (Or.inl ⟨rfl, (hR.trans hEX).symm⟩), by rw [ht]; exact hP, va_K.moved hW.alike hK9, hD⟩, hS.F ht⟩) hS.2.2 dJ1_indexOf_4cfef_8
  · have h_7 : r_1 = _ := h_7
    replace hEX := hEX.trans (exc1_eq h_7)
    replace hEX := hEX.trans (if_neg (fun q9 : r_1 = 0 => absurd ((show r_1 = 1 from h_5).symm.trans q9) (by decide +kernel)))
    rw [h_5]
    refine lv_if_ne (tgt := 9) hx hb dJ1_indexOf_4cfef_4 rfl (fun c_9 => ?_) (fun c_9 => absurd c_9 (by decide +kernel))
    refine lv_iload_n hx hb dJ1_indexOf_4cfef_9 rfl (lv_at hl 2 rfl) ?_
    as_aux_lemma =>
    refine lv_iconst (v := 0) hx hb dJ1_indexOf_4cfef_10 kc_iconst_0 ?_
    refine va_mmax hx hb (by rw [hml]; exact hl.1.symm) hown (hts (.methodLink RJ1 92 Lib.Math.max.name) (List.mem_of_getElem? (i := 5) rfl)) (hts (.static Lib.Math.max.name) (List.mem_of_getElem? (i := 6) rfl)) (hts (.initialized "java/lang/Math") (List.mem_of_getElem? (i := 7) rfl)) (hts (.code Lib.Math.max.name Lib.Math.max.code 2 (some .int)) (List.mem_of_getElem? (i := 8) rfl)) (Nat.le_of_ble_eq_true rfl) (Nat.le_of_ble_eq_true rfl) (Nat.le_of_ble_eq_true rfl) (Nat.le_of_ble_eq_true rfl) dJ1_indexOf_4cfef_11 ?_
    refine lv_topi (fun x_10 ex_10 => ?_)
    replace hEX := hEX.trans (exl_eq ex_10)
    have g_11 : RG x_10 0 0 := RG_max ex_10 (RG_k 0 0 rfl) (RG_k 0 0 rfl) (by decide +kernel)
    refine lv_istore_n (lv' := [(2, .int x_10), (0, .ref tv0), (1, .int p1), (3, .int 3)]) hx hb dJ1_indexOf_4cfef_14 rfl hl (Nat.le_of_ble_eq_true rfl) rfl (fun ls hl => ?_)
    refine lv_iload_n hx hb dJ1_indexOf_4cfef_15 rfl (lv_at hl 3 rfl) ?_
    refine lv_aload_n hx hb dJ1_indexOf_4cfef_16 rfl (lv_at hl 1 rfl) ?_
    refine va_tlen (v := 3) hx hb hE_16 hS rfl dJ1_indexOf_4cfef_17 ?_
    refine va_mmin hx hb (by rw [hml]; exact hl.1.symm) hown (hts (.methodLink RJ1 38 Lib.Math.min.name) (List.mem_of_getElem? (i := 9) rfl)) (hts (.static Lib.Math.min.name) (List.mem_of_getElem? (i := 10) rfl)) (hts (.initialized "java/lang/Math") (List.mem_of_getElem? (i := 7) rfl)) (hts (.code Lib.Math.min.name Lib.Math.min.code 2 (some .int)) (List.mem_of_getElem? (i := 11) rfl)) (Nat.le_of_ble_eq_true rfl) (Nat.le_of_ble_eq_true rfl) (Nat.le_of_ble_eq_true rfl) (Nat.le_of_ble_eq_true rfl) dJ1_indexOf_4cfef_18 ?_
    refine lv_topi (fun x_12 ex_12 => ?_)
    replace hEX := hEX.trans (exl_eq ex_12)
    have g_13 : RG x_12 3 3 := RG_min ex_12 (RG_k 3 3 rfl) (RG_k 3 3 rfl) (by decide +kernel)
    refine lv_istore_n (lv' := [(3, .int x_12), (2, .int x_10), (0, .ref tv0), (1, .int p1)]) hx hb dJ1_indexOf_4cfef_21 rfl hl (Nat.le_of_ble_eq_true rfl) rfl (fun ls hl => ?_)
    as_aux_lemma =>
    refine lv_iload_n hx hb dJ1_indexOf_4cfef_22 rfl (lv_at hl 1 rfl) ?_
    refine lv_iload_n hx hb dJ1_indexOf_4cfef_23 rfl (lv_at hl 0 rfl) ?_
    refine lv_icmp_lt (tgt := 29) hx hb dJ1_indexOf_4cfef_24 rfl (fun c_14 => ?_) (fun c_14 => ?_)
    · replace hEX := hEX.trans (if_pos c_14)
      refine lv_aload_n hx hb dJ1_indexOf_4cfef_29 rfl (lv_at hl 2 rfl) ?_
      refine lv_iload_n hx hb dJ1_indexOf_4cfef_30 rfl (lv_at hl 3 rfl) ?_
      refine lv_iload_n hx hb dJ1_indexOf_4cfef_31 rfl (lv_at hl 1 rfl) ?_
      refine lv_iload_n hx hb dJ1_indexOf_4cfef_32 rfl (lv_at hl 0 rfl) ?_
      obtain ⟨hPc, hDc, hFc, hqc⟩ := cl_cut (wc := []) hP hD hS hA [] (by decide +kernel) rfl
      have hKc := hK.sub (tys' := []) [] rfl
      refine va_calli (va_runS (As := [.ref tv0, .int p1, .int x_10, .int x_12]) (rest := []) ⟨hx, hb, hml, hown, hts⟩ (c_J1_indexOfChar_4cfef l dC dI H.size tv0 p1 x_10 x_12 h_6 g_11 g_13) (va_cwS 4 hts gf_c_J1_indexOf_4cfef_c_J1_indexOfChar_4cfef rfl rfl rfl md_J1_indexOfChar_4cfef ⟨Nat.le_of_ble_eq_true rfl, Nat.le_of_ble_eq_true rfl⟩) ⟨fun a U g mk q => by obtain ⟨q0, q1, qP, qK, qD, qE0⟩ := q; exact ⟨q0, q1, qP, va_K.moved (u := U) (U := U.calling g mk a) (Vm.Alike.refl U.vm) qK, qD, va_T.moved (u := U) (U := U.calling g mk a) (Vm.Alike.refl U.vm) qE0⟩, fun U hU hW => ⟨rfl, by rw [hU], by rw [hU]; exact hPc, va_K.moved hW.alike hKc, hDc.weaken (fun _ _ _ _ => trivial), va_T.moved hW.alike (by rw [hU]; exact (hE_16.kept hS.2.1).narrow hFc)⟩⟩ rfl rfl hl.1 rfl (lv_room (Nat.le_of_ble_eq_true rfl)) dJ1_indexOf_4cfef_33 ⟨Nat.le_of_ble_eq_true rfl, Nat.le_of_ble_eq_true rfl⟩) hS (fun q _ h => hFc q h) hFc (fun r_15 u t H1 locs ht hvm hw hB hz1 hk1 hS => ?_)
      obtain ⟨hP1, hK1, hD1⟩ := hB
      rw [ht] at hP1
      have hP := bv_still hP hk1
      generalize H1 = H at hP hS ⊢
      as_aux_lemma =>
      rcases hw with ⟨h_16, h_17⟩ | ⟨h_18, h_19⟩
      · have h_17 : r_15 = _ := h_17
        replace hEX := hEX.trans (exc1_eq h_17)
        replace hEX := hEX.trans (if_pos (show r_15 = (-1) from h_16))
        rw [h_16]
        have hK9 := hK.sub (tys' := []) [] rfl
        exact W.iret (v := (-1)) hx hb hr (fun t ht hW => ⟨⟨(-1), (), rfl, (Or.inl ⟨rfl, (hR.trans hEX).symm⟩), by rw [ht]; exact hP, va_K.moved hW.alike hK9, hD⟩, hS.F ht⟩) hS.2.2 dJ1_indexOf_4cfef_36
      · have h_19 : r_15 = _ := h_19
        replace hEX := hEX.trans (exc1_eq h_19)
        replace hEX := hEX.trans (if_neg (RG_neq (x := r_15) (c := (-1)) (show RG r_15 0 2 from h_18) (by decide +kernel)))
        have hK9 := hK.sub (tys' := []) [] rfl
        exact W.iret (v := r_15) hx hb hr (fun t ht hW => ⟨⟨r_15, (), rfl, (Or.inr ⟨h_18, h_6, (hR.trans hEX).symm⟩), by rw [ht]; exact hP, va_K.moved hW.alike hK9, hD⟩, hS.F ht⟩) hS.2.2 dJ1_indexOf_4cfef_36
    · replace hEX := hEX.trans (if_neg c_14)
      have d_20 := Int32.not_lt.mp c_14
      have g_21 : RG x_12 3 0 := RG_le1 g_13 g_11 d_20 (by decide +kernel)
      exact RG_dead (RG_le1 g_13 g_11 d_20 (b' := 0) (by decide +kernel)) (by decide +kernel)
noncomputable def wf_c_J0_indexOf_7cf53 : List Cond := .code yJ0_indexOf_7cf53 cJ0_indexOf_7cf53 3 (some .int) :: ([.methodLink RJ0 492 yJ0_isLatin1_aae02, .instanceMethod yJ0_isLatin1_aae02, .selects RJ0 yJ0_isLatin1_aae02 yJ0_isLatin1_aae02, .initialized RJ0, .code yJ0_isLatin1_aae02 cJ0_isLatin1_aae02 1 (some .boolean), .fieldLink RJ0 38 "java/lang/String" "COMPACT_STRINGS" "Z", .fieldLink RJ0 15 "java/lang/String" "coder" "B", .fieldLink RJ0 9 "java/lang/String" "value" "[B", .methodLink RJ0 505 yJ0_length_8abf5, .instanceMethod yJ0_length_8abf5, .selects RJ0 yJ0_length_8abf5 yJ0_length_8abf5, .code yJ0_length_8abf5 cJ0_length_8abf5 1 (some .int), .methodLink RJ0 335 yJ0_coder_7d493, .instanceMethod yJ0_coder_7d493, .selects RJ0 yJ0_coder_7d493 yJ0_coder_7d493, .code yJ0_coder_7d493 cJ0_coder_7d493 1 (some .byte), .methodLink RJ0 637 yJ1_indexOf_4cfef, .static yJ1_indexOf_4cfef, .initialized RJ1, .code yJ1_indexOf_4cfef cJ1_indexOf_4cfef 4 (some .int), .methodLink RJ1 88 yJ1_canEncode_9a6ad, .static yJ1_canEncode_9a6ad, .code yJ1_canEncode_9a6ad cJ1_canEncode_9a6ad 1 (some .boolean), .methodLink RJ1 92 Lib.Math.max.name, .static Lib.Math.max.name, .initialized "java/lang/Math", .code Lib.Math.max.name Lib.Math.max.code 2 (some .int), .methodLink RJ1 38 Lib.Math.min.name, .static Lib.Math.min.name, .code Lib.Math.min.name Lib.Math.min.code 2 (some .int), .methodLink RJ1 95 yJ1_indexOfChar_4cfef, .static yJ1_indexOfChar_4cfef, .code yJ1_indexOfChar_4cfef cJ1_indexOfChar_4cfef 6 (some .int)])
set_option maxRecDepth 20000 in
theorem gf_c_J0_indexOf_7cf53_c_J0_isLatin1_aae02 : GoodIn wf_c_J0_indexOf_7cf53 (wsV RJ0 492 RJ0 yJ0_isLatin1_aae02 wf_c_J0_isLatin1_aae02) := goodIn_app (gi_l [1, 2, 3, 4] rfl rfl) (gi_cons (j := 5) rfl rfl (gi_l [6, 7] rfl rfl))
set_option maxRecDepth 20000 in
theorem gf_c_J0_indexOf_7cf53_c_J0_length_8abf5_1 : GoodIn wf_c_J0_indexOf_7cf53 (wsV RJ0 505 RJ0 yJ0_length_8abf5 wf_c_J0_length_8abf5_1) := goodIn_app (gi_l [9, 10, 11, 4] rfl rfl) (gi_cons (j := 12) rfl rfl (gi_l [8, 13, 14, 15, 4, 16, 6, 7] rfl rfl))
set_option maxRecDepth 20000 in
theorem gf_c_J0_indexOf_7cf53_c_J1_indexOf_4cfef : GoodIn wf_c_J0_indexOf_7cf53 (va_wsS RJ0 637 yJ1_indexOf_4cfef wf_c_J1_indexOf_4cfef) := goodIn_app (gi_l [17, 18, 19] rfl rfl) (gi_cons (j := 20) rfl rfl (gi_l [21, 22, 19, 23, 24, 25, 26, 27, 28, 29, 30, 31, 32, 33] rfl rfl))
set_option maxHeartbeats 4000000 in
set_option maxRecDepth 100000 in
theorem c_J0_indexOf_7cf53 (l : Launch) (dC : Nat → ClassId) (dI : Nat → Nat → Nat) (sz : Nat) (ts0 : Nat) (p1 : Int32) (tv0 : Nat) (g_p1 : RG p1 0 65535) : Met l yJ0_indexOf_7cf53 wf_c_J0_indexOf_7cf53 ({ frames := 2, cells := 0, slots := 0, locals := 48 }) (va_Pc [.ref ts0, .int p1, .int 0] (fun U => U.heap.size = sz ∧ va_P (dC, dI) vwCl [] U.heap ∧ va_K (dC, dI) vwCl [] U ∧ va_D (fun _ => True) [] ∧ va_Z "java/lang/String" "COMPACT_STRINGS" "Z" (.int 1) (va_A [] sz) U U.heap ∧ va_OF "java/lang/String" "coder" "B" (.int 0) ts0 (va_A [] sz) U U.heap ∧ va_O "java/lang/String" ts0 (va_A [] sz) U U.heap ∧ va_OF "java/lang/String" "value" "[B" (.ref tv0) ts0 (va_A [] sz) U U.heap ∧ va_T .byte tv0 3 (fun j => .int ([115, 98, 99].getD j 0)) (va_A [] sz) U U.heap)) (va_Qi (fun (r : Int32) (u : Unit) => (r = (-1) ∧ r = fx_c_J0_indexOf_7cf53 p1) ∨ (RG r 0 2 ∧ RG p1 0 255 ∧ r = fx_c_J0_indexOf_7cf53 p1)) (fun (u : Unit) t => va_P (dC, dI) vwCl [] t.heap ∧ va_K (dC, dI) vwCl [] t ∧ va_D (va_A [] sz) []) (va_A [] sz)) 0 0 (va_A [] sz) := by
  refine Met.ofW (cc := cJ0_indexOf_7cf53) (maxL := 3) (ret := (some .int)) (by decide +kernel) rfl ?_
  intro p e s m args below meth c s₁ B hml hv
  obtain ⟨rfl, hsz, hP, hK, hD0, hE_10, hE_14, hE_13, hE_15, hE_16⟩ := hv
  have hx := B.exec
  have hb := B.bytes
  have hr := B.returns
  have hts := atoms_spec (ws := wf_c_J0_indexOf_7cf53) B.pre
  have hown : s.vm.findClass RJ0 = some m.cls := findClass_of_methodNamed B.named
  have hlocks := B.notSynchronized
  subst hsz
  have hD := hD0.self (sz := s.heap.size)
  generalize hAe : va_A [] s.heap.size = A at hD hE_10 hE_14 hE_13 hE_15 hE_16 ⊢
  have hA : ∀ q : Nat, s.heap.size ≤ q → A q := fun q h => by rw [← hAe]; exact Or.inr h
  have hP : va_P (dC, dI) vwCl [] s.heap := hP
  have hl := lv_entry ([.ref ts0, .int p1, .int 0]) (n := 3) (Nat.le_of_ble_eq_true rfl)
  rw [lg_entry_eq]
  generalize (lg_sl ([.ref ts0, .int p1, .int 0]) ++ List.replicate (3 - (lg_sl ([.ref ts0, .int p1, .int 0])).length) Slot.unset).toArray = ls at hl ⊢
  have hl : lv_has ls 3 [(0, .ref ts0), (1, .int p1), (2, .int 0)] := hl
  obtain ⟨H, hHe⟩ : ∃ H : Heap, s.heap = H := ⟨_, rfl⟩
  have hS : va_S A s.heap H [] := by rw [hHe]; exact va_S.rf
  have hP : va_P (dC, dI) vwCl [] H := by rw [← hHe]; exact hP
  rw [hHe]
  obtain ⟨RES, hR⟩ : ∃ z, fx_c_J0_indexOf_7cf53 p1 = z := ⟨_, rfl⟩
  have hEX : RES = fx_c_J0_indexOf_7cf53 p1 := hR.symm
  refine lv_aload_n hx hb dJ0_indexOf_7cf53_0 rfl (lv_at hl 0 rfl) ?_
  as_aux_lemma =>
  obtain ⟨hPc, hDc, hFc, hqc⟩ := cl_cut (wc := []) hP hD hS hA [] (by decide +kernel) rfl
  have hKc := hK.sub (tys' := []) [] rfl
  have hrv := bv_Orecv hE_13 hS
  refine va_calli (va_runV (As := []) (rest := []) ⟨hx, hb, hml, hown, hts⟩ (c_J0_isLatin1_aae02 l dC dI H.size ts0) (cwV 0 hts gf_c_J0_indexOf_7cf53_c_J0_isLatin1_aae02 rfl rfl rfl mdV_J0_isLatin1_aae02 ⟨Nat.le_of_ble_eq_true rfl, Nat.le_of_ble_eq_true rfl⟩) ⟨fun a U g mk q => by obtain ⟨q0, q1, qP, qK, qD, qE0, qE1⟩ := q; exact ⟨q0, q1, qP, va_K.moved (u := U) (U := U.calling g mk a) (Vm.Alike.refl U.vm) qK, qD, va_Z.moved (u := U) (U := U.calling g mk a) (Vm.Alike.refl U.vm) qE0, va_OF.moved (u := U) (U := U.calling g mk a) (Vm.Alike.refl U.vm) qE1⟩, hrv, fun U hU hW => ⟨rfl, by rw [hU], by rw [hU]; exact hPc, va_K.moved hW.alike hKc, hDc.weaken (fun _ _ _ _ => trivial), va_Z.moved hW.alike (by rw [hU]; exact (hE_10.kept hS.2.1).narrow hFc), va_OF.moved hW.alike (by rw [hU]; exact (hE_14.kept hS.2.1).narrow hFc)⟩⟩ rfl rfl hl.1 rfl (lv_room (Nat.le_of_ble_eq_true rfl)) dJ0_indexOf_7cf53_1 ⟨Nat.le_of_ble_eq_true rfl, Nat.le_of_ble_eq_true rfl⟩) hS (fun q _ h => hFc q h) hFc (fun r_1 u t H1 locs ht hvm hw hB hz1 hk1 hS => ?_)
  obtain ⟨hP1, hK1, hD1⟩ := hB
  rw [ht] at hP1
  have hP := bv_still hP hk1
  generalize H1 = H at hP hS ⊢
  as_aux_lemma =>
  rcases hw with ⟨h_2, h_3⟩
  have h_3 : r_1 = _ := h_3
  replace hEX := hEX.trans (exc1_eq h_3)
  rw [h_2]
  refine lv_if_eq (tgt := 23) hx hb dJ0_indexOf_7cf53_4 rfl (fun c_4 => absurd c_4 (by decide +kernel)) (fun c_4 => ?_)
  refine lv_aload_n hx hb dJ0_indexOf_7cf53_7 rfl (lv_at hl 0 rfl) ?_
  refine vk_getf hx hb hE_15 hS hown (hts (.fieldLink RJ0 9 "java/lang/String" "value" "[B") (List.mem_of_getElem? (i := 8) rfl)) (fun _ h9 => h9) dJ0_indexOf_7cf53_8 ?_
  refine lv_iload_n hx hb dJ0_indexOf_7cf53_11 rfl (lv_at hl 1 rfl) ?_
  refine lv_iload_n hx hb dJ0_indexOf_7cf53_12 rfl (lv_at hl 2 rfl) ?_
  refine lv_aload_n hx hb dJ0_indexOf_7cf53_13 rfl (lv_at hl 0 rfl) ?_
  obtain ⟨hPc, hDc, hFc, hqc⟩ := cl_cut (wc := []) hP hD hS hA [] (by decide +kernel) rfl
  have hKc := hK.sub (tys' := []) [] rfl
  have hrv := bv_Orecv hE_13 hS
  refine va_calli (va_runV (As := []) (rest := [.int 0, .int p1, .ref tv0]) ⟨hx, hb, hml, hown, hts⟩ (c_J0_length_8abf5_1 l dC dI H.size ts0 tv0) (cwV 0 hts gf_c_J0_indexOf_7cf53_c_J0_length_8abf5_1 rfl rfl rfl mdV_J0_length_8abf5 ⟨Nat.le_of_ble_eq_true rfl, Nat.le_of_ble_eq_true rfl⟩) ⟨fun a U g mk q => by obtain ⟨q0, q1, qP, qK, qD, qE0, qE1, qE2, qE3, qE4⟩ := q; exact ⟨q0, q1, qP, va_K.moved (u := U) (U := U.calling g mk a) (Vm.Alike.refl U.vm) qK, qD, va_OF.moved (u := U) (U := U.calling g mk a) (Vm.Alike.refl U.vm) qE0, va_T.moved (u := U) (U := U.calling g mk a) (Vm.Alike.refl U.vm) qE1, va_Z.moved (u := U) (U := U.calling g mk a) (Vm.Alike.refl U.vm) qE2, va_OF.moved (u := U) (U := U.calling g mk a) (Vm.Alike.refl U.vm) qE3, va_O.moved (u := U) (U := U.calling g mk a) (Vm.Alike.refl U.vm) qE4⟩, hrv, fun U hU hW => ⟨rfl, by rw [hU], by rw [hU]; exact hPc, va_K.moved hW.alike hKc, hDc.weaken (fun _ _ _ _ => trivial), va_OF.moved hW.alike (by rw [hU]; exact (hE_15.kept hS.2.1).narrow hFc), va_T.moved hW.alike (by rw [hU]; exact (hE_16.kept hS.2.1).narrow hFc), va_Z.moved hW.alike (by rw [hU]; exact (hE_10.kept hS.2.1).narrow hFc), va_OF.moved hW.alike (by rw [hU]; exact (hE_14.kept hS.2.1).narrow hFc), va_O.moved hW.alike (by rw [hU]; exact (hE_13.kept hS.2.1).narrow hFc)⟩⟩ rfl rfl hl.1 rfl (lv_room (Nat.le_of_ble_eq_true rfl)) dJ0_indexOf_7cf53_14 ⟨Nat.le_of_ble_eq_true rfl, Nat.le_of_ble_eq_true rfl⟩) hS (fun q _ h => hFc q h) hFc (fun r_5 u t H1 locs ht hvm hw hB hz1 hk1 hS => ?_)
  as_aux_lemma =>
  obtain ⟨hP1, hK1, hD1⟩ := hB
  rw [ht] at hP1
  have hP := bv_still hP hk1
  generalize H1 = H at hP hS ⊢
  as_aux_lemma =>
  rcases hw with ⟨h_6, h_7⟩
  have h_7 : r_5 = _ := h_7
  replace hEX := hEX.trans (exc1_eq h_7)
  rw [h_6]
  obtain ⟨hPc, hDc, hFc, hqc⟩ := cl_cut (wc := []) hP hD hS hA [] (by decide +kernel) rfl
  have hKc := hK.sub (tys' := []) [] rfl
  refine va_calli (va_runS (As := [.ref tv0, .int p1, .int 0, .int 3]) (rest := []) ⟨hx, hb, hml, hown, hts⟩ (c_J1_indexOf_4cfef l dC dI H.size tv0 p1 g_p1) (va_cwS 4 hts gf_c_J0_indexOf_7cf53_c_J1_indexOf_4cfef rfl rfl rfl md_J1_indexOf_4cfef ⟨Nat.le_of_ble_eq_true rfl, Nat.le_of_ble_eq_true rfl⟩) ⟨fun a U g mk q => by obtain ⟨q0, q1, qP, qK, qD, qE0⟩ := q; exact ⟨q0, q1, qP, va_K.moved (u := U) (U := U.calling g mk a) (Vm.Alike.refl U.vm) qK, qD, va_T.moved (u := U) (U := U.calling g mk a) (Vm.Alike.refl U.vm) qE0⟩, fun U hU hW => ⟨rfl, by rw [hU], by rw [hU]; exact hPc, va_K.moved hW.alike hKc, hDc.weaken (fun _ _ _ _ => trivial), va_T.moved hW.alike (by rw [hU]; exact (hE_16.kept hS.2.1).narrow hFc)⟩⟩ rfl rfl hl.1 rfl (lv_room (Nat.le_of_ble_eq_true rfl)) dJ0_indexOf_7cf53_17 ⟨Nat.le_of_ble_eq_true rfl, Nat.le_of_ble_eq_true rfl⟩) hS (fun q _ h => hFc q h) hFc (fun r_8 u t H1 locs ht hvm hw hB hz1 hk1 hS => ?_)
  obtain ⟨hP1, hK1, hD1⟩ := hB
  rw [ht] at hP1
  have hP := bv_still hP hk1
  generalize H1 = H at hP hS ⊢
  as_aux_lemma =>
  rcases hw with ⟨h_9, h_10⟩ | ⟨h_11, h_12, h_13⟩
  · have h_10 : r_8 = _ := h_10
    replace hEX := hEX.trans (exc1_eq h_10)
    replace hEX := hEX.trans (if_pos (show r_8 = (-1) from h_9))
    rw [h_9]
    refine lv_goto (tgt := 36) hx hb dJ0_indexOf_7cf53_20 rfl ?_
    have hK9 := hK.sub (tys' := []) [] rfl
    exact W.iret (v := (-1)) hx hb hr (fun t ht hW => ⟨⟨(-1), (), rfl, (Or.inl ⟨rfl, (hR.trans hEX).symm⟩), by rw [ht]; exact hP, va_K.moved hW.alike hK9, hD⟩, hS.F ht⟩) hS.2.2 dJ0_indexOf_7cf53_36
  · have h_13 : r_8 = _ := h_13
    replace hEX := hEX.trans (exc1_eq h_13)
    replace hEX := hEX.trans (if_neg (RG_neq (x := r_8) (c := (-1)) (show RG r_8 0 2 from h_11) (by decide +kernel)))
    refine lv_goto (tgt := 36) hx hb dJ0_indexOf_7cf53_20 rfl ?_
    have hK9 := hK.sub (tys' := []) [] rfl
    exact W.iret (v := r_8) hx hb hr (fun t ht hW => ⟨⟨r_8, (), rfl, (Or.inr ⟨h_11, h_12, (hR.trans hEX).symm⟩), by rw [ht]; exact hP, va_K.moved hW.alike hK9, hD⟩, hS.F ht⟩) hS.2.2 dJ0_indexOf_7cf53_36
noncomputable def wf_c_J0_indexOf_0f7a4 : List Cond := .code yJ0_indexOf_0f7a4 cJ0_indexOf_0f7a4 2 (some .int) :: ([.methodLink RJ0 633 yJ0_indexOf_7cf53, .instanceMethod yJ0_indexOf_7cf53, .selects RJ0 yJ0_indexOf_7cf53 yJ0_indexOf_7cf53, .initialized RJ0, .code yJ0_indexOf_7cf53 cJ0_indexOf_7cf53 3 (some .int), .methodLink RJ0 492 yJ0_isLatin1_aae02, .instanceMethod yJ0_isLatin1_aae02, .selects RJ0 yJ0_isLatin1_aae02 yJ0_isLatin1_aae02, .code yJ0_isLatin1_aae02 cJ0_isLatin1_aae02 1 (some .boolean), .fieldLink RJ0 38 "java/lang/String" "COMPACT_STRINGS" "Z", .fieldLink RJ0 15 "java/lang/String" "coder" "B", .fieldLink RJ0 9 "java/lang/String" "value" "[B", .methodLink RJ0 505 yJ0_length_8abf5, .instanceMethod yJ0_length_8abf5, .selects RJ0 yJ0_length_8abf5 yJ0_length_8abf5, .code yJ0_length_8abf5 cJ0_length_8abf5 1 (some .int), .methodLink RJ0 335 yJ0_coder_7d493, .instanceMethod yJ0_coder_7d493, .selects RJ0 yJ0_coder_7d493 yJ0_coder_7d493, .code yJ0_coder_7d493 cJ0_coder_7d493 1 (some .byte), .methodLink RJ0 637 yJ1_indexOf_4cfef, .static yJ1_indexOf_4cfef, .initialized RJ1, .code yJ1_indexOf_4cfef cJ1_indexOf_4cfef 4 (some .int), .methodLink RJ1 88 yJ1_canEncode_9a6ad, .static yJ1_canEncode_9a6ad, .code yJ1_canEncode_9a6ad cJ1_canEncode_9a6ad 1 (some .boolean), .methodLink RJ1 92 Lib.Math.max.name, .static Lib.Math.max.name, .initialized "java/lang/Math", .code Lib.Math.max.name Lib.Math.max.code 2 (some .int), .methodLink RJ1 38 Lib.Math.min.name, .static Lib.Math.min.name, .code Lib.Math.min.name Lib.Math.min.code 2 (some .int), .methodLink RJ1 95 yJ1_indexOfChar_4cfef, .static yJ1_indexOfChar_4cfef, .code yJ1_indexOfChar_4cfef cJ1_indexOfChar_4cfef 6 (some .int)])
set_option maxRecDepth 20000 in
theorem gf_c_J0_indexOf_0f7a4_c_J0_indexOf_7cf53 : GoodIn wf_c_J0_indexOf_0f7a4 (wsV RJ0 633 RJ0 yJ0_indexOf_7cf53 wf_c_J0_indexOf_7cf53) := goodIn_app (gi_l [1, 2, 3, 4] rfl rfl) (gi_cons (j := 5) rfl rfl (gi_l [6, 7, 8, 4, 9, 10, 11, 12, 13, 14, 15, 16, 17, 18, 19, 20, 21, 22, 23, 24, 25, 26, 27, 28, 29, 30, 31, 32, 33, 34, 35, 36, 37] rfl rfl))
set_option maxHeartbeats 4000000 in
set_option maxRecDepth 100000 in
theorem c_J0_indexOf_0f7a4 (l : Launch) (dC : Nat → ClassId) (dI : Nat → Nat → Nat) (sz : Nat) (ts0 : Nat) (p1 : Int32) (tv0 : Nat) (g_p1 : RG p1 0 65535) : Met l yJ0_indexOf_0f7a4 wf_c_J0_indexOf_0f7a4 ({ frames := 3, cells := 0, slots := 0, locals := 70 }) (va_Pc [.ref ts0, .int p1] (fun U => U.heap.size = sz ∧ va_P (dC, dI) vwCl [] U.heap ∧ va_K (dC, dI) vwCl [] U ∧ va_D (fun _ => True) [] ∧ va_Z "java/lang/String" "COMPACT_STRINGS" "Z" (.int 1) (va_A [] sz) U U.heap ∧ va_OF "java/lang/String" "coder" "B" (.int 0) ts0 (va_A [] sz) U U.heap ∧ va_O "java/lang/String" ts0 (va_A [] sz) U U.heap ∧ va_OF "java/lang/String" "value" "[B" (.ref tv0) ts0 (va_A [] sz) U U.heap ∧ va_T .byte tv0 3 (fun j => .int ([115, 98, 99].getD j 0)) (va_A [] sz) U U.heap)) (va_Qi (fun (r : Int32) (u : Unit) => (r = (-1) ∧ r = fx_c_J0_indexOf_0f7a4 p1) ∨ (RG r 0 2 ∧ RG p1 0 255 ∧ r = fx_c_J0_indexOf_0f7a4 p1)) (fun (u : Unit) t => va_P (dC, dI) vwCl [] t.heap ∧ va_K (dC, dI) vwCl [] t ∧ va_D (va_A [] sz) []) (va_A [] sz)) 0 0 (va_A [] sz) := by
  refine Met.ofW (cc := cJ0_indexOf_0f7a4) (maxL := 2) (ret := (some .int)) (by decide +kernel) rfl ?_
  intro p e s m args below meth c s₁ B hml hv
  obtain ⟨rfl, hsz, hP, hK, hD0, hE_10, hE_14, hE_13, hE_15, hE_16⟩ := hv
  have hx := B.exec
  have hb := B.bytes
  have hr := B.returns
  have hts := atoms_spec (ws := wf_c_J0_indexOf_0f7a4) B.pre
  have hown : s.vm.findClass RJ0 = some m.cls := findClass_of_methodNamed B.named
  have hlocks := B.notSynchronized
  subst hsz
  have hD := hD0.self (sz := s.heap.size)
  generalize hAe : va_A [] s.heap.size = A at hD hE_10 hE_14 hE_13 hE_15 hE_16 ⊢
  have hA : ∀ q : Nat, s.heap.size ≤ q → A q := fun q h => by rw [← hAe]; exact Or.inr h
  have hP : va_P (dC, dI) vwCl [] s.heap := hP
  have hl := lv_entry ([.ref ts0, .int p1]) (n := 2) (Nat.le_of_ble_eq_true rfl)
  rw [lg_entry_eq]
  generalize (lg_sl ([.ref ts0, .int p1]) ++ List.replicate (2 - (lg_sl ([.ref ts0, .int p1])).length) Slot.unset).toArray = ls at hl ⊢
  have hl : lv_has ls 2 [(0, .ref ts0), (1, .int p1)] := hl
  obtain ⟨H, hHe⟩ : ∃ H : Heap, s.heap = H := ⟨_, rfl⟩
  have hS : va_S A s.heap H [] := by rw [hHe]; exact va_S.rf
  have hP : va_P (dC, dI) vwCl [] H := by rw [← hHe]; exact hP
  rw [hHe]
  obtain ⟨RES, hR⟩ : ∃ z, fx_c_J0_indexOf_0f7a4 p1 = z := ⟨_, rfl⟩
  have hEX : RES = fx_c_J0_indexOf_0f7a4 p1 := hR.symm
  refine lv_aload_n hx hb dJ0_indexOf_0f7a4_0 rfl (lv_at hl 0 rfl) ?_
  as_aux_lemma =>
  refine lv_iload_n hx hb dJ0_indexOf_0f7a4_1 rfl (lv_at hl 1 rfl) ?_
  refine lv_iconst (v := 0) hx hb dJ0_indexOf_0f7a4_2 kc_iconst_0 ?_
  obtain ⟨hPc, hDc, hFc, hqc⟩ := cl_cut (wc := []) hP hD hS hA [] (by decide +kernel) rfl
  have hKc := hK.sub (tys' := []) [] rfl
  have hrv := bv_Orecv hE_13 hS
  refine va_calli (va_runV (As := [.int p1, .int 0]) (rest := []) ⟨hx, hb, hml, hown, hts⟩ (c_J0_indexOf_7cf53 l dC dI H.size ts0 p1 tv0 g_p1) (cwV 2 hts gf_c_J0_indexOf_0f7a4_c_J0_indexOf_7cf53 rfl rfl rfl mdV_J0_indexOf_7cf53 ⟨Nat.le_of_ble_eq_true rfl, Nat.le_of_ble_eq_true rfl⟩) ⟨fun a U g mk q => by obtain ⟨q0, q1, qP, qK, qD, qE0, qE1, qE2, qE3, qE4⟩ := q; exact ⟨q0, q1, qP, va_K.moved (u := U) (U := U.calling g mk a) (Vm.Alike.refl U.vm) qK, qD, va_Z.moved (u := U) (U := U.calling g mk a) (Vm.Alike.refl U.vm) qE0, va_OF.moved (u := U) (U := U.calling g mk a) (Vm.Alike.refl U.vm) qE1, va_O.moved (u := U) (U := U.calling g mk a) (Vm.Alike.refl U.vm) qE2, va_OF.moved (u := U) (U := U.calling g mk a) (Vm.Alike.refl U.vm) qE3, va_T.moved (u := U) (U := U.calling g mk a) (Vm.Alike.refl U.vm) qE4⟩, hrv, fun U hU hW => ⟨rfl, by rw [hU], by rw [hU]; exact hPc, va_K.moved hW.alike hKc, hDc.weaken (fun _ _ _ _ => trivial), va_Z.moved hW.alike (by rw [hU]; exact (hE_10.kept hS.2.1).narrow hFc), va_OF.moved hW.alike (by rw [hU]; exact (hE_14.kept hS.2.1).narrow hFc), va_O.moved hW.alike (by rw [hU]; exact (hE_13.kept hS.2.1).narrow hFc), va_OF.moved hW.alike (by rw [hU]; exact (hE_15.kept hS.2.1).narrow hFc), va_T.moved hW.alike (by rw [hU]; exact (hE_16.kept hS.2.1).narrow hFc)⟩⟩ rfl rfl hl.1 rfl (lv_room (Nat.le_of_ble_eq_true rfl)) dJ0_indexOf_0f7a4_3 ⟨Nat.le_of_ble_eq_true rfl, Nat.le_of_ble_eq_true rfl⟩) hS (fun q _ h => hFc q h) hFc (fun r_1 u t H1 locs ht hvm hw hB hz1 hk1 hS => ?_)
  obtain ⟨hP1, hK1, hD1⟩ := hB
  rw [ht] at hP1
  have hP := bv_still hP hk1
  generalize H1 = H at hP hS ⊢
  as_aux_lemma =>
  rcases hw with ⟨h_2, h_3⟩ | ⟨h_4, h_5, h_6⟩
  · have h_3 : r_1 = _ := h_3
    replace hEX := hEX.trans (exc1_eq h_3)
    replace hEX := hEX.trans (if_pos (show r_1 = (-1) from h_2))
    rw [h_2]
    have hK9 := hK.sub (tys' := []) [] rfl
    exact W.iret (v := (-1)) hx hb hr (fun t ht hW => ⟨⟨(-1), (), rfl, (Or.inl ⟨rfl, (hR.trans hEX).symm⟩), by rw [ht]; exact hP, va_K.moved hW.alike hK9, hD⟩, hS.F ht⟩) hS.2.2 dJ0_indexOf_0f7a4_6
  · have h_6 : r_1 = _ := h_6
    replace hEX := hEX.trans (exc1_eq h_6)
    replace hEX := hEX.trans (if_neg (RG_neq (x := r_1) (c := (-1)) (show RG r_1 0 2 from h_4) (by decide +kernel)))
    have hK9 := hK.sub (tys' := []) [] rfl
    exact W.iret (v := r_1) hx hb hr (fun t ht hW => ⟨⟨r_1, (), rfl, (Or.inr ⟨h_4, h_5, (hR.trans hEX).symm⟩), by rw [ht]; exact hP, va_K.moved hW.alike hK9, hD⟩, hS.F ht⟩) hS.2.2 dJ0_indexOf_0f7a4_6
noncomputable def wf_c_X0_placeIn_1 : List Cond := .code yX0_placeIn cX0_placeIn 2 (some .int) :: ([.methodLink RX0 128 yJ0_indexOf_0f7a4, .instanceMethod yJ0_indexOf_0f7a4, .selects RJ0 yJ0_indexOf_0f7a4 yJ0_indexOf_0f7a4, .initialized RJ0, .code yJ0_indexOf_0f7a4 cJ0_indexOf_0f7a4 2 (some .int), .methodLink RJ0 633 yJ0_indexOf_7cf53, .instanceMethod yJ0_indexOf_7cf53, .selects RJ0 yJ0_indexOf_7cf53 yJ0_indexOf_7cf53, .code yJ0_indexOf_7cf53 cJ0_indexOf_7cf53 3 (some .int), .methodLink RJ0 492 yJ0_isLatin1_aae02, .instanceMethod yJ0_isLatin1_aae02, .selects RJ0 yJ0_isLatin1_aae02 yJ0_isLatin1_aae02, .code yJ0_isLatin1_aae02 cJ0_isLatin1_aae02 1 (some .boolean), .fieldLink RJ0 38 "java/lang/String" "COMPACT_STRINGS" "Z", .fieldLink RJ0 15 "java/lang/String" "coder" "B", .fieldLink RJ0 9 "java/lang/String" "value" "[B", .methodLink RJ0 505 yJ0_length_8abf5, .instanceMethod yJ0_length_8abf5, .selects RJ0 yJ0_length_8abf5 yJ0_length_8abf5, .code yJ0_length_8abf5 cJ0_length_8abf5 1 (some .int), .methodLink RJ0 335 yJ0_coder_7d493, .instanceMethod yJ0_coder_7d493, .selects RJ0 yJ0_coder_7d493 yJ0_coder_7d493, .code yJ0_coder_7d493 cJ0_coder_7d493 1 (some .byte), .methodLink RJ0 637 yJ1_indexOf_4cfef, .static yJ1_indexOf_4cfef, .initialized RJ1, .code yJ1_indexOf_4cfef cJ1_indexOf_4cfef 4 (some .int), .methodLink RJ1 88 yJ1_canEncode_9a6ad, .static yJ1_canEncode_9a6ad, .code yJ1_canEncode_9a6ad cJ1_canEncode_9a6ad 1 (some .boolean), .methodLink RJ1 92 Lib.Math.max.name, .static Lib.Math.max.name, .initialized "java/lang/Math", .code Lib.Math.max.name Lib.Math.max.code 2 (some .int), .methodLink RJ1 38 Lib.Math.min.name, .static Lib.Math.min.name, .code Lib.Math.min.name Lib.Math.min.code 2 (some .int), .methodLink RJ1 95 yJ1_indexOfChar_4cfef, .static yJ1_indexOfChar_4cfef, .code yJ1_indexOfChar_4cfef cJ1_indexOfChar_4cfef 6 (some .int)])
set_option maxRecDepth 20000 in
theorem gf_c_X0_placeIn_1_c_J0_indexOf_0f7a4 : GoodIn wf_c_X0_placeIn_1 (wsV RX0 128 RJ0 yJ0_indexOf_0f7a4 wf_c_J0_indexOf_0f7a4) := goodIn_app (gi_l [1, 2, 3, 4] rfl rfl) (gi_cons (j := 5) rfl rfl (gi_l [6, 7, 8, 4, 9, 10, 11, 12, 13, 14, 15, 16, 17, 18, 19, 20, 21, 22, 23, 24, 25, 26, 27, 28, 29, 30, 31, 32, 33, 34, 35, 36, 37, 38, 39, 40, 41] rfl rfl))
set_option maxHeartbeats 4000000 in
set_option maxRecDepth 100000 in
theorem c_X0_placeIn_1 (l : Launch) (dC : Nat → ClassId) (dI : Nat → Nat → Nat) (sz : Nat) (ts0 : Nat) (p1 : Int32) (tv0 : Nat) (g_p1 : RG p1 0 255) : Met l yX0_placeIn wf_c_X0_placeIn_1 ({ frames := 4, cells := 0, slots := 0, locals := 91 }) (va_Pc [.ref ts0, .int p1] (fun U => U.heap.size = sz ∧ va_P (dC, dI) vwCl [] U.heap ∧ va_K (dC, dI) vwCl [] U ∧ va_D (fun _ => True) [] ∧ va_Z "java/lang/String" "COMPACT_STRINGS" "Z" (.int 1) (va_A [] sz) U U.heap ∧ va_OF "java/lang/String" "coder" "B" (.int 0) ts0 (va_A [] sz) U U.heap ∧ va_O "java/lang/String" ts0 (va_A [] sz) U U.heap ∧ va_OF "java/lang/String" "value" "[B" (.ref tv0) ts0 (va_A [] sz) U U.heap ∧ va_T .byte tv0 3 (fun j => .int ([115, 98, 99].getD j 0)) (va_A [] sz) U U.heap)) (va_Qi (fun (r : Int32) (u : Unit) => (r = (-1) ∧ r = fx_c_X0_placeIn_1 p1) ∨ (RG r 0 2 ∧ r = fx_c_X0_placeIn_1 p1)) (fun (u : Unit) t => va_P (dC, dI) vwCl [] t.heap ∧ va_K (dC, dI) vwCl [] t ∧ va_D (va_A [] sz) []) (va_A [] sz)) 0 0 (va_A [] sz) := by
  refine Met.ofW (cc := cX0_placeIn) (maxL := 2) (ret := (some .int)) (by decide +kernel) rfl ?_
  intro p e s m args below meth c s₁ B hml hv
  obtain ⟨rfl, hsz, hP, hK, hD0, hE_10, hE_14, hE_13, hE_15, hE_16⟩ := hv
  have hx := B.exec
  have hb := B.bytes
  have hr := B.returns
  have hts := atoms_spec (ws := wf_c_X0_placeIn_1) B.pre
  have hown : s.vm.findClass RX0 = some m.cls := findClass_of_methodNamed B.named
  have hlocks := B.notSynchronized
  subst hsz
  have hD := hD0.self (sz := s.heap.size)
  generalize hAe : va_A [] s.heap.size = A at hD hE_10 hE_14 hE_13 hE_15 hE_16 ⊢
  have hA : ∀ q : Nat, s.heap.size ≤ q → A q := fun q h => by rw [← hAe]; exact Or.inr h
  have hP : va_P (dC, dI) vwCl [] s.heap := hP
  have hl := lv_entry ([.ref ts0, .int p1]) (n := 2) (Nat.le_of_ble_eq_true rfl)
  rw [lg_entry_eq]
  generalize (lg_sl ([.ref ts0, .int p1]) ++ List.replicate (2 - (lg_sl ([.ref ts0, .int p1])).length) Slot.unset).toArray = ls at hl ⊢
  have hl : lv_has ls 2 [(0, .ref ts0), (1, .int p1)] := hl
  obtain ⟨H, hHe⟩ : ∃ H : Heap, s.heap = H := ⟨_, rfl⟩
  have hS : va_S A s.heap H [] := by rw [hHe]; exact va_S.rf
  have hP : va_P (dC, dI) vwCl [] H := by rw [← hHe]; exact hP
  rw [hHe]
  obtain ⟨RES, hR⟩ : ∃ z, fx_c_X0_placeIn_1 p1 = z := ⟨_, rfl⟩
  have hEX : RES = fx_c_X0_placeIn_1 p1 := hR.symm
  refine lv_iload_n hx hb dX0_placeIn_0 rfl (lv_at hl 1 rfl) ?_
  as_aux_lemma =>
  refine lv_if_ge (tgt := 8) hx hb dX0_placeIn_1 rfl (fun c_1 => ?_) (fun c_1 => ?_)
  · replace hEX := hEX.trans (if_pos c_1)
    refine lv_aload_n hx hb dX0_placeIn_8 rfl (lv_at hl 0 rfl) ?_
    refine lv_iload_n hx hb dX0_placeIn_9 rfl (lv_at hl 1 rfl) ?_
    refine lv_i2c hx hb dX0_placeIn_10 rfl ?_
    refine lv_topi (fun x_2 ex_2 => ?_)
    replace hEX := hEX.trans (exl_eq ex_2)
    have g_3 : RG x_2 0 65535 := RG_i2c ex_2
    obtain ⟨hPc, hDc, hFc, hqc⟩ := cl_cut (wc := []) hP hD hS hA [] (by decide +kernel) rfl
    have hKc := hK.sub (tys' := []) [] rfl
    have hrv := bv_Orecv hE_13 hS
    refine va_calli (va_runV (As := [.int x_2]) (rest := []) ⟨hx, hb, hml, hown, hts⟩ (c_J0_indexOf_0f7a4 l dC dI H.size ts0 x_2 tv0 g_3) (cwV 1 hts gf_c_X0_placeIn_1_c_J0_indexOf_0f7a4 rfl rfl rfl mdV_J0_indexOf_0f7a4 ⟨Nat.le_of_ble_eq_true rfl, Nat.le_of_ble_eq_true rfl⟩) ⟨fun a U g mk q => by obtain ⟨q0, q1, qP, qK, qD, qE0, qE1, qE2, qE3, qE4⟩ := q; exact ⟨q0, q1, qP, va_K.moved (u := U) (U := U.calling g mk a) (Vm.Alike.refl U.vm) qK, qD, va_Z.moved (u := U) (U := U.calling g mk a) (Vm.Alike.refl U.vm) qE0, va_OF.moved (u := U) (U := U.calling g mk a) (Vm.Alike.refl U.vm) qE1, va_O.moved (u := U) (U := U.calling g mk a) (Vm.Alike.refl U.vm) qE2, va_OF.moved (u := U) (U := U.calling g mk a) (Vm.Alike.refl U.vm) qE3, va_T.moved (u := U) (U := U.calling g mk a) (Vm.Alike.refl U.vm) qE4⟩, hrv, fun U hU hW => ⟨rfl, by rw [hU], by rw [hU]; exact hPc, va_K.moved hW.alike hKc, hDc.weaken (fun _ _ _ _ => trivial), va_Z.moved hW.alike (by rw [hU]; exact (hE_10.kept hS.2.1).narrow hFc), va_OF.moved hW.alike (by rw [hU]; exact (hE_14.kept hS.2.1).narrow hFc), va_O.moved hW.alike (by rw [hU]; exact (hE_13.kept hS.2.1).narrow hFc), va_OF.moved hW.alike (by rw [hU]; exact (hE_15.kept hS.2.1).narrow hFc), va_T.moved hW.alike (by rw [hU]; exact (hE_16.kept hS.2.1).narrow hFc)⟩⟩ rfl rfl hl.1 rfl (lv_room (Nat.le_of_ble_eq_true rfl)) dX0_placeIn_11 ⟨Nat.le_of_ble_eq_true rfl, Nat.le_of_ble_eq_true rfl⟩) hS (fun q _ h => hFc q h) hFc (fun r_4 u t H1 locs ht hvm hw hB hz1 hk1 hS => ?_)
    obtain ⟨hP1, hK1, hD1⟩ := hB
    rw [ht] at hP1
    have hP := bv_still hP hk1
    generalize H1 = H at hP hS ⊢
    as_aux_lemma =>
    rcases hw with ⟨h_5, h_6⟩ | ⟨h_7, h_8, h_9⟩
    · have h_6 : r_4 = _ := h_6
      replace hEX := hEX.trans (exc1_eq h_6)
      replace hEX := hEX.trans (if_pos (show r_4 = (-1) from h_5))
      rw [h_5]
      have hK9 := hK.sub (tys' := []) [] rfl
      exact W.iret (v := (-1)) hx hb hr (fun t ht hW => ⟨⟨(-1), (), rfl, (Or.inl ⟨rfl, (hR.trans hEX).symm⟩), by rw [ht]; exact hP, va_K.moved hW.alike hK9, hD⟩, hS.F ht⟩) hS.2.2 dX0_placeIn_14
    · have h_9 : r_4 = _ := h_9
      replace hEX := hEX.trans (exc1_eq h_9)
      replace hEX := hEX.trans (if_neg (RG_neq (x := r_4) (c := (-1)) (show RG r_4 0 2 from h_7) (by decide +kernel)))
      have hK9 := hK.sub (tys' := []) [] rfl
      exact W.iret (v := r_4) hx hb hr (fun t ht hW => ⟨⟨r_4, (), rfl, (Or.inr ⟨h_7, (hR.trans hEX).symm⟩), by rw [ht]; exact hP, va_K.moved hW.alike hK9, hD⟩, hS.F ht⟩) hS.2.2 dX0_placeIn_14
  · replace hEX := hEX.trans (if_neg c_1)
    have d_10 := Int32.not_le.mp c_1
    have g_11 : RG p1 0 (-1) := RG_lt1 g_p1 (RG_k 0 0 rfl) d_10 (by decide +kernel)
    exact RG_dead (RG_lt1 g_p1 (RG_k 0 0 rfl) d_10 (b' := (-1)) (by decide +kernel)) (by decide +kernel)
noncomputable def wd_c_X0_hasRoomFor (a0 : Nat) (a1 : Nat) (a2 : Int32) (a3 : Int32) (a4 : Int32) : va_W := [(a0, .inr (0, [.ref a1, .int a2, .int a3, .int a4]))]
noncomputable def wf_c_X0_hasRoomFor : List Cond := List.cons (.code yX0_hasRoomFor cX0_hasRoomFor 2 (some .boolean)) (@HAppend.hAppend (List Cond) (List Cond) (List Cond) _ [.fieldLink RX0 28 "BuoyVote$Borough" "ruled" "Z"] wsX00)
theorem iw_c_X0_hasRoomFor_X0 : ∀ w ∈ wsX00, w ∈ wf_c_X0_hasRoomFor := fun w h => List.mem_cons_of_mem _ (List.mem_append_right _ h)
set_option maxHeartbeats 4000000 in
set_option maxRecDepth 100000 in
theorem c_X0_hasRoomFor (l : Launch) (dC : Nat → ClassId) (dI : Nat → Nat → Nat) (sz : Nat) (h0 : Nat) (h0_0 : Nat) (h0_f1 : Int32) (h0_f2 : Int32) (h0_f3 : Int32) (g_h0_f1 : RG h0_f1 0 8) (g_h0_f2 : RG h0_f2 0 3) (g_h0_f3 : RG h0_f3 0 1) : Met l yX0_hasRoomFor wf_c_X0_hasRoomFor ({ frames := 0, cells := 0, slots := 0, locals := 0 }) (va_Pc [.ref h0, .int 0] (fun U => U.heap.size = sz ∧ va_P (dC, dI) vwCl (wd_c_X0_hasRoomFor h0 h0_0 h0_f1 h0_f2 h0_f3) U.heap ∧ va_K (dC, dI) vwCl [] U ∧ va_D (fun _ => True) (wd_c_X0_hasRoomFor h0 h0_0 h0_f1 h0_f2 h0_f3))) (va_Qi (fun (r : Int32) (u : Unit) => (r = 0 ∧ RG h0_f3 1 1 ∧ r = fx_c_X0_hasRoomFor h0_f3) ∨ (r = 1 ∧ RG h0_f3 0 0 ∧ r = fx_c_X0_hasRoomFor h0_f3)) (fun (u : Unit) t => va_P (dC, dI) vwCl (wd_c_X0_hasRoomFor h0 h0_0 h0_f1 h0_f2 h0_f3) t.heap ∧ va_K (dC, dI) vwCl [] t ∧ va_D (va_A (wd_c_X0_hasRoomFor h0 h0_0 h0_f1 h0_f2 h0_f3) sz) (wd_c_X0_hasRoomFor h0 h0_0 h0_f1 h0_f2 h0_f3)) (va_A (wd_c_X0_hasRoomFor h0 h0_0 h0_f1 h0_f2 h0_f3) sz)) 0 0 (va_A (wd_c_X0_hasRoomFor h0 h0_0 h0_f1 h0_f2 h0_f3) sz) := by
  refine Met.ofW (cc := cX0_hasRoomFor) (maxL := 2) (ret := (some .boolean)) (by decide +kernel) rfl ?_
  intro p e s m args below meth c s₁ B hml hv
  obtain ⟨rfl, hsz, hP, hK, hD0⟩ := hv
  have hx := B.exec
  have hb := B.bytes
  have hr := B.returns
  have hts := atoms_spec (ws := wf_c_X0_hasRoomFor) B.pre
  have hown : s.vm.findClass RX0 = some m.cls := findClass_of_methodNamed B.named
  have hlocks := B.notSynchronized
  subst hsz
  have hD := hD0.self (sz := s.heap.size)
  generalize hAe : va_A (wd_c_X0_hasRoomFor h0 h0_0 h0_f1 h0_f2 h0_f3) s.heap.size = A at hD ⊢
  have hA : ∀ q : Nat, s.heap.size ≤ q → A q := fun q h => by rw [← hAe]; exact Or.inr h
  have hP : va_P (dC, dI) vwCl (wd_c_X0_hasRoomFor h0 h0_0 h0_f1 h0_f2 h0_f3) s.heap := hP
  have hl := lv_entry ([.ref h0, .int 0]) (n := 2) (Nat.le_of_ble_eq_true rfl)
  rw [lg_entry_eq]
  generalize (lg_sl ([.ref h0, .int 0]) ++ List.replicate (2 - (lg_sl ([.ref h0, .int 0])).length) Slot.unset).toArray = ls at hl ⊢
  have hl : lv_has ls 2 [(0, .ref h0), (1, .int 0)] := hl
  obtain ⟨H, hHe⟩ : ∃ H : Heap, s.heap = H := ⟨_, rfl⟩
  have hS : va_S A s.heap H [] := by rw [hHe]; exact va_S.rf
  have hP : va_P (dC, dI) vwCl (wd_c_X0_hasRoomFor h0 h0_0 h0_f1 h0_f2 h0_f3) H := by rw [← hHe]; exact hP
  rw [hHe]
  obtain ⟨RES, hR⟩ : ∃ z, fx_c_X0_hasRoomFor h0_f3 = z := ⟨_, rfl⟩
  have hEX : RES = fx_c_X0_hasRoomFor h0_f3 := hR.symm
  refine lv_iload_n hx hb dX0_hasRoomFor_0 rfl (lv_at hl 1 rfl) ?_
  as_aux_lemma =>
  refine lv_if_ne (tgt := 17) hx hb dX0_hasRoomFor_1 rfl (fun c_1 => absurd c_1 (by decide +kernel)) (fun c_1 => ?_)
  refine lv_aload_n hx hb dX0_hasRoomFor_4 rfl (lv_at hl 0 rfl) ?_
  refine va_get (D := (dC, dI)) (ci := 0) (v := .int h0_f3) (C := RX0) (T := TX0) (N := 4) hx hb hts iw_c_X0_hasRoomFor_X0 hown hK hP 0 rfl rfl 3 (by decide +kernel) (hts (.fieldLink RX0 28 "BuoyVote$Borough" "ruled" "Z") (List.mem_of_getElem? (i := 1) rfl)) (fun _ h9 => h9) rfl dX0_hasRoomFor_5 ?_
  refine lv_if_ne (tgt := 15) hx hb dX0_hasRoomFor_8 rfl (fun c_2 => ?_) (fun c_2 => ?_)
  · replace hEX := hEX.trans (if_neg c_2)
    have g_3 : RG h0_f3 1 1 := RG_ne1 g_h0_f3 (q := 0) rfl c_2 (by decide +kernel)
    refine lv_iconst (v := 0) hx hb dX0_hasRoomFor_15 kc_iconst_0 ?_
    have hK9 := hK.sub (tys' := []) [] rfl
    exact W.zret (v := 0) hx hb hr rfl (fun t ht hW => ⟨⟨0, (), rfl, (Or.inl ⟨rfl, g_3, (hR.trans hEX).symm⟩), by rw [ht]; exact hP, va_K.moved hW.alike hK9, hD⟩, hS.F ht⟩) hS.2.2 dX0_hasRoomFor_16
  · replace hEX := hEX.trans (if_pos c_2)
    have g_4 : RG h0_f3 0 0 := RG_eq1 g_h0_f3 (RG_k 0 0 rfl) c_2 (by decide +kernel)
    refine lv_iconst (v := 1) hx hb dX0_hasRoomFor_11 kc_iconst_1 ?_
    refine lv_goto (tgt := 16) hx hb dX0_hasRoomFor_12 rfl ?_
    have hK9 := hK.sub (tys' := []) [] rfl
    exact W.zret (v := 1) hx hb hr rfl (fun t ht hW => ⟨⟨1, (), rfl, (Or.inr ⟨rfl, g_4, (hR.trans hEX).symm⟩), by rw [ht]; exact hP, va_K.moved hW.alike hK9, hD⟩, hS.F ht⟩) hS.2.2 dX0_hasRoomFor_16
noncomputable def wd_c_X9_skip (a0 : Nat) (a1 : Nat) (a2 : Int32) (a3 : Int32) (a4 : Int32) : va_W := [(a0, .inr (9, [.ref a1, .int a2, .int a3, .int a4]))]
noncomputable def wf_c_X9_skip : List Cond := List.cons (.code yX9_skip cX9_skip 1 none) (@HAppend.hAppend (List Cond) (List Cond) (List Cond) _ [.fieldLink RX9 22 "BuoyVote$Tape" "at" "I"] wsX90)
theorem iw_c_X9_skip_X9 : ∀ w ∈ wsX90, w ∈ wf_c_X9_skip := fun w h => List.mem_cons_of_mem _ (List.mem_append_right _ h)
set_option maxHeartbeats 4000000 in
set_option maxRecDepth 100000 in
theorem c_X9_skip (l : Launch) (dC : Nat → ClassId) (dI : Nat → Nat → Nat) (sz : Nat) (h0 : Nat) (h0_0 : Nat) (h0_f1 : Int32) (h0_f2 : Int32) (h0_f3 : Int32) (g_h0_f1 : RG h0_f1 0 240) (g_h0_f2 : RG h0_f2 0 239) (g_h0_f3 : RG h0_f3 (-1) 240) : Met l yX9_skip wf_c_X9_skip ({ frames := 0, cells := 0, slots := 0, locals := 0 }) (va_Pc [.ref h0] (fun U => U.heap.size = sz ∧ va_P (dC, dI) vwCl (wd_c_X9_skip h0 h0_0 h0_f1 h0_f2 h0_f3) U.heap ∧ va_K (dC, dI) vwCl [] U ∧ va_D (fun _ => True) (wd_c_X9_skip h0 h0_0 h0_f1 h0_f2 h0_f3))) (va_Qv (fun (u : (Int32)) => (RG u 1 240 ∧ u = h0_f2 + 1 ∧ h0_f2.toInt + 1 ≤ (u).toInt ∧ u = fx_c_X9_skip h0_f2)) (fun (u : (Int32)) t => va_P (dC, dI) vwCl (wd_c_X9_skip h0 h0_0 h0_f1 u h0_f3) t.heap ∧ va_K (dC, dI) vwCl [] t ∧ va_D (va_A (wd_c_X9_skip h0 h0_0 h0_f1 h0_f2 h0_f3) sz) (wd_c_X9_skip h0 h0_0 h0_f1 u h0_f3)) (va_A (wd_c_X9_skip h0 h0_0 h0_f1 h0_f2 h0_f3) sz)) 0 0 (va_A (wd_c_X9_skip h0 h0_0 h0_f1 h0_f2 h0_f3) sz) := by
  refine Met.ofW (cc := cX9_skip) (maxL := 1) (ret := none) (by decide +kernel) rfl ?_
  intro p e s m args below meth c s₁ B hml hv
  obtain ⟨rfl, hsz, hP, hK, hD0⟩ := hv
  have hx := B.exec
  have hb := B.bytes
  have hr := B.returns
  have hts := atoms_spec (ws := wf_c_X9_skip) B.pre
  have hown : s.vm.findClass RX9 = some m.cls := findClass_of_methodNamed B.named
  have hlocks := B.notSynchronized
  subst hsz
  have hD := hD0.self (sz := s.heap.size)
  generalize hAe : va_A (wd_c_X9_skip h0 h0_0 h0_f1 h0_f2 h0_f3) s.heap.size = A at hD ⊢
  have hA : ∀ q : Nat, s.heap.size ≤ q → A q := fun q h => by rw [← hAe]; exact Or.inr h
  have hP : va_P (dC, dI) vwCl (wd_c_X9_skip h0 h0_0 h0_f1 h0_f2 h0_f3) s.heap := hP
  have hl := lv_entry ([.ref h0]) (n := 1) (Nat.le_of_ble_eq_true rfl)
  rw [lg_entry_eq]
  generalize (lg_sl ([.ref h0]) ++ List.replicate (1 - (lg_sl ([.ref h0])).length) Slot.unset).toArray = ls at hl ⊢
  have hl : lv_has ls 1 [(0, .ref h0)] := hl
  obtain ⟨H, hHe⟩ : ∃ H : Heap, s.heap = H := ⟨_, rfl⟩
  have hS : va_S A s.heap H [] := by rw [hHe]; exact va_S.rf
  have hP : va_P (dC, dI) vwCl (wd_c_X9_skip h0 h0_0 h0_f1 h0_f2 h0_f3) H := by rw [← hHe]; exact hP
  rw [hHe]
  obtain ⟨RES, hR⟩ : ∃ z, fx_c_X9_skip h0_f2 = z := ⟨_, rfl⟩
  have hEX : RES = fx_c_X9_skip h0_f2 := hR.symm
  refine lv_aload_n hx hb dX9_skip_0 rfl (lv_at hl 0 rfl) ?_
  as_aux_lemma =>
  refine lv_dup hx hb dX9_skip_1 rfl ?_
  refine va_get (D := (dC, dI)) (ci := 9) (v := .int h0_f2) (C := RX9) (T := TX9) (N := 4) hx hb hts iw_c_X9_skip_X9 hown hK hP 0 rfl rfl 2 (by decide +kernel) (hts (.fieldLink RX9 22 "BuoyVote$Tape" "at" "I") (List.mem_of_getElem? (i := 1) rfl)) (fun _ h9 => h9) rfl dX9_skip_2 ?_
  refine lv_iconst (v := 1) hx hb dX9_skip_5 kc_iconst_1 ?_
  refine lv_iadd hx hb dX9_skip_6 ?_
  refine lv_topi (fun x_1 ex_1 => ?_)
  replace hEX := hEX.trans (exl_eq ex_1)
  have g_2 : RG x_1 1 240 := RG_add ex_1 g_h0_f2 (RG_k 1 1 rfl) (by decide +kernel)
  have q_3 : x_1.toInt = h0_f2.toInt + 1 := eq_add ex_1 g_h0_f2 (q := 1) rfl (by decide +kernel)
  refine va_put (D := (dC, dI)) (ci := 9) (v := .int x_1) (ty := .int) (C := RX9) (T := TX9) (N := 4) hx hb hts iw_c_X9_skip_X9 tyX9 tyX9_ok nmX9 hown hK hP hD hS 0 rfl rfl 2 (by decide +kernel) (hts (.fieldLink RX9 22 "BuoyVote$Tape" "at" "I") (List.mem_of_getElem? (i := 1) rfl)) (fun _ h9 => h9) rfl (by decide +kernel) rfl rfl (Nat.le_of_ble_eq_true rfl) dX9_skip_7 (fun H locs hP hD hS => ?_)
  have hP : va_P (dC, dI) vwCl (wd_c_X9_skip h0 h0_0 h0_f1 x_1 h0_f3) H := hP
  have hD : va_D A (wd_c_X9_skip h0 h0_0 h0_f1 x_1 h0_f3) := hD
  have hK9 := hK.sub (tys' := []) [] rfl
  exact W.vret hx hb hr (fun t ht hW => ⟨⟨x_1, rfl, ⟨g_2, ex_1, (by have := q_3; show h0_f2.toInt + 1 ≤ x_1.toInt; omega), (hR.trans hEX).symm⟩, by rw [ht]; exact hP, va_K.moved hW.alike hK9, hD⟩, hS.F ht⟩) hS.2.2 dX9_skip_10
noncomputable def wd_c_X0_beginClause (a0 : Nat) (a1 : Nat) (a2 : Int32) (a3 : Int32) (a4 : Int32) (a5 : Nat) (a6 : ClassId) (a7 : Nat → Int32) : va_W := [(a0, .inr (0, [.ref a1, .int a2, .int a3, .int a4])), (a5, .inl (a6, 80, .inl a7))]
noncomputable def wf_c_X0_beginClause : List Cond := List.cons (.code yX0_beginClause cX0_beginClause 3 (some .int)) (@HAppend.hAppend (List Cond) (List Cond) (List Cond) _ [.fieldLink RX0 28 "BuoyVote$Borough" "ruled" "Z", .methodLink RX0 32 yX0_setUsual, .instanceMethod yX0_setUsual, .selects RX0 yX0_setUsual yX0_setUsual, .initialized RX0, .code yX0_setUsual cX0_setUsual 5 none, .methodLink RX0 92 yX0_lettersOf, .static yX0_lettersOf, .code yX0_lettersOf cX0_lettersOf 1 (some (.object "java/lang/String")), .methodLink RX0 96 yJ0_length_8abf5, .instanceMethod yJ0_length_8abf5, .selects RJ0 yJ0_length_8abf5 yJ0_length_8abf5, .initialized RJ0, .code yJ0_length_8abf5 cJ0_length_8abf5 1 (some .int), .fieldLink RJ0 9 "java/lang/String" "value" "[B", .methodLink RJ0 335 yJ0_coder_7d493, .instanceMethod yJ0_coder_7d493, .selects RJ0 yJ0_coder_7d493 yJ0_coder_7d493, .code yJ0_coder_7d493 cJ0_coder_7d493 1 (some .byte), .fieldLink RJ0 38 "java/lang/String" "COMPACT_STRINGS" "Z", .fieldLink RJ0 15 "java/lang/String" "coder" "B", .fieldLink RX0 11 "BuoyVote$Borough" "values" "[I", .fieldLink RX0 113 "BuoyVote$Borough" "USUAL" "[I", .fieldLink RX0 103 "BuoyVote$Borough" "FIRST" "[I"] wsX00)
theorem iw_c_X0_beginClause_X0 : ∀ w ∈ wsX00, w ∈ wf_c_X0_beginClause := fun w h => List.mem_cons_of_mem _ (List.mem_append_right _ h)
set_option maxRecDepth 20000 in
theorem gf_c_X0_beginClause_c_X0_setUsual : GoodIn wf_c_X0_beginClause (wsV RX0 32 RX0 yX0_setUsual wf_c_X0_setUsual) := goodIn_app (gi_l [2, 3, 4, 5] rfl rfl) (gi_cons (j := 6) rfl rfl (goodIn_app (gi_l [7, 8, 5, 9, 10, 11, 12, 13, 14, 15, 16, 17, 18, 19, 20, 21, 22, 23, 24] rfl rfl) (goodIn_sub iw_c_X0_beginClause_X0 gw_X0)))
set_option maxHeartbeats 4000000 in
set_option maxRecDepth 100000 in
theorem c_X0_beginClause (l : Launch) (dC : Nat → ClassId) (dI : Nat → Nat → Nat) (sz : Nat) (h0 : Nat) (h0_0 : Nat) (h0_f1 : Int32) (h0_f2 : Int32) (h0_f3 : Int32) (h0_0k : ClassId) (h0_0c : Nat → Int32) (ts1 : Nat) (tv1 : Nat) (ta3 : Nat) (ta0 : Nat) (g_h0_f1 : RG h0_f1 0 8) (g_h0_f2 : RG h0_f2 0 3) (g_h0_f3 : RG h0_f3 0 1) (a_h0_0c : AI h0_0c (-1) 99) : Met l yX0_beginClause wf_c_X0_beginClause ({ frames := 3, cells := 0, slots := 0, locals := 64 }) (va_Pc [.ref h0, .int 0] (fun U => U.heap.size = sz ∧ va_P (dC, dI) vwCl (wd_c_X0_beginClause h0 h0_0 h0_f1 h0_f2 h0_f3 h0_0 h0_0k h0_0c) U.heap ∧ va_K (dC, dI) vwCl [(h0_0k, .int)] U ∧ va_D (fun _ => True) (wd_c_X0_beginClause h0 h0_0 h0_f1 h0_f2 h0_f3 h0_0 h0_0k h0_0c) ∧ vk_R RX0 122 "wdth" ts1 U ∧ va_OF "java/lang/String" "value" "[B" (.ref tv1) ts1 (va_A (wd_c_X0_beginClause h0 h0_0 h0_f1 h0_f2 h0_f3 h0_0 h0_0k h0_0c) sz) U U.heap ∧ va_T .byte tv1 4 (fun j => .int ([119, 100, 116, 104].getD j 0)) (va_A (wd_c_X0_beginClause h0 h0_0 h0_f1 h0_f2 h0_f3 h0_0 h0_0k h0_0c) sz) U U.heap ∧ va_Z "java/lang/String" "COMPACT_STRINGS" "Z" (.int 1) (va_A (wd_c_X0_beginClause h0 h0_0 h0_f1 h0_f2 h0_f3 h0_0 h0_0k h0_0c) sz) U U.heap ∧ va_OF "java/lang/String" "coder" "B" (.int 0) ts1 (va_A (wd_c_X0_beginClause h0 h0_0 h0_f1 h0_f2 h0_f3 h0_0 h0_0k h0_0c) sz) U U.heap ∧ va_O "java/lang/String" ts1 (va_A (wd_c_X0_beginClause h0 h0_0 h0_f1 h0_f2 h0_f3 h0_0 h0_0k h0_0c) sz) U U.heap ∧ va_Z "BuoyVote$Borough" "USUAL" "[I" (.ref ta3) (va_A (wd_c_X0_beginClause h0 h0_0 h0_f1 h0_f2 h0_f3 h0_0 h0_0k h0_0c) sz) U U.heap ∧ va_Z "BuoyVote$Borough" "FIRST" "[I" (.ref ta0) (va_A (wd_c_X0_beginClause h0 h0_0 h0_f1 h0_f2 h0_f3 h0_0 h0_0k h0_0c) sz) U U.heap ∧ va_T .int ta0 3 (fun j => .int ([0, 4, 12].getD j 0)) (va_A (wd_c_X0_beginClause h0 h0_0 h0_f1 h0_f2 h0_f3 h0_0 h0_0k h0_0c) sz) U U.heap ∧ va_T .int ta3 16 (fun j => .int ([2, 0, 6, 8, 0, 0, 3, 0, 0, 0, 3, 2, 0, 0, 2, 3].getD j 0)) (va_A (wd_c_X0_beginClause h0 h0_0 h0_f1 h0_f2 h0_f3 h0_0 h0_0k h0_0c) sz) U U.heap)) (va_Qi (fun (r : Int32) (u : (Nat → Int32)) => (r = 0 ∧ AI (u) (-1) 99 ∧ (r, u) = fx_c_X0_beginClause h0_0c)) (fun (u : (Nat → Int32)) t => va_P (dC, dI) vwCl (wd_c_X0_beginClause h0 h0_0 h0_f1 h0_f2 1 h0_0 h0_0k (u)) t.heap ∧ va_K (dC, dI) vwCl [] t ∧ va_D (va_A (wd_c_X0_beginClause h0 h0_0 h0_f1 h0_f2 h0_f3 h0_0 h0_0k h0_0c) sz) (wd_c_X0_beginClause h0 h0_0 h0_f1 h0_f2 1 h0_0 h0_0k (u))) (va_A (wd_c_X0_beginClause h0 h0_0 h0_f1 h0_f2 h0_f3 h0_0 h0_0k h0_0c) sz)) 0 0 (va_A (wd_c_X0_beginClause h0 h0_0 h0_f1 h0_f2 h0_f3 h0_0 h0_0k h0_0c) sz) := by
  refine Met.ofW (cc := cX0_beginClause) (maxL := 3) (ret := (some .int)) (by decide +kernel) rfl ?_
  intro p e s m args below meth c s₁ B hml hv
  obtain ⟨rfl, hsz, hP, hK, hD0, hE_17, hE_20, hE_21, hE_10, hE_19, hE_18, hE_6, hE_0, hE_1, hE_7⟩ := hv
  have hx := B.exec
  have hb := B.bytes
  have hr := B.returns
  have hts := atoms_spec (ws := wf_c_X0_beginClause) B.pre
  have hown : s.vm.findClass RX0 = some m.cls := findClass_of_methodNamed B.named
  have hlocks := B.notSynchronized
  subst hsz
  have hD := hD0.self (sz := s.heap.size)
  generalize hAe : va_A (wd_c_X0_beginClause h0 h0_0 h0_f1 h0_f2 h0_f3 h0_0 h0_0k h0_0c) s.heap.size = A at hD hE_20 hE_21 hE_10 hE_19 hE_18 hE_6 hE_0 hE_1 hE_7 ⊢
  have hA : ∀ q : Nat, s.heap.size ≤ q → A q := fun q h => by rw [← hAe]; exact Or.inr h
  have hP : va_P (dC, dI) vwCl (wd_c_X0_beginClause h0 h0_0 h0_f1 h0_f2 h0_f3 h0_0 h0_0k h0_0c) s.heap := hP
  have hl := lv_entry ([.ref h0, .int 0]) (n := 3) (Nat.le_of_ble_eq_true rfl)
  rw [lg_entry_eq]
  generalize (lg_sl ([.ref h0, .int 0]) ++ List.replicate (3 - (lg_sl ([.ref h0, .int 0])).length) Slot.unset).toArray = ls at hl ⊢
  have hl : lv_has ls 3 [(0, .ref h0), (1, .int 0)] := hl
  obtain ⟨H, hHe⟩ : ∃ H : Heap, s.heap = H := ⟨_, rfl⟩
  have hS : va_S A s.heap H [] := by rw [hHe]; exact va_S.rf
  have hP : va_P (dC, dI) vwCl (wd_c_X0_beginClause h0 h0_0 h0_f1 h0_f2 h0_f3 h0_0 h0_0k h0_0c) H := by rw [← hHe]; exact hP
  rw [hHe]
  obtain ⟨RES, hR⟩ : ∃ z, fx_c_X0_beginClause h0_0c = z := ⟨_, rfl⟩
  have hEX : RES = fx_c_X0_beginClause h0_0c := hR.symm
  refine wj (fun G hG hU => ?_)
  as_aux_lemma =>
  have J62 : ∀ (g_h0_f1 : RG h0_f1 0 8) (g_h0_f2 : RG h0_f2 0 3) (g_h0_f3 : RG h0_f3 0 1) (hEX : RES = fx_c_X0_beginClause_p62 h0_0c) (H : Heap) (locs : List Loc) (ls : Array Slot) (hP : va_P (dC, dI) vwCl (wd_c_X0_beginClause h0 h0_0 h0_f1 h0_f2 1 h0_0 h0_0k h0_0c) H) (hD : va_D A (wd_c_X0_beginClause h0 h0_0 h0_f1 h0_f2 1 h0_0 h0_0k h0_0c)) (hS : va_S A s.heap H locs) (hl : lv_has ls 3 [(2, .int 0), (0, .ref h0), (1, .int 0)]), G H locs (F0 m 62 ls []) := by
    as_aux_lemma =>
    intro g_h0_f1 g_h0_f2 g_h0_f3 hEX H locs ls hP hD hS hl
    refine hG _ _ _ ?_
    refine lv_aload_n hx hb dX0_beginClause_62 rfl (lv_at hl 1 rfl) ?_
    refine lv_iload_n hx hb dX0_beginClause_63 rfl (lv_at hl 2 rfl) ?_
    refine lv_iload_n hx hb dX0_beginClause_64 rfl (lv_at hl 0 rfl) ?_
    obtain ⟨hPc, hDc, hFc, hqc⟩ := cl_cut (wc := (wd_c_X0_setUsual h0 h0_0 h0_f1 h0_f2 1 h0_0 h0_0k h0_0c)) hP hD hS hA [0, 1] (by decide +kernel) rfl
    have hKc := hK.sub (tys' := [(h0_0k, .int)]) [0] rfl
    have hrv := va_recv hKc hPc (ci := 0) (q0 := 0) rfl rfl
    refine va_callv (va_runV (As := [.int 0, .int 0]) (rest := []) ⟨hx, hb, hml, hown, hts⟩ (c_X0_setUsual l dC dI H.size h0 h0_0 h0_f1 h0_f2 1 h0_0k h0_0c ts1 tv1 ta3 ta0 g_h0_f1 g_h0_f2 (RG_w (RG_k 1 1 rfl) (by decide +kernel)) a_h0_0c) (cwV 2 hts gf_c_X0_beginClause_c_X0_setUsual rfl rfl rfl mdV_X0_setUsual ⟨Nat.le_of_ble_eq_true rfl, Nat.le_of_ble_eq_true rfl⟩) ⟨fun a U g mk q => by obtain ⟨q0, q1, qP, qK, qD, qE0, qE1, qE2, qE3, qE4, qE5, qE6, qE7, qE8, qE9⟩ := q; exact ⟨q0, q1, qP, va_K.moved (u := U) (U := U.calling g mk a) (Vm.Alike.refl U.vm) qK, qD, vk_R.same rfl qE0, va_OF.moved (u := U) (U := U.calling g mk a) (Vm.Alike.refl U.vm) qE1, va_T.moved (u := U) (U := U.calling g mk a) (Vm.Alike.refl U.vm) qE2, va_Z.moved (u := U) (U := U.calling g mk a) (Vm.Alike.refl U.vm) qE3, va_OF.moved (u := U) (U := U.calling g mk a) (Vm.Alike.refl U.vm) qE4, va_O.moved (u := U) (U := U.calling g mk a) (Vm.Alike.refl U.vm) qE5, va_Z.moved (u := U) (U := U.calling g mk a) (Vm.Alike.refl U.vm) qE6, va_Z.moved (u := U) (U := U.calling g mk a) (Vm.Alike.refl U.vm) qE7, va_T.moved (u := U) (U := U.calling g mk a) (Vm.Alike.refl U.vm) qE8, va_T.moved (u := U) (U := U.calling g mk a) (Vm.Alike.refl U.vm) qE9⟩, hrv, fun U hU hW => ⟨rfl, by rw [hU], by rw [hU]; exact hPc, va_K.moved hW.alike hKc, hDc.weaken (fun _ _ _ _ => trivial), vk_R.warm hW hE_17, va_OF.moved hW.alike (by rw [hU]; exact (hE_20.kept hS.2.1).narrow hFc), va_T.moved hW.alike (by rw [hU]; exact (hE_21.kept hS.2.1).narrow hFc), va_Z.moved hW.alike (by rw [hU]; exact (hE_10.kept hS.2.1).narrow hFc), va_OF.moved hW.alike (by rw [hU]; exact (hE_19.kept hS.2.1).narrow hFc), va_O.moved hW.alike (by rw [hU]; exact (hE_18.kept hS.2.1).narrow hFc), va_Z.moved hW.alike (by rw [hU]; exact (hE_6.kept hS.2.1).narrow hFc), va_Z.moved hW.alike (by rw [hU]; exact (hE_0.kept hS.2.1).narrow hFc), va_T.moved hW.alike (by rw [hU]; exact (hE_1.kept hS.2.1).narrow hFc), va_T.moved hW.alike (by rw [hU]; exact (hE_7.kept hS.2.1).narrow hFc)⟩⟩ rfl rfl hl.1 rfl (lv_room (Nat.le_of_ble_eq_true rfl)) dX0_beginClause_65 ⟨Nat.le_of_ble_eq_true rfl, Nat.le_of_ble_eq_true rfl⟩) hS (fun q _ h => hFc q h) hFc (fun w_2 t H1 locs ht hvm hw hB hz1 hk1 hS => ?_)
    obtain ⟨hP1, hK1, hD1⟩ := hB
    rw [ht] at hP1
    obtain ⟨hP, hD⟩ := cl_put (w1 := (wd_c_X0_setUsual h0 h0_0 h0_f1 h0_f2 1 h0_0 h0_0k w_2)) (nw := (wd_c_X0_beginClause h0 h0_0 h0_f1 h0_f2 1 h0_0 h0_0k w_2)) hP hD [0, 1] [2, 3] 2 rfl hqc (by decide +kernel) rfl hk1 hFc hP1 hD1
    generalize H1 = H at hP hS ⊢
    as_aux_lemma =>
    rcases hw with ⟨h_3, h_4⟩
    have h_4 : w_2 = _ := h_4
    replace hEX := hEX.trans (exc1_eq h_4)
    refine lv_iload_n hx hb dX0_beginClause_68 rfl (lv_at hl 0 rfl) ?_
    have hK9 := hK.sub (tys' := []) [] rfl
    exact W.iret (v := 0) hx hb hr (fun t ht hW => ⟨⟨0, w_2, rfl, ⟨rfl, h_3, (hR.trans hEX).symm⟩, by rw [ht]; exact hP, va_K.moved hW.alike hK9, hD⟩, hS.F ht⟩) hS.2.2 dX0_beginClause_69
  refine hG _ _ _ ?_
  refine lv_iconst (v := 0) hx hb dX0_beginClause_0 kc_iconst_0 ?_
  refine lv_istore_n (lv' := [(2, .int 0), (0, .ref h0), (1, .int 0)]) hx hb dX0_beginClause_1 rfl hl (Nat.le_of_ble_eq_true rfl) rfl (fun ls hl => ?_)
  refine lv_iload_n hx hb dX0_beginClause_2 rfl (lv_at hl 2 rfl) ?_
  refine lv_if_ne (tgt := 14) hx hb dX0_beginClause_3 rfl (fun c_5 => absurd c_5 (by decide +kernel)) (fun c_5 => ?_)
  refine lv_aload_n hx hb dX0_beginClause_6 rfl (lv_at hl 1 rfl) ?_
  refine lv_iconst (v := 1) hx hb dX0_beginClause_7 kc_iconst_1 ?_
  refine va_put (D := (dC, dI)) (ci := 0) (v := .int 1) (ty := .boolean) (C := RX0) (T := TX0) (N := 4) hx hb hts iw_c_X0_beginClause_X0 tyX0 tyX0_ok nmX0 hown hK hP hD hS 0 rfl rfl 3 (by decide +kernel) (hts (.fieldLink RX0 28 "BuoyVote$Borough" "ruled" "Z") (List.mem_of_getElem? (i := 1) rfl)) (fun _ h9 => h9) rfl (by decide +kernel) rfl rfl (Nat.le_of_ble_eq_true rfl) dX0_beginClause_8 (fun H locs hP hD hS => ?_)
  as_aux_lemma =>
  have hP : va_P (dC, dI) vwCl (wd_c_X0_beginClause h0 h0_0 h0_f1 h0_f2 1 h0_0 h0_0k h0_0c) H := hP
  have hD : va_D A (wd_c_X0_beginClause h0 h0_0 h0_f1 h0_f2 1 h0_0 h0_0k h0_0c) := hD
  refine lv_goto (tgt := 62) hx hb dX0_beginClause_11 rfl ?_
  exact hU _ _ _ (J62 g_h0_f1 g_h0_f2 g_h0_f3 hEX _ _ _ hP hD hS (lv_sub hl [0, 1, 2] rfl))
noncomputable def wd_c_X0_hasRoomFor_1 (a0 : Nat) (a1 : Nat) (a2 : Int32) (a3 : Int32) (a4 : Int32) : va_W := [(a0, .inr (0, [.ref a1, .int a2, .int a3, .int a4]))]
noncomputable def wf_c_X0_hasRoomFor_1 : List Cond := List.cons (.code yX0_hasRoomFor cX0_hasRoomFor 2 (some .boolean)) (@HAppend.hAppend (List Cond) (List Cond) (List Cond) _ [.fieldLink RX0 21 "BuoyVote$Borough" "buoys" "I"] wsX00)
theorem iw_c_X0_hasRoomFor_1_X0 : ∀ w ∈ wsX00, w ∈ wf_c_X0_hasRoomFor_1 := fun w h => List.mem_cons_of_mem _ (List.mem_append_right _ h)
set_option maxHeartbeats 4000000 in
set_option maxRecDepth 100000 in
theorem c_X0_hasRoomFor_1 (l : Launch) (dC : Nat → ClassId) (dI : Nat → Nat → Nat) (sz : Nat) (h0 : Nat) (h0_0 : Nat) (h0_f1 : Int32) (h0_f2 : Int32) (h0_f3 : Int32) (g_h0_f1 : RG h0_f1 0 8) (g_h0_f2 : RG h0_f2 0 3) (g_h0_f3 : RG h0_f3 0 1) : Met l yX0_hasRoomFor wf_c_X0_hasRoomFor_1 ({ frames := 0, cells := 0, slots := 0, locals := 0 }) (va_Pc [.ref h0, .int 1] (fun U => U.heap.size = sz ∧ va_P (dC, dI) vwCl (wd_c_X0_hasRoomFor_1 h0 h0_0 h0_f1 h0_f2 h0_f3) U.heap ∧ va_K (dC, dI) vwCl [] U ∧ va_D (fun _ => True) (wd_c_X0_hasRoomFor_1 h0 h0_0 h0_f1 h0_f2 h0_f3))) (va_Qi (fun (r : Int32) (u : Unit) => (r = 0 ∧ RG h0_f1 8 8 ∧ r = fx_c_X0_hasRoomFor_1 h0_f1) ∨ (r = 1 ∧ RG h0_f1 0 7 ∧ r = fx_c_X0_hasRoomFor_1 h0_f1)) (fun (u : Unit) t => va_P (dC, dI) vwCl (wd_c_X0_hasRoomFor_1 h0 h0_0 h0_f1 h0_f2 h0_f3) t.heap ∧ va_K (dC, dI) vwCl [] t ∧ va_D (va_A (wd_c_X0_hasRoomFor_1 h0 h0_0 h0_f1 h0_f2 h0_f3) sz) (wd_c_X0_hasRoomFor_1 h0 h0_0 h0_f1 h0_f2 h0_f3)) (va_A (wd_c_X0_hasRoomFor_1 h0 h0_0 h0_f1 h0_f2 h0_f3) sz)) 0 0 (va_A (wd_c_X0_hasRoomFor_1 h0 h0_0 h0_f1 h0_f2 h0_f3) sz) := by
  refine Met.ofW (cc := cX0_hasRoomFor) (maxL := 2) (ret := (some .boolean)) (by decide +kernel) rfl ?_
  intro p e s m args below meth c s₁ B hml hv
  obtain ⟨rfl, hsz, hP, hK, hD0⟩ := hv
  have hx := B.exec
  have hb := B.bytes
  have hr := B.returns
  have hts := atoms_spec (ws := wf_c_X0_hasRoomFor_1) B.pre
  have hown : s.vm.findClass RX0 = some m.cls := findClass_of_methodNamed B.named
  have hlocks := B.notSynchronized
  subst hsz
  have hD := hD0.self (sz := s.heap.size)
  generalize hAe : va_A (wd_c_X0_hasRoomFor_1 h0 h0_0 h0_f1 h0_f2 h0_f3) s.heap.size = A at hD ⊢
  have hA : ∀ q : Nat, s.heap.size ≤ q → A q := fun q h => by rw [← hAe]; exact Or.inr h
  have hP : va_P (dC, dI) vwCl (wd_c_X0_hasRoomFor_1 h0 h0_0 h0_f1 h0_f2 h0_f3) s.heap := hP
  have hl := lv_entry ([.ref h0, .int 1]) (n := 2) (Nat.le_of_ble_eq_true rfl)
  rw [lg_entry_eq]
  generalize (lg_sl ([.ref h0, .int 1]) ++ List.replicate (2 - (lg_sl ([.ref h0, .int 1])).length) Slot.unset).toArray = ls at hl ⊢
  have hl : lv_has ls 2 [(0, .ref h0), (1, .int 1)] := hl
  obtain ⟨H, hHe⟩ : ∃ H : Heap, s.heap = H := ⟨_, rfl⟩
  have hS : va_S A s.heap H [] := by rw [hHe]; exact va_S.rf
  have hP : va_P (dC, dI) vwCl (wd_c_X0_hasRoomFor_1 h0 h0_0 h0_f1 h0_f2 h0_f3) H := by rw [← hHe]; exact hP
  rw [hHe]
  obtain ⟨RES, hR⟩ : ∃ z, fx_c_X0_hasRoomFor_1 h0_f1 = z := ⟨_, rfl⟩
  have hEX : RES = fx_c_X0_hasRoomFor_1 h0_f1 := hR.symm
  refine lv_iload_n hx hb dX0_hasRoomFor_0 rfl (lv_at hl 1 rfl) ?_
  as_aux_lemma =>
  refine lv_if_ne (tgt := 17) hx hb dX0_hasRoomFor_1 rfl (fun c_1 => ?_) (fun c_1 => absurd c_1 (by decide +kernel))
  refine lv_iload_n hx hb dX0_hasRoomFor_17 rfl (lv_at hl 1 rfl) ?_
  refine lv_iconst (v := 1) hx hb dX0_hasRoomFor_18 kc_iconst_1 ?_
  refine lv_icmp_ne (tgt := 39) hx hb dX0_hasRoomFor_19 rfl (fun c_2 => absurd c_2 (by decide +kernel)) (fun c_2 => ?_)
  refine lv_aload_n hx hb dX0_hasRoomFor_22 rfl (lv_at hl 0 rfl) ?_
  refine va_get (D := (dC, dI)) (ci := 0) (v := .int h0_f1) (C := RX0) (T := TX0) (N := 4) hx hb hts iw_c_X0_hasRoomFor_1_X0 hown hK hP 0 rfl rfl 1 (by decide +kernel) (hts (.fieldLink RX0 21 "BuoyVote$Borough" "buoys" "I") (List.mem_of_getElem? (i := 1) rfl)) (fun _ h9 => h9) rfl dX0_hasRoomFor_23 ?_
  refine lv_bipush (v := 8) hx hb dX0_hasRoomFor_26 kc_bipush_8 ?_
  refine lv_icmp_ge (tgt := 35) hx hb dX0_hasRoomFor_28 rfl (fun c_3 => ?_) (fun c_3 => ?_)
  · replace hEX := hEX.trans (if_pos c_3)
    have g_4 : RG h0_f1 8 8 := RG_le2 (RG_k 8 8 rfl) g_h0_f1 c_3 (by decide +kernel)
    refine lv_iconst (v := 0) hx hb dX0_hasRoomFor_35 kc_iconst_0 ?_
    refine lv_goto (tgt := 52) hx hb dX0_hasRoomFor_36 rfl ?_
    have hK9 := hK.sub (tys' := []) [] rfl
    exact W.zret (v := 0) hx hb hr rfl (fun t ht hW => ⟨⟨0, (), rfl, (Or.inl ⟨rfl, g_4, (hR.trans hEX).symm⟩), by rw [ht]; exact hP, va_K.moved hW.alike hK9, hD⟩, hS.F ht⟩) hS.2.2 dX0_hasRoomFor_52
  · replace hEX := hEX.trans (if_neg c_3)
    have d_5 := Int32.not_le.mp c_3
    have g_6 : RG h0_f1 0 7 := RG_lt1 g_h0_f1 (RG_k 8 8 rfl) d_5 (by decide +kernel)
    refine lv_iconst (v := 1) hx hb dX0_hasRoomFor_31 kc_iconst_1 ?_
    as_aux_lemma =>
    refine lv_goto (tgt := 52) hx hb dX0_hasRoomFor_32 rfl ?_
    have hK9 := hK.sub (tys' := []) [] rfl
    exact W.zret (v := 1) hx hb hr rfl (fun t ht hW => ⟨⟨1, (), rfl, (Or.inr ⟨rfl, g_6, (hR.trans hEX).symm⟩), by rw [ht]; exact hP, va_K.moved hW.alike hK9, hD⟩, hS.F ht⟩) hS.2.2 dX0_hasRoomFor_52
noncomputable def wf_c_X0_lettersOf_1 : List Cond := .code yX0_lettersOf cX0_lettersOf 1 (some (.object "java/lang/String")) :: ([])
set_option maxHeartbeats 4000000 in
set_option maxRecDepth 100000 in
theorem c_X0_lettersOf_1 (l : Launch) (dC : Nat → ClassId) (dI : Nat → Nat → Nat) (sz : Nat) (ts2 : Nat) : Met l yX0_lettersOf wf_c_X0_lettersOf_1 ({ frames := 0, cells := 0, slots := 0, locals := 0 }) (va_Pc [.int 1] (fun U => U.heap.size = sz ∧ va_P (dC, dI) vwCl [] U.heap ∧ va_K (dC, dI) vwCl [] U ∧ va_D (fun _ => True) [] ∧ vk_R RX0 124 "xycaefor" ts2 U)) (va_Qr (fun (u : (Nat)) => (u = ts2)) (fun (u : (Nat)) (ra : Nat) t => ra = u ∧ va_P (dC, dI) vwCl [] t.heap ∧ va_K (dC, dI) vwCl [] t ∧ va_D (va_A [] sz) []) (va_A [] sz)) 0 0 (va_A [] sz) := by
  refine Met.ofW (cc := cX0_lettersOf) (maxL := 1) (ret := (some (.object "java/lang/String"))) (by decide +kernel) rfl ?_
  intro p e s m args below meth c s₁ B hml hv
  obtain ⟨rfl, hsz, hP, hK, hD0, hE_22⟩ := hv
  have hx := B.exec
  have hb := B.bytes
  have hr := B.returns
  have hts := atoms_spec (ws := wf_c_X0_lettersOf_1) B.pre
  have hown : s.vm.findClass RX0 = some m.cls := findClass_of_methodNamed B.named
  have hlocks := B.notSynchronized
  subst hsz
  have hD := hD0.self (sz := s.heap.size)
  generalize hAe : va_A [] s.heap.size = A at hD ⊢
  have hA : ∀ q : Nat, s.heap.size ≤ q → A q := fun q h => by rw [← hAe]; exact Or.inr h
  have hP : va_P (dC, dI) vwCl [] s.heap := hP
  have hl := lv_entry ([.int 1]) (n := 1) (Nat.le_of_ble_eq_true rfl)
  rw [lg_entry_eq]
  generalize (lg_sl ([.int 1]) ++ List.replicate (1 - (lg_sl ([.int 1])).length) Slot.unset).toArray = ls at hl ⊢
  have hl : lv_has ls 1 [(0, .int 1)] := hl
  obtain ⟨H, hHe⟩ : ∃ H : Heap, s.heap = H := ⟨_, rfl⟩
  have hS : va_S A s.heap H [] := by rw [hHe]; exact va_S.rf
  have hP : va_P (dC, dI) vwCl [] H := by rw [← hHe]; exact hP
  rw [hHe]
  refine lv_iload_n hx hb dX0_lettersOf_0 rfl (lv_at hl 0 rfl) ?_
  as_aux_lemma =>
  refine lv_if_ne (tgt := 7) hx hb dX0_lettersOf_1 rfl (fun c_1 => ?_) (fun c_1 => absurd c_1 (by decide +kernel))
  refine lv_iload_n hx hb dX0_lettersOf_7 rfl (lv_at hl 0 rfl) ?_
  refine lv_iconst (v := 1) hx hb dX0_lettersOf_8 kc_iconst_1 ?_
  refine lv_icmp_ne (tgt := 17) hx hb dX0_lettersOf_9 rfl (fun c_2 => absurd c_2 (by decide +kernel)) (fun c_2 => ?_)
  refine va_ldcS hx hb hown hE_22 dX0_lettersOf_12 ?_
  refine lv_goto (tgt := 19) hx hb dX0_lettersOf_14 rfl ?_
  have hK9 := hK.sub (tys' := []) [] rfl
  exact W.aret (v := .ref ts2) hx hb hr (Or.inl ⟨_, rfl⟩) (Or.inr ⟨_, rfl⟩) (fun t ht hW => ⟨⟨ts2, ts2, rfl, rfl, rfl, by rw [ht]; exact hP, va_K.moved hW.alike hK9, hD⟩, hS.F ht⟩) hS.2.2 dX0_lettersOf_19
noncomputable def wf_c_J0_coder_7d493_2 : List Cond := .code yJ0_coder_7d493 cJ0_coder_7d493 1 (some .byte) :: ([.fieldLink RJ0 38 "java/lang/String" "COMPACT_STRINGS" "Z", .fieldLink RJ0 15 "java/lang/String" "coder" "B"])
set_option maxHeartbeats 4000000 in
set_option maxRecDepth 100000 in
theorem c_J0_coder_7d493_2 (l : Launch) (dC : Nat → ClassId) (dI : Nat → Nat → Nat) (sz : Nat) (ts2 : Nat) : Met l yJ0_coder_7d493 wf_c_J0_coder_7d493_2 ({ frames := 0, cells := 0, slots := 0, locals := 0 }) (va_Pc [.ref ts2] (fun U => U.heap.size = sz ∧ va_P (dC, dI) vwCl [] U.heap ∧ va_K (dC, dI) vwCl [] U ∧ va_D (fun _ => True) [] ∧ va_Z "java/lang/String" "COMPACT_STRINGS" "Z" (.int 1) (va_A [] sz) U U.heap ∧ va_OF "java/lang/String" "coder" "B" (.int 0) ts2 (va_A [] sz) U U.heap)) (va_Qi (fun (r : Int32) (u : Unit) => (r = 0 ∧ r = fx_c_J0_coder_7d493_2)) (fun (u : Unit) t => va_P (dC, dI) vwCl [] t.heap ∧ va_K (dC, dI) vwCl [] t ∧ va_D (va_A [] sz) []) (va_A [] sz)) 0 0 (va_A [] sz) := by
  refine Met.ofW (cc := cJ0_coder_7d493) (maxL := 1) (ret := (some .byte)) (by decide +kernel) rfl ?_
  intro p e s m args below meth c s₁ B hml hv
  obtain ⟨rfl, hsz, hP, hK, hD0, hE_10, hE_24⟩ := hv
  have hx := B.exec
  have hb := B.bytes
  have hr := B.returns
  have hts := atoms_spec (ws := wf_c_J0_coder_7d493_2) B.pre
  have hown : s.vm.findClass RJ0 = some m.cls := findClass_of_methodNamed B.named
  have hlocks := B.notSynchronized
  subst hsz
  have hD := hD0.self (sz := s.heap.size)
  generalize hAe : va_A [] s.heap.size = A at hD hE_10 hE_24 ⊢
  have hA : ∀ q : Nat, s.heap.size ≤ q → A q := fun q h => by rw [← hAe]; exact Or.inr h
  have hP : va_P (dC, dI) vwCl [] s.heap := hP
  have hl := lv_entry ([.ref ts2]) (n := 1) (Nat.le_of_ble_eq_true rfl)
  rw [lg_entry_eq]
  generalize (lg_sl ([.ref ts2]) ++ List.replicate (1 - (lg_sl ([.ref ts2])).length) Slot.unset).toArray = ls at hl ⊢
  have hl : lv_has ls 1 [(0, .ref ts2)] := hl
  obtain ⟨H, hHe⟩ : ∃ H : Heap, s.heap = H := ⟨_, rfl⟩
  have hS : va_S A s.heap H [] := by rw [hHe]; exact va_S.rf
  have hP : va_P (dC, dI) vwCl [] H := by rw [← hHe]; exact hP
  rw [hHe]
  obtain ⟨RES, hR⟩ : ∃ z, fx_c_J0_coder_7d493_2 = z := ⟨_, rfl⟩
  have hEX : RES = fx_c_J0_coder_7d493_2 := hR.symm
  refine va_gets hx hb hE_10 hS hown (hts (.fieldLink RJ0 38 "java/lang/String" "COMPACT_STRINGS" "Z") (List.mem_of_getElem? (i := 1) rfl)) (fun _ h9 => h9) dJ0_coder_7d493_0 ?_
  as_aux_lemma =>
  refine lv_if_eq (tgt := 13) hx hb dJ0_coder_7d493_3 rfl (fun c_1 => absurd c_1 (by decide +kernel)) (fun c_1 => ?_)
  refine lv_aload_n hx hb dJ0_coder_7d493_6 rfl (lv_at hl 0 rfl) ?_
  refine vk_getf hx hb hE_24 hS hown (hts (.fieldLink RJ0 15 "java/lang/String" "coder" "B") (List.mem_of_getElem? (i := 2) rfl)) (fun _ h9 => h9) dJ0_coder_7d493_7 ?_
  refine lv_goto (tgt := 14) hx hb dJ0_coder_7d493_10 rfl ?_
  have hK9 := hK.sub (tys' := []) [] rfl
  exact W.zret (v := 0) hx hb hr rfl (fun t ht hW => ⟨⟨0, (), rfl, ⟨rfl, (hR.trans hEX).symm⟩, by rw [ht]; exact hP, va_K.moved hW.alike hK9, hD⟩, hS.F ht⟩) hS.2.2 dJ0_coder_7d493_14
noncomputable def wf_c_J0_length_8abf5_2 : List Cond := .code yJ0_length_8abf5 cJ0_length_8abf5 1 (some .int) :: ([.fieldLink RJ0 9 "java/lang/String" "value" "[B", .methodLink RJ0 335 yJ0_coder_7d493, .instanceMethod yJ0_coder_7d493, .selects RJ0 yJ0_coder_7d493 yJ0_coder_7d493, .initialized RJ0, .code yJ0_coder_7d493 cJ0_coder_7d493 1 (some .byte), .fieldLink RJ0 38 "java/lang/String" "COMPACT_STRINGS" "Z", .fieldLink RJ0 15 "java/lang/String" "coder" "B"])
set_option maxRecDepth 20000 in
theorem gf_c_J0_length_8abf5_2_c_J0_coder_7d493_2 : GoodIn wf_c_J0_length_8abf5_2 (wsV RJ0 335 RJ0 yJ0_coder_7d493 wf_c_J0_coder_7d493_2) := goodIn_app (gi_l [2, 3, 4, 5] rfl rfl) (gi_cons (j := 6) rfl rfl (gi_l [7, 8] rfl rfl))
set_option maxHeartbeats 4000000 in
set_option maxRecDepth 100000 in
theorem c_J0_length_8abf5_2 (l : Launch) (dC : Nat → ClassId) (dI : Nat → Nat → Nat) (sz : Nat) (ts2 : Nat) (tv2 : Nat) : Met l yJ0_length_8abf5 wf_c_J0_length_8abf5_2 ({ frames := 1, cells := 0, slots := 0, locals := 20 }) (va_Pc [.ref ts2] (fun U => U.heap.size = sz ∧ va_P (dC, dI) vwCl [] U.heap ∧ va_K (dC, dI) vwCl [] U ∧ va_D (fun _ => True) [] ∧ va_OF "java/lang/String" "value" "[B" (.ref tv2) ts2 (va_A [] sz) U U.heap ∧ va_T .byte tv2 8 (fun j => .int ([120, 121, 99, 97, 101, 102, 111, 114].getD j 0)) (va_A [] sz) U U.heap ∧ va_Z "java/lang/String" "COMPACT_STRINGS" "Z" (.int 1) (va_A [] sz) U U.heap ∧ va_OF "java/lang/String" "coder" "B" (.int 0) ts2 (va_A [] sz) U U.heap ∧ va_O "java/lang/String" ts2 (va_A [] sz) U U.heap)) (va_Qi (fun (r : Int32) (u : Unit) => (r = 8 ∧ r = fx_c_J0_length_8abf5_2)) (fun (u : Unit) t => va_P (dC, dI) vwCl [] t.heap ∧ va_K (dC, dI) vwCl [] t ∧ va_D (va_A [] sz) []) (va_A [] sz)) 0 0 (va_A [] sz) := by
  refine Met.ofW (cc := cJ0_length_8abf5) (maxL := 1) (ret := (some .int)) (by decide +kernel) rfl ?_
  intro p e s m args below meth c s₁ B hml hv
  obtain ⟨rfl, hsz, hP, hK, hD0, hE_25, hE_26, hE_10, hE_24, hE_23⟩ := hv
  have hx := B.exec
  have hb := B.bytes
  have hr := B.returns
  have hts := atoms_spec (ws := wf_c_J0_length_8abf5_2) B.pre
  have hown : s.vm.findClass RJ0 = some m.cls := findClass_of_methodNamed B.named
  have hlocks := B.notSynchronized
  subst hsz
  have hD := hD0.self (sz := s.heap.size)
  generalize hAe : va_A [] s.heap.size = A at hD hE_25 hE_26 hE_10 hE_24 hE_23 ⊢
  have hA : ∀ q : Nat, s.heap.size ≤ q → A q := fun q h => by rw [← hAe]; exact Or.inr h
  have hP : va_P (dC, dI) vwCl [] s.heap := hP
  have hl := lv_entry ([.ref ts2]) (n := 1) (Nat.le_of_ble_eq_true rfl)
  rw [lg_entry_eq]
  generalize (lg_sl ([.ref ts2]) ++ List.replicate (1 - (lg_sl ([.ref ts2])).length) Slot.unset).toArray = ls at hl ⊢
  have hl : lv_has ls 1 [(0, .ref ts2)] := hl
  obtain ⟨H, hHe⟩ : ∃ H : Heap, s.heap = H := ⟨_, rfl⟩
  have hS : va_S A s.heap H [] := by rw [hHe]; exact va_S.rf
  have hP : va_P (dC, dI) vwCl [] H := by rw [← hHe]; exact hP
  rw [hHe]
  obtain ⟨RES, hR⟩ : ∃ z, fx_c_J0_length_8abf5_2 = z := ⟨_, rfl⟩
  have hEX : RES = fx_c_J0_length_8abf5_2 := hR.symm
  refine lv_aload_n hx hb dJ0_length_8abf5_0 rfl (lv_at hl 0 rfl) ?_
  as_aux_lemma =>
  refine vk_getf hx hb hE_25 hS hown (hts (.fieldLink RJ0 9 "java/lang/String" "value" "[B") (List.mem_of_getElem? (i := 1) rfl)) (fun _ h9 => h9) dJ0_length_8abf5_1 ?_
  refine va_tlen (v := 8) hx hb hE_26 hS rfl dJ0_length_8abf5_4 ?_
  refine lv_aload_n hx hb dJ0_length_8abf5_5 rfl (lv_at hl 0 rfl) ?_
  obtain ⟨hPc, hDc, hFc, hqc⟩ := cl_cut (wc := []) hP hD hS hA [] (by decide +kernel) rfl
  have hKc := hK.sub (tys' := []) [] rfl
  have hrv := bv_Orecv hE_23 hS
  refine va_calli (va_runV (As := []) (rest := [.int 8]) ⟨hx, hb, hml, hown, hts⟩ (c_J0_coder_7d493_2 l dC dI H.size ts2) (cwV 0 hts gf_c_J0_length_8abf5_2_c_J0_coder_7d493_2 rfl rfl rfl mdV_J0_coder_7d493 ⟨Nat.le_of_ble_eq_true rfl, Nat.le_of_ble_eq_true rfl⟩) ⟨fun a U g mk q => by obtain ⟨q0, q1, qP, qK, qD, qE0, qE1⟩ := q; exact ⟨q0, q1, qP, va_K.moved (u := U) (U := U.calling g mk a) (Vm.Alike.refl U.vm) qK, qD, va_Z.moved (u := U) (U := U.calling g mk a) (Vm.Alike.refl U.vm) qE0, va_OF.moved (u := U) (U := U.calling g mk a) (Vm.Alike.refl U.vm) qE1⟩, hrv, fun U hU hW => ⟨rfl, by rw [hU], by rw [hU]; exact hPc, va_K.moved hW.alike hKc, hDc.weaken (fun _ _ _ _ => trivial), va_Z.moved hW.alike (by rw [hU]; exact (hE_10.kept hS.2.1).narrow hFc), va_OF.moved hW.alike (by rw [hU]; exact (hE_24.kept hS.2.1).narrow hFc)⟩⟩ rfl rfl hl.1 rfl (lv_room (Nat.le_of_ble_eq_true rfl)) dJ0_length_8abf5_6 ⟨Nat.le_of_ble_eq_true rfl, Nat.le_of_ble_eq_true rfl⟩) hS (fun q _ h => hFc q h) hFc (fun r_1 u t H1 locs ht hvm hw hB hz1 hk1 hS => ?_)
  obtain ⟨hP1, hK1, hD1⟩ := hB
  rw [ht] at hP1
  have hP := bv_still hP hk1
  generalize H1 = H at hP hS ⊢
  as_aux_lemma =>
  rcases hw with ⟨h_2, h_3⟩
  have h_3 : r_1 = _ := h_3
  replace hEX := hEX.trans (exc1_eq h_3)
  rw [h_2]
  refine lv_ishr hx hb dJ0_length_8abf5_9 ?_
  refine lv_topi (fun x_4 ex_4 => ?_)
  obtain rfl : x_4 = 8 := ex_4.trans (by decide +kernel)
  have hK9 := hK.sub (tys' := []) [] rfl
  exact W.iret (v := 8) hx hb hr (fun t ht hW => ⟨⟨8, (), rfl, ⟨rfl, (hR.trans hEX).symm⟩, by rw [ht]; exact hP, va_K.moved hW.alike hK9, hD⟩, hS.F ht⟩) hS.2.2 dJ0_length_8abf5_10
noncomputable def wd_c_X0_setUsual_1 (a0 : Nat) (a1 : Nat) (a2 : Int32) (a3 : Int32) (a4 : Int32) (a5 : Nat) (a6 : ClassId) (a7 : Nat → Int32) : va_W := [(a0, .inr (0, [.ref a1, .int a2, .int a3, .int a4])), (a5, .inl (a6, 80, .inl a7))]
noncomputable def wf_c_X0_setUsual_1 : List Cond := List.cons (.code yX0_setUsual cX0_setUsual 5 none) (@HAppend.hAppend (List Cond) (List Cond) (List Cond) _ [.methodLink RX0 92 yX0_lettersOf, .static yX0_lettersOf, .initialized RX0, .code yX0_lettersOf cX0_lettersOf 1 (some (.object "java/lang/String")), .methodLink RX0 96 yJ0_length_8abf5, .instanceMethod yJ0_length_8abf5, .selects RJ0 yJ0_length_8abf5 yJ0_length_8abf5, .initialized RJ0, .code yJ0_length_8abf5 cJ0_length_8abf5 1 (some .int), .fieldLink RJ0 9 "java/lang/String" "value" "[B", .methodLink RJ0 335 yJ0_coder_7d493, .instanceMethod yJ0_coder_7d493, .selects RJ0 yJ0_coder_7d493 yJ0_coder_7d493, .code yJ0_coder_7d493 cJ0_coder_7d493 1 (some .byte), .fieldLink RJ0 38 "java/lang/String" "COMPACT_STRINGS" "Z", .fieldLink RJ0 15 "java/lang/String" "coder" "B", .fieldLink RX0 11 "BuoyVote$Borough" "values" "[I", .fieldLink RX0 113 "BuoyVote$Borough" "USUAL" "[I", .fieldLink RX0 103 "BuoyVote$Borough" "FIRST" "[I"] wsX00)
theorem iw_c_X0_setUsual_1_X0 : ∀ w ∈ wsX00, w ∈ wf_c_X0_setUsual_1 := fun w h => List.mem_cons_of_mem _ (List.mem_append_right _ h)
set_option maxRecDepth 20000 in
theorem gf_c_X0_setUsual_1_c_X0_lettersOf_1 : GoodIn wf_c_X0_setUsual_1 (va_wsS RX0 92 yX0_lettersOf wf_c_X0_lettersOf_1) := goodIn_app (gi_l [1, 2, 3] rfl rfl) (gi_cons (j := 4) rfl rfl gi_nil)
set_option maxRecDepth 20000 in
theorem gf_c_X0_setUsual_1_c_J0_length_8abf5_2 : GoodIn wf_c_X0_setUsual_1 (wsV RX0 96 RJ0 yJ0_length_8abf5 wf_c_J0_length_8abf5_2) := goodIn_app (gi_l [5, 6, 7, 8] rfl rfl) (gi_cons (j := 9) rfl rfl (gi_l [10, 11, 12, 13, 8, 14, 15, 16] rfl rfl))
set_option maxHeartbeats 4000000 in
set_option maxRecDepth 100000 in
theorem c_X0_setUsual_1 (l : Launch) (dC : Nat → ClassId) (dI : Nat → Nat → Nat) (sz : Nat) (h0 : Nat) (p2 : Int32) (h0_0 : Nat) (h0_f1 : Int32) (h0_f2 : Int32) (h0_f3 : Int32) (h0_0k : ClassId) (h0_0c : Nat → Int32) (ts2 : Nat) (tv2 : Nat) (ta3 : Nat) (ta0 : Nat) (g_p2 : RG p2 4 60) (g_h0_f1 : RG h0_f1 0 8) (g_h0_f2 : RG h0_f2 0 3) (g_h0_f3 : RG h0_f3 0 1) (a_h0_0c : AI h0_0c (-1) 99) : Met l yX0_setUsual wf_c_X0_setUsual_1 ({ frames := 2, cells := 0, slots := 0, locals := 40 }) (va_Pc [.ref h0, .int 1, .int p2] (fun U => U.heap.size = sz ∧ va_P (dC, dI) vwCl (wd_c_X0_setUsual_1 h0 h0_0 h0_f1 h0_f2 h0_f3 h0_0 h0_0k h0_0c) U.heap ∧ va_K (dC, dI) vwCl [(h0_0k, .int)] U ∧ va_D (fun _ => True) (wd_c_X0_setUsual_1 h0 h0_0 h0_f1 h0_f2 h0_f3 h0_0 h0_0k h0_0c) ∧ vk_R RX0 124 "xycaefor" ts2 U ∧ va_OF "java/lang/String" "value" "[B" (.ref tv2) ts2 (va_A (wd_c_X0_setUsual_1 h0 h0_0 h0_f1 h0_f2 h0_f3 h0_0 h0_0k h0_0c) sz) U U.heap ∧ va_T .byte tv2 8 (fun j => .int ([120, 121, 99, 97, 101, 102, 111, 114].getD j 0)) (va_A (wd_c_X0_setUsual_1 h0 h0_0 h0_f1 h0_f2 h0_f3 h0_0 h0_0k h0_0c) sz) U U.heap ∧ va_Z "java/lang/String" "COMPACT_STRINGS" "Z" (.int 1) (va_A (wd_c_X0_setUsual_1 h0 h0_0 h0_f1 h0_f2 h0_f3 h0_0 h0_0k h0_0c) sz) U U.heap ∧ va_OF "java/lang/String" "coder" "B" (.int 0) ts2 (va_A (wd_c_X0_setUsual_1 h0 h0_0 h0_f1 h0_f2 h0_f3 h0_0 h0_0k h0_0c) sz) U U.heap ∧ va_O "java/lang/String" ts2 (va_A (wd_c_X0_setUsual_1 h0 h0_0 h0_f1 h0_f2 h0_f3 h0_0 h0_0k h0_0c) sz) U U.heap ∧ va_Z "BuoyVote$Borough" "USUAL" "[I" (.ref ta3) (va_A (wd_c_X0_setUsual_1 h0 h0_0 h0_f1 h0_f2 h0_f3 h0_0 h0_0k h0_0c) sz) U U.heap ∧ va_Z "BuoyVote$Borough" "FIRST" "[I" (.ref ta0) (va_A (wd_c_X0_setUsual_1 h0 h0_0 h0_f1 h0_f2 h0_f3 h0_0 h0_0k h0_0c) sz) U U.heap ∧ va_T .int ta0 3 (fun j => .int ([0, 4, 12].getD j 0)) (va_A (wd_c_X0_setUsual_1 h0 h0_0 h0_f1 h0_f2 h0_f3 h0_0 h0_0k h0_0c) sz) U U.heap ∧ va_T .int ta3 16 (fun j => .int ([2, 0, 6, 8, 0, 0, 3, 0, 0, 0, 3, 2, 0, 0, 2, 3].getD j 0)) (va_A (wd_c_X0_setUsual_1 h0 h0_0 h0_f1 h0_f2 h0_f3 h0_0 h0_0k h0_0c) sz) U U.heap)) (va_Qv (fun (u : (Nat → Int32)) => (AI (u) (-1) 99 ∧ u = fx_c_X0_setUsual_1 p2 h0_0c)) (fun (u : (Nat → Int32)) t => va_P (dC, dI) vwCl (wd_c_X0_setUsual_1 h0 h0_0 h0_f1 h0_f2 h0_f3 h0_0 h0_0k (u)) t.heap ∧ va_K (dC, dI) vwCl [] t ∧ va_D (va_A (wd_c_X0_setUsual_1 h0 h0_0 h0_f1 h0_f2 h0_f3 h0_0 h0_0k h0_0c) sz) (wd_c_X0_setUsual_1 h0 h0_0 h0_f1 h0_f2 h0_f3 h0_0 h0_0k (u))) (va_A (wd_c_X0_setUsual_1 h0 h0_0 h0_f1 h0_f2 h0_f3 h0_0 h0_0k h0_0c) sz)) 0 0 (va_A (wd_c_X0_setUsual_1 h0 h0_0 h0_f1 h0_f2 h0_f3 h0_0 h0_0k h0_0c) sz) := by
  refine Met.ofW (cc := cX0_setUsual) (maxL := 5) (ret := none) (by decide +kernel) rfl ?_
  intro p e s m args below meth c s₁ B hml hv
  obtain ⟨rfl, hsz, hP, hK, hD0, hE_22, hE_25, hE_26, hE_10, hE_24, hE_23, hE_6, hE_0, hE_1, hE_7⟩ := hv
  have hx := B.exec
  have hb := B.bytes
  have hr := B.returns
  have hts := atoms_spec (ws := wf_c_X0_setUsual_1) B.pre
  have hown : s.vm.findClass RX0 = some m.cls := findClass_of_methodNamed B.named
  have hlocks := B.notSynchronized
  subst hsz
  have hD := hD0.self (sz := s.heap.size)
  generalize hAe : va_A (wd_c_X0_setUsual_1 h0 h0_0 h0_f1 h0_f2 h0_f3 h0_0 h0_0k h0_0c) s.heap.size = A at hD hE_25 hE_26 hE_10 hE_24 hE_23 hE_6 hE_0 hE_1 hE_7 ⊢
  have hA : ∀ q : Nat, s.heap.size ≤ q → A q := fun q h => by rw [← hAe]; exact Or.inr h
  have hP : va_P (dC, dI) vwCl (wd_c_X0_setUsual_1 h0 h0_0 h0_f1 h0_f2 h0_f3 h0_0 h0_0k h0_0c) s.heap := hP
  have hl := lv_entry ([.ref h0, .int 1, .int p2]) (n := 5) (Nat.le_of_ble_eq_true rfl)
  rw [lg_entry_eq]
  generalize (lg_sl ([.ref h0, .int 1, .int p2]) ++ List.replicate (5 - (lg_sl ([.ref h0, .int 1, .int p2])).length) Slot.unset).toArray = ls at hl ⊢
  have hl : lv_has ls 5 [(0, .ref h0), (1, .int 1), (2, .int p2)] := hl
  obtain ⟨H, hHe⟩ : ∃ H : Heap, s.heap = H := ⟨_, rfl⟩
  have hS : va_S A s.heap H [] := by rw [hHe]; exact va_S.rf
  have hP : va_P (dC, dI) vwCl (wd_c_X0_setUsual_1 h0 h0_0 h0_f1 h0_f2 h0_f3 h0_0 h0_0k h0_0c) H := by rw [← hHe]; exact hP
  rw [hHe]
  obtain ⟨RES, hR⟩ : ∃ z, fx_c_X0_setUsual_1 p2 h0_0c = z := ⟨_, rfl⟩
  have hEX : RES = fx_c_X0_setUsual_1 p2 h0_0c := hR.symm
  refine wj (fun G hG hU => ?_)
  as_aux_lemma =>
  have J11 : ∀ (n11 : Nat) (j11_l4 : Int32) (j11_h0_0c : Nat → Int32) (hM11 : MU j11_l4 < n11) (g_h0_f1 : RG h0_f1 0 8) (g_h0_f2 : RG h0_f2 0 3) (g_h0_f3 : RG h0_f3 0 1) (g_j11_l4 : RG j11_l4 0 8) (g_p2 : RG p2 4 60) (a_j11_h0_0c : AI j11_h0_0c (-1) 99) (hEX : RES = fx_c_X0_setUsual_1_p11 p2 n11 j11_l4 j11_h0_0c) (H : Heap) (locs : List Loc) (ls : Array Slot) (hP : va_P (dC, dI) vwCl (wd_c_X0_setUsual_1 h0 h0_0 h0_f1 h0_f2 h0_f3 h0_0 h0_0k j11_h0_0c) H) (hD : va_D A (wd_c_X0_setUsual_1 h0 h0_0 h0_f1 h0_f2 h0_f3 h0_0 h0_0k j11_h0_0c)) (hS : va_S A s.heap H locs) (hl : lv_has ls 5 [(4, .int j11_l4), (3, .int 8), (0, .ref h0), (1, .int 1), (2, .int p2)]), G H locs (F0 m 11 ls []) := by
    as_aux_lemma =>
    intro n11
    induction n11 with
    | zero => intros; exact absurd (by assumption) (Nat.not_lt_zero _)
    | succ n11 ih11 =>
      intro j11_l4 j11_h0_0c hM11 g_h0_f1 g_h0_f2 g_h0_f3 g_j11_l4 g_p2 a_j11_h0_0c hEX H locs ls hP hD hS hl
      refine hG _ _ _ ?_
      replace hEX := hEX.trans (if_pos (rfl : j11_l4 = j11_l4))
      refine lv_iload hx hb dX0_setUsual_11 (lv_at hl 0 rfl) ?_
      refine lv_iload_n hx hb dX0_setUsual_13 rfl (lv_at hl 1 rfl) ?_
      refine lv_icmp_ge (tgt := 44) hx hb dX0_setUsual_14 rfl (fun c_1 => ?_) (fun c_1 => ?_)
      · replace hEX := hEX.trans (if_pos c_1)
        have g_2 : RG j11_l4 8 8 := RG_le2 (RG_k 8 8 rfl) g_j11_l4 c_1 (by decide +kernel)
        have hK9 := hK.sub (tys' := []) [] rfl
        exact W.vret hx hb hr (fun t ht hW => ⟨⟨j11_h0_0c, rfl, ⟨a_j11_h0_0c, (hR.trans hEX).symm⟩, by rw [ht]; exact hP, va_K.moved hW.alike hK9, hD⟩, hS.F ht⟩) hS.2.2 dX0_setUsual_44
      · replace hEX := hEX.trans (if_neg c_1)
        have d_3 := Int32.not_le.mp c_1
        have g_4 : RG j11_l4 0 7 := RG_lt1 g_j11_l4 (RG_k 8 8 rfl) d_3 (by decide +kernel)
        refine lv_aload_n hx hb dX0_setUsual_17 rfl (lv_at hl 2 rfl) ?_
        as_aux_lemma =>
        refine va_get (D := (dC, dI)) (ci := 0) (v := .ref h0_0) (C := RX0) (T := TX0) (N := 4) hx hb hts iw_c_X0_setUsual_1_X0 hown hK hP 0 rfl rfl 0 (by decide +kernel) (hts (.fieldLink RX0 11 "BuoyVote$Borough" "values" "[I") (List.mem_of_getElem? (i := 17) rfl)) (fun _ h9 => h9) rfl dX0_setUsual_18 ?_
        refine lv_iload_n hx hb dX0_setUsual_21 rfl (lv_at hl 4 rfl) ?_
        refine lv_iload hx hb dX0_setUsual_22 (lv_at hl 0 rfl) ?_
        refine lv_iadd hx hb dX0_setUsual_24 ?_
        refine lv_topi (fun x_5 ex_5 => ?_)
        replace hEX := hEX.trans (exl_eq ex_5)
        have g_6 : RG x_5 4 67 := RG_add ex_5 g_p2 g_4 (by decide +kernel)
        refine va_gets hx hb hE_6 hS hown (hts (.fieldLink RX0 113 "BuoyVote$Borough" "USUAL" "[I") (List.mem_of_getElem? (i := 18) rfl)) (fun _ h9 => h9) dX0_setUsual_25 ?_
        refine va_gets hx hb hE_0 hS hown (hts (.fieldLink RX0 103 "BuoyVote$Borough" "FIRST" "[I") (List.mem_of_getElem? (i := 19) rfl)) (fun _ h9 => h9) dX0_setUsual_28 ?_
        refine lv_iload_n hx hb dX0_setUsual_31 rfl (lv_at hl 3 rfl) ?_
        refine va_ti (v := .int 4) hx hb hE_1 hS (by unfold vp_in; decide) rfl dX0_setUsual_32 ?_
        refine lv_iload hx hb dX0_setUsual_33 (lv_at hl 0 rfl) ?_
        refine lv_iadd hx hb dX0_setUsual_35 ?_
        refine lv_topi (fun x_7 ex_7 => ?_)
        as_aux_lemma =>
        replace hEX := hEX.trans (exl_eq ex_7)
        have g_8 : RG x_7 4 11 := RG_add ex_7 (RG_k 4 4 rfl) g_4 (by decide +kernel)
        refine va_ti hx hb hE_7 hS (RG_in g_8 (by decide +kernel)) rfl dX0_setUsual_36 ?_
        refine lv_topi (fun x_9 ex_9 => ?_)
        replace hEX := hEX.trans (exl_eq ex_9)
        have g_10 : RG x_9 0 8 := RG_tab ex_9 (by decide +kernel)
        refine va_iast hx hb hK hP hD hS 1 0 rfl rfl (RG_in g_6 (by decide +kernel)) dX0_setUsual_37 (fun H locs hP hD hS => ?_)
        have hP : va_P (dC, dI) vwCl (wd_c_X0_setUsual_1 h0 h0_0 h0_f1 h0_f2 h0_f3 h0_0 h0_0k (upd j11_h0_0c (x_5 : Int32).toNatClampNeg x_9)) H := hP
        have hD : va_D A (wd_c_X0_setUsual_1 h0 h0_0 h0_f1 h0_f2 h0_f3 h0_0 h0_0k (upd j11_h0_0c (x_5 : Int32).toNatClampNeg x_9)) := hD
        have l_12 : (upd j11_h0_0c (x_5 : Int32).toNatClampNeg x_9) (x_5 : Int32).toNatClampNeg = x_9 := pk_us
        have a_13 : AI (upd j11_h0_0c (x_5 : Int32).toNatClampNeg x_9) (-1) 99 := AI_up a_j11_h0_0c g_10 (by decide +kernel)
        generalize huw_11 : (upd j11_h0_0c (x_5 : Int32).toNatClampNeg x_9) = w_11 at hP hD a_13 l_12
        replace hEX := hEX.trans (exl_eq huw_11.symm)
        have hP : va_P (dC, dI) vwCl (wd_c_X0_setUsual_1 h0 h0_0 h0_f1 h0_f2 h0_f3 h0_0 h0_0k w_11) H := hP
        have hD : va_D A (wd_c_X0_setUsual_1 h0 h0_0 h0_f1 h0_f2 h0_f3 h0_0 h0_0k w_11) := hD
        obtain ⟨x_14, ex_14⟩ : ∃ y : Int32, y = j11_l4 + 1 := ⟨_, rfl⟩
        have g_15 : RG x_14 1 8 := RG_add ex_14 g_4 (RG_k 1 1 rfl) (by decide +kernel)
        replace hEX := hEX.trans (exl_eq ex_14)
        refine lv_iinc (v := x_14) (lv' := [(4, .int x_14), (3, .int 8), (0, .ref h0), (1, .int 1), (2, .int p2)]) hx hb dX0_setUsual_38 hl (k := 0) rfl (by rw [ex_14]; rfl) (Nat.le_of_ble_eq_true rfl) rfl (fun ls hl => ?_)
        as_aux_lemma =>
        refine lv_goto (tgt := 11) hx hb dX0_setUsual_41 rfl ?_
        exact hU _ _ _ (ih11 x_14 w_11 (mu_s (MU_add ex_14 g_4 (q := 1) rfl (by decide +kernel)) hM11) g_h0_f1 g_h0_f2 g_h0_f3 (RG_w g_15 (by decide +kernel)) g_p2 a_13 hEX _ _ _ hP hD hS (lv_sub hl [0, 1, 2, 3, 4] rfl))
  refine hG _ _ _ ?_
  refine lv_iload_n hx hb dX0_setUsual_0 rfl (lv_at hl 1 rfl) ?_
  obtain ⟨hPc, hDc, hFc, hqc⟩ := cl_cut (wc := []) hP hD hS hA [] (by decide +kernel) rfl
  have hKc := hK.sub (tys' := []) [] rfl
  refine va_callr (va_runS (As := [.int 1]) (rest := []) ⟨hx, hb, hml, hown, hts⟩ (c_X0_lettersOf_1 l dC dI H.size ts2) (va_cwS 1 hts gf_c_X0_setUsual_1_c_X0_lettersOf_1 rfl rfl rfl md_X0_lettersOf ⟨Nat.le_of_ble_eq_true rfl, Nat.le_of_ble_eq_true rfl⟩) ⟨fun a U g mk q => by obtain ⟨q0, q1, qP, qK, qD, qE0⟩ := q; exact ⟨q0, q1, qP, va_K.moved (u := U) (U := U.calling g mk a) (Vm.Alike.refl U.vm) qK, qD, vk_R.same rfl qE0⟩, fun U hU hW => ⟨rfl, by rw [hU], by rw [hU]; exact hPc, va_K.moved hW.alike hKc, hDc.weaken (fun _ _ _ _ => trivial), vk_R.warm hW hE_22⟩⟩ rfl rfl hl.1 rfl (lv_room (Nat.le_of_ble_eq_true rfl)) dX0_setUsual_1 ⟨Nat.le_of_ble_eq_true rfl, Nat.le_of_ble_eq_true rfl⟩) hS (fun q _ h => hFc q h) hFc (fun x_17 r_16 t H1 locs ht hvm hw hB hz1 hk1 hS => ?_)
  obtain ⟨hra, hP1, hK1, hD1⟩ := hB
  rw [ht] at hP1
  have hP := bv_still hP hk1
  generalize H1 = H at hP hS ⊢
  as_aux_lemma =>
  have h_18 := hw
  rw [hra, show x_17 = ts2 from h_18]
  obtain ⟨hPc, hDc, hFc, hqc⟩ := cl_cut (wc := []) hP hD hS hA [] (by decide +kernel) rfl
  have hKc := hK.sub (tys' := []) [] rfl
  have hrv := bv_Orecv hE_23 hS
  refine va_calli (va_runV (As := []) (rest := []) ⟨hx, hb, hml, hown, hts⟩ (c_J0_length_8abf5_2 l dC dI H.size ts2 tv2) (cwV 0 hts gf_c_X0_setUsual_1_c_J0_length_8abf5_2 rfl rfl rfl mdV_J0_length_8abf5 ⟨Nat.le_of_ble_eq_true rfl, Nat.le_of_ble_eq_true rfl⟩) ⟨fun a U g mk q => by obtain ⟨q0, q1, qP, qK, qD, qE0, qE1, qE2, qE3, qE4⟩ := q; exact ⟨q0, q1, qP, va_K.moved (u := U) (U := U.calling g mk a) (Vm.Alike.refl U.vm) qK, qD, va_OF.moved (u := U) (U := U.calling g mk a) (Vm.Alike.refl U.vm) qE0, va_T.moved (u := U) (U := U.calling g mk a) (Vm.Alike.refl U.vm) qE1, va_Z.moved (u := U) (U := U.calling g mk a) (Vm.Alike.refl U.vm) qE2, va_OF.moved (u := U) (U := U.calling g mk a) (Vm.Alike.refl U.vm) qE3, va_O.moved (u := U) (U := U.calling g mk a) (Vm.Alike.refl U.vm) qE4⟩, hrv, fun U hU hW => ⟨rfl, by rw [hU], by rw [hU]; exact hPc, va_K.moved hW.alike hKc, hDc.weaken (fun _ _ _ _ => trivial), va_OF.moved hW.alike (by rw [hU]; exact (hE_25.kept hS.2.1).narrow hFc), va_T.moved hW.alike (by rw [hU]; exact (hE_26.kept hS.2.1).narrow hFc), va_Z.moved hW.alike (by rw [hU]; exact (hE_10.kept hS.2.1).narrow hFc), va_OF.moved hW.alike (by rw [hU]; exact (hE_24.kept hS.2.1).narrow hFc), va_O.moved hW.alike (by rw [hU]; exact (hE_23.kept hS.2.1).narrow hFc)⟩⟩ rfl rfl hl.1 rfl (lv_room (Nat.le_of_ble_eq_true rfl)) dX0_setUsual_4 ⟨Nat.le_of_ble_eq_true rfl, Nat.le_of_ble_eq_true rfl⟩) hS (fun q _ h => hFc q h) hFc (fun r_19 u t H1 locs ht hvm hw hB hz1 hk1 hS => ?_)
  obtain ⟨hP1, hK1, hD1⟩ := hB
  rw [ht] at hP1
  have hP := bv_still hP hk1
  generalize H1 = H at hP hS ⊢
  as_aux_lemma =>
  rcases hw with ⟨h_20, h_21⟩
  have h_21 : r_19 = _ := h_21
  replace hEX := hEX.trans (exc1_eq h_21)
  rw [h_20]
  refine lv_istore_n (lv' := [(3, .int 8), (0, .ref h0), (1, .int 1), (2, .int p2)]) hx hb dX0_setUsual_7 rfl hl (Nat.le_of_ble_eq_true rfl) rfl (fun ls hl => ?_)
  refine lv_iconst (v := 0) hx hb dX0_setUsual_8 kc_iconst_0 ?_
  refine lv_istore (lv' := [(4, .int 0), (3, .int 8), (0, .ref h0), (1, .int 1), (2, .int p2)]) hx hb dX0_setUsual_9 hl (Nat.le_of_ble_eq_true rfl) rfl (fun ls hl => ?_)
  exact hU _ _ _ (J11 exF 0 h0_0c MU_F g_h0_f1 g_h0_f2 g_h0_f3 (RG_w (RG_k 0 0 rfl) (by decide +kernel)) g_p2 a_h0_0c hEX _ _ _ hP hD hS (lv_sub hl [0, 1, 2, 3, 4] rfl))
noncomputable def wd_c_X0_beginClause_1 (a0 : Nat) (a1 : Nat) (a2 : Int32) (a3 : Int32) (a4 : Int32) (a5 : Nat) (a6 : ClassId) (a7 : Nat → Int32) : va_W := [(a0, .inr (0, [.ref a1, .int a2, .int a3, .int a4])), (a5, .inl (a6, 80, .inl a7))]
noncomputable def wf_c_X0_beginClause_1 : List Cond := List.cons (.code yX0_beginClause cX0_beginClause 3 (some .int)) (@HAppend.hAppend (List Cond) (List Cond) (List Cond) _ [.fieldLink RX0 21 "BuoyVote$Borough" "buoys" "I", .methodLink RX0 32 yX0_setUsual, .instanceMethod yX0_setUsual, .selects RX0 yX0_setUsual yX0_setUsual, .initialized RX0, .code yX0_setUsual cX0_setUsual 5 none, .methodLink RX0 92 yX0_lettersOf, .static yX0_lettersOf, .code yX0_lettersOf cX0_lettersOf 1 (some (.object "java/lang/String")), .methodLink RX0 96 yJ0_length_8abf5, .instanceMethod yJ0_length_8abf5, .selects RJ0 yJ0_length_8abf5 yJ0_length_8abf5, .initialized RJ0, .code yJ0_length_8abf5 cJ0_length_8abf5 1 (some .int), .fieldLink RJ0 9 "java/lang/String" "value" "[B", .methodLink RJ0 335 yJ0_coder_7d493, .instanceMethod yJ0_coder_7d493, .selects RJ0 yJ0_coder_7d493 yJ0_coder_7d493, .code yJ0_coder_7d493 cJ0_coder_7d493 1 (some .byte), .fieldLink RJ0 38 "java/lang/String" "COMPACT_STRINGS" "Z", .fieldLink RJ0 15 "java/lang/String" "coder" "B", .fieldLink RX0 11 "BuoyVote$Borough" "values" "[I", .fieldLink RX0 113 "BuoyVote$Borough" "USUAL" "[I", .fieldLink RX0 103 "BuoyVote$Borough" "FIRST" "[I"] wsX00)
theorem iw_c_X0_beginClause_1_X0 : ∀ w ∈ wsX00, w ∈ wf_c_X0_beginClause_1 := fun w h => List.mem_cons_of_mem _ (List.mem_append_right _ h)
set_option maxRecDepth 20000 in
theorem gf_c_X0_beginClause_1_c_X0_setUsual_1 : GoodIn wf_c_X0_beginClause_1 (wsV RX0 32 RX0 yX0_setUsual wf_c_X0_setUsual_1) := goodIn_app (gi_l [2, 3, 4, 5] rfl rfl) (gi_cons (j := 6) rfl rfl (goodIn_app (gi_l [7, 8, 5, 9, 10, 11, 12, 13, 14, 15, 16, 17, 18, 19, 20, 21, 22, 23, 24] rfl rfl) (goodIn_sub iw_c_X0_beginClause_1_X0 gw_X0)))
set_option maxHeartbeats 4000000 in
set_option maxRecDepth 100000 in
theorem c_X0_beginClause_1 (l : Launch) (dC : Nat → ClassId) (dI : Nat → Nat → Nat) (sz : Nat) (h0 : Nat) (h0_0 : Nat) (h0_f1 : Int32) (h0_f2 : Int32) (h0_f3 : Int32) (h0_0k : ClassId) (h0_0c : Nat → Int32) (ts2 : Nat) (tv2 : Nat) (ta3 : Nat) (ta0 : Nat) (g_h0_f1 : RG h0_f1 0 7) (g_h0_f2 : RG h0_f2 0 3) (g_h0_f3 : RG h0_f3 0 1) (a_h0_0c : AI h0_0c (-1) 99) : Met l yX0_beginClause wf_c_X0_beginClause_1 ({ frames := 3, cells := 0, slots := 0, locals := 64 }) (va_Pc [.ref h0, .int 1] (fun U => U.heap.size = sz ∧ va_P (dC, dI) vwCl (wd_c_X0_beginClause_1 h0 h0_0 h0_f1 h0_f2 h0_f3 h0_0 h0_0k h0_0c) U.heap ∧ va_K (dC, dI) vwCl [(h0_0k, .int)] U ∧ va_D (fun _ => True) (wd_c_X0_beginClause_1 h0 h0_0 h0_f1 h0_f2 h0_f3 h0_0 h0_0k h0_0c) ∧ vk_R RX0 124 "xycaefor" ts2 U ∧ va_OF "java/lang/String" "value" "[B" (.ref tv2) ts2 (va_A (wd_c_X0_beginClause_1 h0 h0_0 h0_f1 h0_f2 h0_f3 h0_0 h0_0k h0_0c) sz) U U.heap ∧ va_T .byte tv2 8 (fun j => .int ([120, 121, 99, 97, 101, 102, 111, 114].getD j 0)) (va_A (wd_c_X0_beginClause_1 h0 h0_0 h0_f1 h0_f2 h0_f3 h0_0 h0_0k h0_0c) sz) U U.heap ∧ va_Z "java/lang/String" "COMPACT_STRINGS" "Z" (.int 1) (va_A (wd_c_X0_beginClause_1 h0 h0_0 h0_f1 h0_f2 h0_f3 h0_0 h0_0k h0_0c) sz) U U.heap ∧ va_OF "java/lang/String" "coder" "B" (.int 0) ts2 (va_A (wd_c_X0_beginClause_1 h0 h0_0 h0_f1 h0_f2 h0_f3 h0_0 h0_0k h0_0c) sz) U U.heap ∧ va_O "java/lang/String" ts2 (va_A (wd_c_X0_beginClause_1 h0 h0_0 h0_f1 h0_f2 h0_f3 h0_0 h0_0k h0_0c) sz) U U.heap ∧ va_Z "BuoyVote$Borough" "USUAL" "[I" (.ref ta3) (va_A (wd_c_X0_beginClause_1 h0 h0_0 h0_f1 h0_f2 h0_f3 h0_0 h0_0k h0_0c) sz) U U.heap ∧ va_Z "BuoyVote$Borough" "FIRST" "[I" (.ref ta0) (va_A (wd_c_X0_beginClause_1 h0 h0_0 h0_f1 h0_f2 h0_f3 h0_0 h0_0k h0_0c) sz) U U.heap ∧ va_T .int ta0 3 (fun j => .int ([0, 4, 12].getD j 0)) (va_A (wd_c_X0_beginClause_1 h0 h0_0 h0_f1 h0_f2 h0_f3 h0_0 h0_0k h0_0c) sz) U U.heap ∧ va_T .int ta3 16 (fun j => .int ([2, 0, 6, 8, 0, 0, 3, 0, 0, 0, 3, 2, 0, 0, 2, 3].getD j 0)) (va_A (wd_c_X0_beginClause_1 h0 h0_0 h0_f1 h0_f2 h0_f3 h0_0 h0_0k h0_0c) sz) U U.heap)) (va_Qi (fun (r : Int32) (u : (Int32) × (Nat → Int32)) => (RG r 4 60 ∧ RG u.1 1 8 ∧ AI (u.2) (-1) 99 ∧ (r, u.1, u.2) = fx_c_X0_beginClause_1 h0_f1 h0_0c)) (fun (u : (Int32) × (Nat → Int32)) t => va_P (dC, dI) vwCl (wd_c_X0_beginClause_1 h0 h0_0 (u.1) h0_f2 h0_f3 h0_0 h0_0k (u.2)) t.heap ∧ va_K (dC, dI) vwCl [] t ∧ va_D (va_A (wd_c_X0_beginClause_1 h0 h0_0 h0_f1 h0_f2 h0_f3 h0_0 h0_0k h0_0c) sz) (wd_c_X0_beginClause_1 h0 h0_0 (u.1) h0_f2 h0_f3 h0_0 h0_0k (u.2))) (va_A (wd_c_X0_beginClause_1 h0 h0_0 h0_f1 h0_f2 h0_f3 h0_0 h0_0k h0_0c) sz)) 0 0 (va_A (wd_c_X0_beginClause_1 h0 h0_0 h0_f1 h0_f2 h0_f3 h0_0 h0_0k h0_0c) sz) := by
  refine Met.ofW (cc := cX0_beginClause) (maxL := 3) (ret := (some .int)) (by decide +kernel) rfl ?_
  intro p e s m args below meth c s₁ B hml hv
  obtain ⟨rfl, hsz, hP, hK, hD0, hE_22, hE_25, hE_26, hE_10, hE_24, hE_23, hE_6, hE_0, hE_1, hE_7⟩ := hv
  have hx := B.exec
  have hb := B.bytes
  have hr := B.returns
  have hts := atoms_spec (ws := wf_c_X0_beginClause_1) B.pre
  have hown : s.vm.findClass RX0 = some m.cls := findClass_of_methodNamed B.named
  have hlocks := B.notSynchronized
  subst hsz
  have hD := hD0.self (sz := s.heap.size)
  generalize hAe : va_A (wd_c_X0_beginClause_1 h0 h0_0 h0_f1 h0_f2 h0_f3 h0_0 h0_0k h0_0c) s.heap.size = A at hD hE_25 hE_26 hE_10 hE_24 hE_23 hE_6 hE_0 hE_1 hE_7 ⊢
  have hA : ∀ q : Nat, s.heap.size ≤ q → A q := fun q h => by rw [← hAe]; exact Or.inr h
  have hP : va_P (dC, dI) vwCl (wd_c_X0_beginClause_1 h0 h0_0 h0_f1 h0_f2 h0_f3 h0_0 h0_0k h0_0c) s.heap := hP
  have hl := lv_entry ([.ref h0, .int 1]) (n := 3) (Nat.le_of_ble_eq_true rfl)
  rw [lg_entry_eq]
  generalize (lg_sl ([.ref h0, .int 1]) ++ List.replicate (3 - (lg_sl ([.ref h0, .int 1])).length) Slot.unset).toArray = ls at hl ⊢
  have hl : lv_has ls 3 [(0, .ref h0), (1, .int 1)] := hl
  obtain ⟨H, hHe⟩ : ∃ H : Heap, s.heap = H := ⟨_, rfl⟩
  have hS : va_S A s.heap H [] := by rw [hHe]; exact va_S.rf
  have hP : va_P (dC, dI) vwCl (wd_c_X0_beginClause_1 h0 h0_0 h0_f1 h0_f2 h0_f3 h0_0 h0_0k h0_0c) H := by rw [← hHe]; exact hP
  rw [hHe]
  obtain ⟨RES, hR⟩ : ∃ z, fx_c_X0_beginClause_1 h0_f1 h0_0c = z := ⟨_, rfl⟩
  have hEX : RES = fx_c_X0_beginClause_1 h0_f1 h0_0c := hR.symm
  refine wj (fun G hG hU => ?_)
  as_aux_lemma =>
  have J62 : ∀ (j62_l2 : Int32) (j62_h0_f1 : Int32) (g_h0_f1 : RG h0_f1 0 7) (g_h0_f2 : RG h0_f2 0 3) (g_h0_f3 : RG h0_f3 0 1) (g_j62_h0_f1 : RG j62_h0_f1 1 8) (g_j62_l2 : RG j62_l2 4 60) (hEX : RES = fx_c_X0_beginClause_1_p62 h0_0c j62_l2 j62_h0_f1) (H : Heap) (locs : List Loc) (ls : Array Slot) (hP : va_P (dC, dI) vwCl (wd_c_X0_beginClause_1 h0 h0_0 j62_h0_f1 h0_f2 h0_f3 h0_0 h0_0k h0_0c) H) (hD : va_D A (wd_c_X0_beginClause_1 h0 h0_0 j62_h0_f1 h0_f2 h0_f3 h0_0 h0_0k h0_0c)) (hS : va_S A s.heap H locs) (hl : lv_has ls 3 [(2, .int j62_l2), (0, .ref h0), (1, .int 1)]), G H locs (F0 m 62 ls []) := by
    as_aux_lemma =>
    intro j62_l2 j62_h0_f1 g_h0_f1 g_h0_f2 g_h0_f3 g_j62_h0_f1 g_j62_l2 hEX H locs ls hP hD hS hl
    refine hG _ _ _ ?_
    refine lv_aload_n hx hb dX0_beginClause_62 rfl (lv_at hl 1 rfl) ?_
    refine lv_iload_n hx hb dX0_beginClause_63 rfl (lv_at hl 2 rfl) ?_
    refine lv_iload_n hx hb dX0_beginClause_64 rfl (lv_at hl 0 rfl) ?_
    obtain ⟨hPc, hDc, hFc, hqc⟩ := cl_cut (wc := (wd_c_X0_setUsual_1 h0 h0_0 j62_h0_f1 h0_f2 h0_f3 h0_0 h0_0k h0_0c)) hP hD hS hA [0, 1] (by decide +kernel) rfl
    have hKc := hK.sub (tys' := [(h0_0k, .int)]) [0] rfl
    have hrv := va_recv hKc hPc (ci := 0) (q0 := 0) rfl rfl
    refine va_callv (va_runV (As := [.int 1, .int j62_l2]) (rest := []) ⟨hx, hb, hml, hown, hts⟩ (c_X0_setUsual_1 l dC dI H.size h0 j62_l2 h0_0 j62_h0_f1 h0_f2 h0_f3 h0_0k h0_0c ts2 tv2 ta3 ta0 g_j62_l2 (RG_w g_j62_h0_f1 (by decide +kernel)) g_h0_f2 g_h0_f3 a_h0_0c) (cwV 2 hts gf_c_X0_beginClause_1_c_X0_setUsual_1 rfl rfl rfl mdV_X0_setUsual ⟨Nat.le_of_ble_eq_true rfl, Nat.le_of_ble_eq_true rfl⟩) ⟨fun a U g mk q => by obtain ⟨q0, q1, qP, qK, qD, qE0, qE1, qE2, qE3, qE4, qE5, qE6, qE7, qE8, qE9⟩ := q; exact ⟨q0, q1, qP, va_K.moved (u := U) (U := U.calling g mk a) (Vm.Alike.refl U.vm) qK, qD, vk_R.same rfl qE0, va_OF.moved (u := U) (U := U.calling g mk a) (Vm.Alike.refl U.vm) qE1, va_T.moved (u := U) (U := U.calling g mk a) (Vm.Alike.refl U.vm) qE2, va_Z.moved (u := U) (U := U.calling g mk a) (Vm.Alike.refl U.vm) qE3, va_OF.moved (u := U) (U := U.calling g mk a) (Vm.Alike.refl U.vm) qE4, va_O.moved (u := U) (U := U.calling g mk a) (Vm.Alike.refl U.vm) qE5, va_Z.moved (u := U) (U := U.calling g mk a) (Vm.Alike.refl U.vm) qE6, va_Z.moved (u := U) (U := U.calling g mk a) (Vm.Alike.refl U.vm) qE7, va_T.moved (u := U) (U := U.calling g mk a) (Vm.Alike.refl U.vm) qE8, va_T.moved (u := U) (U := U.calling g mk a) (Vm.Alike.refl U.vm) qE9⟩, hrv, fun U hU hW => ⟨rfl, by rw [hU], by rw [hU]; exact hPc, va_K.moved hW.alike hKc, hDc.weaken (fun _ _ _ _ => trivial), vk_R.warm hW hE_22, va_OF.moved hW.alike (by rw [hU]; exact (hE_25.kept hS.2.1).narrow hFc), va_T.moved hW.alike (by rw [hU]; exact (hE_26.kept hS.2.1).narrow hFc), va_Z.moved hW.alike (by rw [hU]; exact (hE_10.kept hS.2.1).narrow hFc), va_OF.moved hW.alike (by rw [hU]; exact (hE_24.kept hS.2.1).narrow hFc), va_O.moved hW.alike (by rw [hU]; exact (hE_23.kept hS.2.1).narrow hFc), va_Z.moved hW.alike (by rw [hU]; exact (hE_6.kept hS.2.1).narrow hFc), va_Z.moved hW.alike (by rw [hU]; exact (hE_0.kept hS.2.1).narrow hFc), va_T.moved hW.alike (by rw [hU]; exact (hE_1.kept hS.2.1).narrow hFc), va_T.moved hW.alike (by rw [hU]; exact (hE_7.kept hS.2.1).narrow hFc)⟩⟩ rfl rfl hl.1 rfl (lv_room (Nat.le_of_ble_eq_true rfl)) dX0_beginClause_65 ⟨Nat.le_of_ble_eq_true rfl, Nat.le_of_ble_eq_true rfl⟩) hS (fun q _ h => hFc q h) hFc (fun w_2 t H1 locs ht hvm hw hB hz1 hk1 hS => ?_)
    obtain ⟨hP1, hK1, hD1⟩ := hB
    rw [ht] at hP1
    obtain ⟨hP, hD⟩ := cl_put (w1 := (wd_c_X0_setUsual_1 h0 h0_0 j62_h0_f1 h0_f2 h0_f3 h0_0 h0_0k w_2)) (nw := (wd_c_X0_beginClause_1 h0 h0_0 j62_h0_f1 h0_f2 h0_f3 h0_0 h0_0k w_2)) hP hD [0, 1] [2, 3] 2 rfl hqc (by decide +kernel) rfl hk1 hFc hP1 hD1
    generalize H1 = H at hP hS ⊢
    as_aux_lemma =>
    rcases hw with ⟨h_3, h_4⟩
    have h_4 : w_2 = _ := h_4
    replace hEX := hEX.trans (exc1_eq h_4)
    refine lv_iload_n hx hb dX0_beginClause_68 rfl (lv_at hl 0 rfl) ?_
    have hK9 := hK.sub (tys' := []) [] rfl
    exact W.iret (v := j62_l2) hx hb hr (fun t ht hW => ⟨⟨j62_l2, (j62_h0_f1, w_2), rfl, ⟨g_j62_l2, g_j62_h0_f1, h_3, (hR.trans hEX).symm⟩, by rw [ht]; exact hP, va_K.moved hW.alike hK9, hD⟩, hS.F ht⟩) hS.2.2 dX0_beginClause_69
  refine hG _ _ _ ?_
  refine lv_iconst (v := 0) hx hb dX0_beginClause_0 kc_iconst_0 ?_
  refine lv_istore_n (lv' := [(2, .int 0), (0, .ref h0), (1, .int 1)]) hx hb dX0_beginClause_1 rfl hl (Nat.le_of_ble_eq_true rfl) rfl (fun ls hl => ?_)
  refine lv_iload_n hx hb dX0_beginClause_2 rfl (lv_at hl 2 rfl) ?_
  refine lv_if_ne (tgt := 14) hx hb dX0_beginClause_3 rfl (fun c_5 => ?_) (fun c_5 => absurd c_5 (by decide +kernel))
  refine lv_iload_n hx hb dX0_beginClause_14 rfl (lv_at hl 2 rfl) ?_
  refine lv_iconst (v := 1) hx hb dX0_beginClause_15 kc_iconst_1 ?_
  refine lv_icmp_ne (tgt := 42) hx hb dX0_beginClause_16 rfl (fun c_6 => absurd c_6 (by decide +kernel)) (fun c_6 => ?_)
  as_aux_lemma =>
  refine lv_iconst (v := 4) hx hb dX0_beginClause_19 kc_iconst_4 ?_
  refine lv_aload_n hx hb dX0_beginClause_20 rfl (lv_at hl 1 rfl) ?_
  refine va_get (D := (dC, dI)) (ci := 0) (v := .int h0_f1) (C := RX0) (T := TX0) (N := 4) hx hb hts iw_c_X0_beginClause_1_X0 hown hK hP 0 rfl rfl 1 (by decide +kernel) (hts (.fieldLink RX0 21 "BuoyVote$Borough" "buoys" "I") (List.mem_of_getElem? (i := 1) rfl)) (fun _ h9 => h9) rfl dX0_beginClause_21 ?_
  refine lv_bipush (v := 8) hx hb dX0_beginClause_24 kc_bipush_8 ?_
  refine lv_imul hx hb dX0_beginClause_26 ?_
  refine lv_topi (fun x_7 ex_7 => ?_)
  replace hEX := hEX.trans (exl_eq ex_7)
  have g_8 : RG x_7 0 56 := RG_mulc ex_7 (q := 8) rfl g_h0_f1 (by decide +kernel)
  refine lv_iadd hx hb dX0_beginClause_27 ?_
  refine lv_topi (fun x_9 ex_9 => ?_)
  replace hEX := hEX.trans (exl_eq ex_9)
  have g_10 : RG x_9 4 60 := RG_add ex_9 (RG_k 4 4 rfl) g_8 (by decide +kernel)
  refine lv_istore_n (lv' := [(2, .int x_9), (0, .ref h0), (1, .int 1)]) hx hb dX0_beginClause_28 rfl hl (Nat.le_of_ble_eq_true rfl) rfl (fun ls hl => ?_)
  refine lv_aload_n hx hb dX0_beginClause_29 rfl (lv_at hl 1 rfl) ?_
  as_aux_lemma =>
  refine lv_dup hx hb dX0_beginClause_30 rfl ?_
  refine va_get (D := (dC, dI)) (ci := 0) (v := .int h0_f1) (C := RX0) (T := TX0) (N := 4) hx hb hts iw_c_X0_beginClause_1_X0 hown hK hP 0 rfl rfl 1 (by decide +kernel) (hts (.fieldLink RX0 21 "BuoyVote$Borough" "buoys" "I") (List.mem_of_getElem? (i := 1) rfl)) (fun _ h9 => h9) rfl dX0_beginClause_31 ?_
  refine lv_iconst (v := 1) hx hb dX0_beginClause_34 kc_iconst_1 ?_
  refine lv_iadd hx hb dX0_beginClause_35 ?_
  refine lv_topi (fun x_11 ex_11 => ?_)
  replace hEX := hEX.trans (exl_eq ex_11)
  have g_12 : RG x_11 1 8 := RG_add ex_11 g_h0_f1 (RG_k 1 1 rfl) (by decide +kernel)
  refine va_put (D := (dC, dI)) (ci := 0) (v := .int x_11) (ty := .int) (C := RX0) (T := TX0) (N := 4) hx hb hts iw_c_X0_beginClause_1_X0 tyX0 tyX0_ok nmX0 hown hK hP hD hS 0 rfl rfl 1 (by decide +kernel) (hts (.fieldLink RX0 21 "BuoyVote$Borough" "buoys" "I") (List.mem_of_getElem? (i := 1) rfl)) (fun _ h9 => h9) rfl (by decide +kernel) rfl rfl (Nat.le_of_ble_eq_true rfl) dX0_beginClause_36 (fun H locs hP hD hS => ?_)
  have hP : va_P (dC, dI) vwCl (wd_c_X0_beginClause_1 h0 h0_0 x_11 h0_f2 h0_f3 h0_0 h0_0k h0_0c) H := hP
  have hD : va_D A (wd_c_X0_beginClause_1 h0 h0_0 x_11 h0_f2 h0_f3 h0_0 h0_0k h0_0c) := hD
  refine lv_goto (tgt := 62) hx hb dX0_beginClause_39 rfl ?_
  exact hU _ _ _ (J62 x_9 x_11 g_h0_f1 g_h0_f2 g_h0_f3 g_12 g_10 hEX _ _ _ hP hD hS (lv_sub hl [0, 1, 2] rfl))
noncomputable def wd_c_X0_hasRoomFor_2 (a0 : Nat) (a1 : Nat) (a2 : Int32) (a3 : Int32) (a4 : Int32) : va_W := [(a0, .inr (0, [.ref a1, .int a2, .int a3, .int a4]))]
noncomputable def wf_c_X0_hasRoomFor_2 : List Cond := List.cons (.code yX0_hasRoomFor cX0_hasRoomFor 2 (some .boolean)) (@HAppend.hAppend (List Cond) (List Cond) (List Cond) _ [.fieldLink RX0 25 "BuoyVote$Borough" "boats" "I"] wsX00)
theorem iw_c_X0_hasRoomFor_2_X0 : ∀ w ∈ wsX00, w ∈ wf_c_X0_hasRoomFor_2 := fun w h => List.mem_cons_of_mem _ (List.mem_append_right _ h)
set_option maxHeartbeats 4000000 in
set_option maxRecDepth 100000 in
theorem c_X0_hasRoomFor_2 (l : Launch) (dC : Nat → ClassId) (dI : Nat → Nat → Nat) (sz : Nat) (h0 : Nat) (h0_0 : Nat) (h0_f1 : Int32) (h0_f2 : Int32) (h0_f3 : Int32) (g_h0_f1 : RG h0_f1 0 8) (g_h0_f2 : RG h0_f2 0 3) (g_h0_f3 : RG h0_f3 0 1) : Met l yX0_hasRoomFor wf_c_X0_hasRoomFor_2 ({ frames := 0, cells := 0, slots := 0, locals := 0 }) (va_Pc [.ref h0, .int 2] (fun U => U.heap.size = sz ∧ va_P (dC, dI) vwCl (wd_c_X0_hasRoomFor_2 h0 h0_0 h0_f1 h0_f2 h0_f3) U.heap ∧ va_K (dC, dI) vwCl [] U ∧ va_D (fun _ => True) (wd_c_X0_hasRoomFor_2 h0 h0_0 h0_f1 h0_f2 h0_f3))) (va_Qi (fun (r : Int32) (u : Unit) => (r = 0 ∧ RG h0_f2 3 3 ∧ r = fx_c_X0_hasRoomFor_2 h0_f2) ∨ (r = 1 ∧ RG h0_f2 0 2 ∧ r = fx_c_X0_hasRoomFor_2 h0_f2)) (fun (u : Unit) t => va_P (dC, dI) vwCl (wd_c_X0_hasRoomFor_2 h0 h0_0 h0_f1 h0_f2 h0_f3) t.heap ∧ va_K (dC, dI) vwCl [] t ∧ va_D (va_A (wd_c_X0_hasRoomFor_2 h0 h0_0 h0_f1 h0_f2 h0_f3) sz) (wd_c_X0_hasRoomFor_2 h0 h0_0 h0_f1 h0_f2 h0_f3)) (va_A (wd_c_X0_hasRoomFor_2 h0 h0_0 h0_f1 h0_f2 h0_f3) sz)) 0 0 (va_A (wd_c_X0_hasRoomFor_2 h0 h0_0 h0_f1 h0_f2 h0_f3) sz) := by
  refine Met.ofW (cc := cX0_hasRoomFor) (maxL := 2) (ret := (some .boolean)) (by decide +kernel) rfl ?_
  intro p e s m args below meth c s₁ B hml hv
  obtain ⟨rfl, hsz, hP, hK, hD0⟩ := hv
  have hx := B.exec
  have hb := B.bytes
  have hr := B.returns
  have hts := atoms_spec (ws := wf_c_X0_hasRoomFor_2) B.pre
  have hown : s.vm.findClass RX0 = some m.cls := findClass_of_methodNamed B.named
  have hlocks := B.notSynchronized
  subst hsz
  have hD := hD0.self (sz := s.heap.size)
  generalize hAe : va_A (wd_c_X0_hasRoomFor_2 h0 h0_0 h0_f1 h0_f2 h0_f3) s.heap.size = A at hD ⊢
  have hA : ∀ q : Nat, s.heap.size ≤ q → A q := fun q h => by rw [← hAe]; exact Or.inr h
  have hP : va_P (dC, dI) vwCl (wd_c_X0_hasRoomFor_2 h0 h0_0 h0_f1 h0_f2 h0_f3) s.heap := hP
  have hl := lv_entry ([.ref h0, .int 2]) (n := 2) (Nat.le_of_ble_eq_true rfl)
  rw [lg_entry_eq]
  generalize (lg_sl ([.ref h0, .int 2]) ++ List.replicate (2 - (lg_sl ([.ref h0, .int 2])).length) Slot.unset).toArray = ls at hl ⊢
  have hl : lv_has ls 2 [(0, .ref h0), (1, .int 2)] := hl
  obtain ⟨H, hHe⟩ : ∃ H : Heap, s.heap = H := ⟨_, rfl⟩
  have hS : va_S A s.heap H [] := by rw [hHe]; exact va_S.rf
  have hP : va_P (dC, dI) vwCl (wd_c_X0_hasRoomFor_2 h0 h0_0 h0_f1 h0_f2 h0_f3) H := by rw [← hHe]; exact hP
  rw [hHe]
  obtain ⟨RES, hR⟩ : ∃ z, fx_c_X0_hasRoomFor_2 h0_f2 = z := ⟨_, rfl⟩
  have hEX : RES = fx_c_X0_hasRoomFor_2 h0_f2 := hR.symm
  refine lv_iload_n hx hb dX0_hasRoomFor_0 rfl (lv_at hl 1 rfl) ?_
  as_aux_lemma =>
  refine lv_if_ne (tgt := 17) hx hb dX0_hasRoomFor_1 rfl (fun c_1 => ?_) (fun c_1 => absurd c_1 (by decide +kernel))
  refine lv_iload_n hx hb dX0_hasRoomFor_17 rfl (lv_at hl 1 rfl) ?_
  refine lv_iconst (v := 1) hx hb dX0_hasRoomFor_18 kc_iconst_1 ?_
  refine lv_icmp_ne (tgt := 39) hx hb dX0_hasRoomFor_19 rfl (fun c_2 => ?_) (fun c_2 => absurd c_2 (by decide +kernel))
  refine lv_aload_n hx hb dX0_hasRoomFor_39 rfl (lv_at hl 0 rfl) ?_
  refine va_get (D := (dC, dI)) (ci := 0) (v := .int h0_f2) (C := RX0) (T := TX0) (N := 4) hx hb hts iw_c_X0_hasRoomFor_2_X0 hown hK hP 0 rfl rfl 2 (by decide +kernel) (hts (.fieldLink RX0 25 "BuoyVote$Borough" "boats" "I") (List.mem_of_getElem? (i := 1) rfl)) (fun _ h9 => h9) rfl dX0_hasRoomFor_40 ?_
  refine lv_iconst (v := 3) hx hb dX0_hasRoomFor_43 kc_iconst_3 ?_
  refine lv_icmp_ge (tgt := 51) hx hb dX0_hasRoomFor_44 rfl (fun c_3 => ?_) (fun c_3 => ?_)
  · replace hEX := hEX.trans (if_pos c_3)
    have g_4 : RG h0_f2 3 3 := RG_le2 (RG_k 3 3 rfl) g_h0_f2 c_3 (by decide +kernel)
    refine lv_iconst (v := 0) hx hb dX0_hasRoomFor_51 kc_iconst_0 ?_
    have hK9 := hK.sub (tys' := []) [] rfl
    exact W.zret (v := 0) hx hb hr rfl (fun t ht hW => ⟨⟨0, (), rfl, (Or.inl ⟨rfl, g_4, (hR.trans hEX).symm⟩), by rw [ht]; exact hP, va_K.moved hW.alike hK9, hD⟩, hS.F ht⟩) hS.2.2 dX0_hasRoomFor_52
  · replace hEX := hEX.trans (if_neg c_3)
    have d_5 := Int32.not_le.mp c_3
    have g_6 : RG h0_f2 0 2 := RG_lt1 g_h0_f2 (RG_k 3 3 rfl) d_5 (by decide +kernel)
    refine lv_iconst (v := 1) hx hb dX0_hasRoomFor_47 kc_iconst_1 ?_
    as_aux_lemma =>
    refine lv_goto (tgt := 52) hx hb dX0_hasRoomFor_48 rfl ?_
    have hK9 := hK.sub (tys' := []) [] rfl
    exact W.zret (v := 1) hx hb hr rfl (fun t ht hW => ⟨⟨1, (), rfl, (Or.inr ⟨rfl, g_6, (hR.trans hEX).symm⟩), by rw [ht]; exact hP, va_K.moved hW.alike hK9, hD⟩, hS.F ht⟩) hS.2.2 dX0_hasRoomFor_52
noncomputable def wf_c_X0_lettersOf_2 : List Cond := .code yX0_lettersOf cX0_lettersOf 1 (some (.object "java/lang/String")) :: ([])
set_option maxHeartbeats 4000000 in
set_option maxRecDepth 100000 in
theorem c_X0_lettersOf_2 (l : Launch) (dC : Nat → ClassId) (dI : Nat → Nat → Nat) (sz : Nat) (ts3 : Nat) : Met l yX0_lettersOf wf_c_X0_lettersOf_2 ({ frames := 0, cells := 0, slots := 0, locals := 0 }) (va_Pc [.int 2] (fun U => U.heap.size = sz ∧ va_P (dC, dI) vwCl [] U.heap ∧ va_K (dC, dI) vwCl [] U ∧ va_D (fun _ => True) [] ∧ vk_R RX0 126 "xysv" ts3 U)) (va_Qr (fun (u : (Nat)) => (u = ts3)) (fun (u : (Nat)) (ra : Nat) t => ra = u ∧ va_P (dC, dI) vwCl [] t.heap ∧ va_K (dC, dI) vwCl [] t ∧ va_D (va_A [] sz) []) (va_A [] sz)) 0 0 (va_A [] sz) := by
  refine Met.ofW (cc := cX0_lettersOf) (maxL := 1) (ret := (some (.object "java/lang/String"))) (by decide +kernel) rfl ?_
  intro p e s m args below meth c s₁ B hml hv
  obtain ⟨rfl, hsz, hP, hK, hD0, hE_27⟩ := hv
  have hx := B.exec
  have hb := B.bytes
  have hr := B.returns
  have hts := atoms_spec (ws := wf_c_X0_lettersOf_2) B.pre
  have hown : s.vm.findClass RX0 = some m.cls := findClass_of_methodNamed B.named
  have hlocks := B.notSynchronized
  subst hsz
  have hD := hD0.self (sz := s.heap.size)
  generalize hAe : va_A [] s.heap.size = A at hD ⊢
  have hA : ∀ q : Nat, s.heap.size ≤ q → A q := fun q h => by rw [← hAe]; exact Or.inr h
  have hP : va_P (dC, dI) vwCl [] s.heap := hP
  have hl := lv_entry ([.int 2]) (n := 1) (Nat.le_of_ble_eq_true rfl)
  rw [lg_entry_eq]
  generalize (lg_sl ([.int 2]) ++ List.replicate (1 - (lg_sl ([.int 2])).length) Slot.unset).toArray = ls at hl ⊢
  have hl : lv_has ls 1 [(0, .int 2)] := hl
  obtain ⟨H, hHe⟩ : ∃ H : Heap, s.heap = H := ⟨_, rfl⟩
  have hS : va_S A s.heap H [] := by rw [hHe]; exact va_S.rf
  have hP : va_P (dC, dI) vwCl [] H := by rw [← hHe]; exact hP
  rw [hHe]
  refine lv_iload_n hx hb dX0_lettersOf_0 rfl (lv_at hl 0 rfl) ?_
  as_aux_lemma =>
  refine lv_if_ne (tgt := 7) hx hb dX0_lettersOf_1 rfl (fun c_1 => ?_) (fun c_1 => absurd c_1 (by decide +kernel))
  refine lv_iload_n hx hb dX0_lettersOf_7 rfl (lv_at hl 0 rfl) ?_
  refine lv_iconst (v := 1) hx hb dX0_lettersOf_8 kc_iconst_1 ?_
  refine lv_icmp_ne (tgt := 17) hx hb dX0_lettersOf_9 rfl (fun c_2 => ?_) (fun c_2 => absurd c_2 (by decide +kernel))
  refine va_ldcS hx hb hown hE_27 dX0_lettersOf_17 ?_
  have hK9 := hK.sub (tys' := []) [] rfl
  exact W.aret (v := .ref ts3) hx hb hr (Or.inl ⟨_, rfl⟩) (Or.inr ⟨_, rfl⟩) (fun t ht hW => ⟨⟨ts3, ts3, rfl, rfl, rfl, by rw [ht]; exact hP, va_K.moved hW.alike hK9, hD⟩, hS.F ht⟩) hS.2.2 dX0_lettersOf_19
noncomputable def wf_c_J0_coder_7d493_3 : List Cond := .code yJ0_coder_7d493 cJ0_coder_7d493 1 (some .byte) :: ([.fieldLink RJ0 38 "java/lang/String" "COMPACT_STRINGS" "Z", .fieldLink RJ0 15 "java/lang/String" "coder" "B"])
set_option maxHeartbeats 4000000 in
set_option maxRecDepth 100000 in
theorem c_J0_coder_7d493_3 (l : Launch) (dC : Nat → ClassId) (dI : Nat → Nat → Nat) (sz : Nat) (ts3 : Nat) : Met l yJ0_coder_7d493 wf_c_J0_coder_7d493_3 ({ frames := 0, cells := 0, slots := 0, locals := 0 }) (va_Pc [.ref ts3] (fun U => U.heap.size = sz ∧ va_P (dC, dI) vwCl [] U.heap ∧ va_K (dC, dI) vwCl [] U ∧ va_D (fun _ => True) [] ∧ va_Z "java/lang/String" "COMPACT_STRINGS" "Z" (.int 1) (va_A [] sz) U U.heap ∧ va_OF "java/lang/String" "coder" "B" (.int 0) ts3 (va_A [] sz) U U.heap)) (va_Qi (fun (r : Int32) (u : Unit) => (r = 0 ∧ r = fx_c_J0_coder_7d493_3)) (fun (u : Unit) t => va_P (dC, dI) vwCl [] t.heap ∧ va_K (dC, dI) vwCl [] t ∧ va_D (va_A [] sz) []) (va_A [] sz)) 0 0 (va_A [] sz) := by
  refine Met.ofW (cc := cJ0_coder_7d493) (maxL := 1) (ret := (some .byte)) (by decide +kernel) rfl ?_
  intro p e s m args below meth c s₁ B hml hv
  obtain ⟨rfl, hsz, hP, hK, hD0, hE_10, hE_29⟩ := hv
  have hx := B.exec
  have hb := B.bytes
  have hr := B.returns
  have hts := atoms_spec (ws := wf_c_J0_coder_7d493_3) B.pre
  have hown : s.vm.findClass RJ0 = some m.cls := findClass_of_methodNamed B.named
  have hlocks := B.notSynchronized
  subst hsz
  have hD := hD0.self (sz := s.heap.size)
  generalize hAe : va_A [] s.heap.size = A at hD hE_10 hE_29 ⊢
  have hA : ∀ q : Nat, s.heap.size ≤ q → A q := fun q h => by rw [← hAe]; exact Or.inr h
  have hP : va_P (dC, dI) vwCl [] s.heap := hP
  have hl := lv_entry ([.ref ts3]) (n := 1) (Nat.le_of_ble_eq_true rfl)
  rw [lg_entry_eq]
  generalize (lg_sl ([.ref ts3]) ++ List.replicate (1 - (lg_sl ([.ref ts3])).length) Slot.unset).toArray = ls at hl ⊢
  have hl : lv_has ls 1 [(0, .ref ts3)] := hl
  obtain ⟨H, hHe⟩ : ∃ H : Heap, s.heap = H := ⟨_, rfl⟩
  have hS : va_S A s.heap H [] := by rw [hHe]; exact va_S.rf
  have hP : va_P (dC, dI) vwCl [] H := by rw [← hHe]; exact hP
  rw [hHe]
  obtain ⟨RES, hR⟩ : ∃ z, fx_c_J0_coder_7d493_3 = z := ⟨_, rfl⟩
  have hEX : RES = fx_c_J0_coder_7d493_3 := hR.symm
  refine va_gets hx hb hE_10 hS hown (hts (.fieldLink RJ0 38 "java/lang/String" "COMPACT_STRINGS" "Z") (List.mem_of_getElem? (i := 1) rfl)) (fun _ h9 => h9) dJ0_coder_7d493_0 ?_
  as_aux_lemma =>
  refine lv_if_eq (tgt := 13) hx hb dJ0_coder_7d493_3 rfl (fun c_1 => absurd c_1 (by decide +kernel)) (fun c_1 => ?_)
  refine lv_aload_n hx hb dJ0_coder_7d493_6 rfl (lv_at hl 0 rfl) ?_
  refine vk_getf hx hb hE_29 hS hown (hts (.fieldLink RJ0 15 "java/lang/String" "coder" "B") (List.mem_of_getElem? (i := 2) rfl)) (fun _ h9 => h9) dJ0_coder_7d493_7 ?_
  refine lv_goto (tgt := 14) hx hb dJ0_coder_7d493_10 rfl ?_
  have hK9 := hK.sub (tys' := []) [] rfl
  exact W.zret (v := 0) hx hb hr rfl (fun t ht hW => ⟨⟨0, (), rfl, ⟨rfl, (hR.trans hEX).symm⟩, by rw [ht]; exact hP, va_K.moved hW.alike hK9, hD⟩, hS.F ht⟩) hS.2.2 dJ0_coder_7d493_14
noncomputable def wf_c_J0_length_8abf5_3 : List Cond := .code yJ0_length_8abf5 cJ0_length_8abf5 1 (some .int) :: ([.fieldLink RJ0 9 "java/lang/String" "value" "[B", .methodLink RJ0 335 yJ0_coder_7d493, .instanceMethod yJ0_coder_7d493, .selects RJ0 yJ0_coder_7d493 yJ0_coder_7d493, .initialized RJ0, .code yJ0_coder_7d493 cJ0_coder_7d493 1 (some .byte), .fieldLink RJ0 38 "java/lang/String" "COMPACT_STRINGS" "Z", .fieldLink RJ0 15 "java/lang/String" "coder" "B"])
set_option maxRecDepth 20000 in
theorem gf_c_J0_length_8abf5_3_c_J0_coder_7d493_3 : GoodIn wf_c_J0_length_8abf5_3 (wsV RJ0 335 RJ0 yJ0_coder_7d493 wf_c_J0_coder_7d493_3) := goodIn_app (gi_l [2, 3, 4, 5] rfl rfl) (gi_cons (j := 6) rfl rfl (gi_l [7, 8] rfl rfl))
set_option maxHeartbeats 4000000 in
set_option maxRecDepth 100000 in
theorem c_J0_length_8abf5_3 (l : Launch) (dC : Nat → ClassId) (dI : Nat → Nat → Nat) (sz : Nat) (ts3 : Nat) (tv3 : Nat) : Met l yJ0_length_8abf5 wf_c_J0_length_8abf5_3 ({ frames := 1, cells := 0, slots := 0, locals := 20 }) (va_Pc [.ref ts3] (fun U => U.heap.size = sz ∧ va_P (dC, dI) vwCl [] U.heap ∧ va_K (dC, dI) vwCl [] U ∧ va_D (fun _ => True) [] ∧ va_OF "java/lang/String" "value" "[B" (.ref tv3) ts3 (va_A [] sz) U U.heap ∧ va_T .byte tv3 4 (fun j => .int ([120, 121, 115, 118].getD j 0)) (va_A [] sz) U U.heap ∧ va_Z "java/lang/String" "COMPACT_STRINGS" "Z" (.int 1) (va_A [] sz) U U.heap ∧ va_OF "java/lang/String" "coder" "B" (.int 0) ts3 (va_A [] sz) U U.heap ∧ va_O "java/lang/String" ts3 (va_A [] sz) U U.heap)) (va_Qi (fun (r : Int32) (u : Unit) => (r = 4 ∧ r = fx_c_J0_length_8abf5_3)) (fun (u : Unit) t => va_P (dC, dI) vwCl [] t.heap ∧ va_K (dC, dI) vwCl [] t ∧ va_D (va_A [] sz) []) (va_A [] sz)) 0 0 (va_A [] sz) := by
  refine Met.ofW (cc := cJ0_length_8abf5) (maxL := 1) (ret := (some .int)) (by decide +kernel) rfl ?_
  intro p e s m args below meth c s₁ B hml hv
  obtain ⟨rfl, hsz, hP, hK, hD0, hE_30, hE_31, hE_10, hE_29, hE_28⟩ := hv
  have hx := B.exec
  have hb := B.bytes
  have hr := B.returns
  have hts := atoms_spec (ws := wf_c_J0_length_8abf5_3) B.pre
  have hown : s.vm.findClass RJ0 = some m.cls := findClass_of_methodNamed B.named
  have hlocks := B.notSynchronized
  subst hsz
  have hD := hD0.self (sz := s.heap.size)
  generalize hAe : va_A [] s.heap.size = A at hD hE_30 hE_31 hE_10 hE_29 hE_28 ⊢
  have hA : ∀ q : Nat, s.heap.size ≤ q → A q := fun q h => by rw [← hAe]; exact Or.inr h
  have hP : va_P (dC, dI) vwCl [] s.heap := hP
  have hl := lv_entry ([.ref ts3]) (n := 1) (Nat.le_of_ble_eq_true rfl)
  rw [lg_entry_eq]
  generalize (lg_sl ([.ref ts3]) ++ List.replicate (1 - (lg_sl ([.ref ts3])).length) Slot.unset).toArray = ls at hl ⊢
  have hl : lv_has ls 1 [(0, .ref ts3)] := hl
  obtain ⟨H, hHe⟩ : ∃ H : Heap, s.heap = H := ⟨_, rfl⟩
  have hS : va_S A s.heap H [] := by rw [hHe]; exact va_S.rf
  have hP : va_P (dC, dI) vwCl [] H := by rw [← hHe]; exact hP
  rw [hHe]
  obtain ⟨RES, hR⟩ : ∃ z, fx_c_J0_length_8abf5_3 = z := ⟨_, rfl⟩
  have hEX : RES = fx_c_J0_length_8abf5_3 := hR.symm
  refine lv_aload_n hx hb dJ0_length_8abf5_0 rfl (lv_at hl 0 rfl) ?_
  as_aux_lemma =>
  refine vk_getf hx hb hE_30 hS hown (hts (.fieldLink RJ0 9 "java/lang/String" "value" "[B") (List.mem_of_getElem? (i := 1) rfl)) (fun _ h9 => h9) dJ0_length_8abf5_1 ?_
  refine va_tlen (v := 4) hx hb hE_31 hS rfl dJ0_length_8abf5_4 ?_
  refine lv_aload_n hx hb dJ0_length_8abf5_5 rfl (lv_at hl 0 rfl) ?_
  obtain ⟨hPc, hDc, hFc, hqc⟩ := cl_cut (wc := []) hP hD hS hA [] (by decide +kernel) rfl
  have hKc := hK.sub (tys' := []) [] rfl
  have hrv := bv_Orecv hE_28 hS
  refine va_calli (va_runV (As := []) (rest := [.int 4]) ⟨hx, hb, hml, hown, hts⟩ (c_J0_coder_7d493_3 l dC dI H.size ts3) (cwV 0 hts gf_c_J0_length_8abf5_3_c_J0_coder_7d493_3 rfl rfl rfl mdV_J0_coder_7d493 ⟨Nat.le_of_ble_eq_true rfl, Nat.le_of_ble_eq_true rfl⟩) ⟨fun a U g mk q => by obtain ⟨q0, q1, qP, qK, qD, qE0, qE1⟩ := q; exact ⟨q0, q1, qP, va_K.moved (u := U) (U := U.calling g mk a) (Vm.Alike.refl U.vm) qK, qD, va_Z.moved (u := U) (U := U.calling g mk a) (Vm.Alike.refl U.vm) qE0, va_OF.moved (u := U) (U := U.calling g mk a) (Vm.Alike.refl U.vm) qE1⟩, hrv, fun U hU hW => ⟨rfl, by rw [hU], by rw [hU]; exact hPc, va_K.moved hW.alike hKc, hDc.weaken (fun _ _ _ _ => trivial), va_Z.moved hW.alike (by rw [hU]; exact (hE_10.kept hS.2.1).narrow hFc), va_OF.moved hW.alike (by rw [hU]; exact (hE_29.kept hS.2.1).narrow hFc)⟩⟩ rfl rfl hl.1 rfl (lv_room (Nat.le_of_ble_eq_true rfl)) dJ0_length_8abf5_6 ⟨Nat.le_of_ble_eq_true rfl, Nat.le_of_ble_eq_true rfl⟩) hS (fun q _ h => hFc q h) hFc (fun r_1 u t H1 locs ht hvm hw hB hz1 hk1 hS => ?_)
  obtain ⟨hP1, hK1, hD1⟩ := hB
  rw [ht] at hP1
  have hP := bv_still hP hk1
  generalize H1 = H at hP hS ⊢
  as_aux_lemma =>
  rcases hw with ⟨h_2, h_3⟩
  have h_3 : r_1 = _ := h_3
  replace hEX := hEX.trans (exc1_eq h_3)
  rw [h_2]
  refine lv_ishr hx hb dJ0_length_8abf5_9 ?_
  refine lv_topi (fun x_4 ex_4 => ?_)
  obtain rfl : x_4 = 4 := ex_4.trans (by decide +kernel)
  have hK9 := hK.sub (tys' := []) [] rfl
  exact W.iret (v := 4) hx hb hr (fun t ht hW => ⟨⟨4, (), rfl, ⟨rfl, (hR.trans hEX).symm⟩, by rw [ht]; exact hP, va_K.moved hW.alike hK9, hD⟩, hS.F ht⟩) hS.2.2 dJ0_length_8abf5_10
noncomputable def wd_c_X0_setUsual_2 (a0 : Nat) (a1 : Nat) (a2 : Int32) (a3 : Int32) (a4 : Int32) (a5 : Nat) (a6 : ClassId) (a7 : Nat → Int32) : va_W := [(a0, .inr (0, [.ref a1, .int a2, .int a3, .int a4])), (a5, .inl (a6, 80, .inl a7))]
noncomputable def wf_c_X0_setUsual_2 : List Cond := List.cons (.code yX0_setUsual cX0_setUsual 5 none) (@HAppend.hAppend (List Cond) (List Cond) (List Cond) _ [.methodLink RX0 92 yX0_lettersOf, .static yX0_lettersOf, .initialized RX0, .code yX0_lettersOf cX0_lettersOf 1 (some (.object "java/lang/String")), .methodLink RX0 96 yJ0_length_8abf5, .instanceMethod yJ0_length_8abf5, .selects RJ0 yJ0_length_8abf5 yJ0_length_8abf5, .initialized RJ0, .code yJ0_length_8abf5 cJ0_length_8abf5 1 (some .int), .fieldLink RJ0 9 "java/lang/String" "value" "[B", .methodLink RJ0 335 yJ0_coder_7d493, .instanceMethod yJ0_coder_7d493, .selects RJ0 yJ0_coder_7d493 yJ0_coder_7d493, .code yJ0_coder_7d493 cJ0_coder_7d493 1 (some .byte), .fieldLink RJ0 38 "java/lang/String" "COMPACT_STRINGS" "Z", .fieldLink RJ0 15 "java/lang/String" "coder" "B", .fieldLink RX0 11 "BuoyVote$Borough" "values" "[I", .fieldLink RX0 113 "BuoyVote$Borough" "USUAL" "[I", .fieldLink RX0 103 "BuoyVote$Borough" "FIRST" "[I"] wsX00)
theorem iw_c_X0_setUsual_2_X0 : ∀ w ∈ wsX00, w ∈ wf_c_X0_setUsual_2 := fun w h => List.mem_cons_of_mem _ (List.mem_append_right _ h)
set_option maxRecDepth 20000 in
theorem gf_c_X0_setUsual_2_c_X0_lettersOf_2 : GoodIn wf_c_X0_setUsual_2 (va_wsS RX0 92 yX0_lettersOf wf_c_X0_lettersOf_2) := goodIn_app (gi_l [1, 2, 3] rfl rfl) (gi_cons (j := 4) rfl rfl gi_nil)
set_option maxRecDepth 20000 in
theorem gf_c_X0_setUsual_2_c_J0_length_8abf5_3 : GoodIn wf_c_X0_setUsual_2 (wsV RX0 96 RJ0 yJ0_length_8abf5 wf_c_J0_length_8abf5_3) := goodIn_app (gi_l [5, 6, 7, 8] rfl rfl) (gi_cons (j := 9) rfl rfl (gi_l [10, 11, 12, 13, 8, 14, 15, 16] rfl rfl))
set_option maxHeartbeats 4000000 in
set_option maxRecDepth 100000 in
theorem c_X0_setUsual_2 (l : Launch) (dC : Nat → ClassId) (dI : Nat → Nat → Nat) (sz : Nat) (h0 : Nat) (p2 : Int32) (h0_0 : Nat) (h0_f1 : Int32) (h0_f2 : Int32) (h0_f3 : Int32) (h0_0k : ClassId) (h0_0c : Nat → Int32) (ts3 : Nat) (tv3 : Nat) (ta3 : Nat) (ta0 : Nat) (g_p2 : RG p2 68 76) (g_h0_f1 : RG h0_f1 0 8) (g_h0_f2 : RG h0_f2 0 3) (g_h0_f3 : RG h0_f3 0 1) (a_h0_0c : AI h0_0c (-1) 99) : Met l yX0_setUsual wf_c_X0_setUsual_2 ({ frames := 2, cells := 0, slots := 0, locals := 40 }) (va_Pc [.ref h0, .int 2, .int p2] (fun U => U.heap.size = sz ∧ va_P (dC, dI) vwCl (wd_c_X0_setUsual_2 h0 h0_0 h0_f1 h0_f2 h0_f3 h0_0 h0_0k h0_0c) U.heap ∧ va_K (dC, dI) vwCl [(h0_0k, .int)] U ∧ va_D (fun _ => True) (wd_c_X0_setUsual_2 h0 h0_0 h0_f1 h0_f2 h0_f3 h0_0 h0_0k h0_0c) ∧ vk_R RX0 126 "xysv" ts3 U ∧ va_OF "java/lang/String" "value" "[B" (.ref tv3) ts3 (va_A (wd_c_X0_setUsual_2 h0 h0_0 h0_f1 h0_f2 h0_f3 h0_0 h0_0k h0_0c) sz) U U.heap ∧ va_T .byte tv3 4 (fun j => .int ([120, 121, 115, 118].getD j 0)) (va_A (wd_c_X0_setUsual_2 h0 h0_0 h0_f1 h0_f2 h0_f3 h0_0 h0_0k h0_0c) sz) U U.heap ∧ va_Z "java/lang/String" "COMPACT_STRINGS" "Z" (.int 1) (va_A (wd_c_X0_setUsual_2 h0 h0_0 h0_f1 h0_f2 h0_f3 h0_0 h0_0k h0_0c) sz) U U.heap ∧ va_OF "java/lang/String" "coder" "B" (.int 0) ts3 (va_A (wd_c_X0_setUsual_2 h0 h0_0 h0_f1 h0_f2 h0_f3 h0_0 h0_0k h0_0c) sz) U U.heap ∧ va_O "java/lang/String" ts3 (va_A (wd_c_X0_setUsual_2 h0 h0_0 h0_f1 h0_f2 h0_f3 h0_0 h0_0k h0_0c) sz) U U.heap ∧ va_Z "BuoyVote$Borough" "USUAL" "[I" (.ref ta3) (va_A (wd_c_X0_setUsual_2 h0 h0_0 h0_f1 h0_f2 h0_f3 h0_0 h0_0k h0_0c) sz) U U.heap ∧ va_Z "BuoyVote$Borough" "FIRST" "[I" (.ref ta0) (va_A (wd_c_X0_setUsual_2 h0 h0_0 h0_f1 h0_f2 h0_f3 h0_0 h0_0k h0_0c) sz) U U.heap ∧ va_T .int ta0 3 (fun j => .int ([0, 4, 12].getD j 0)) (va_A (wd_c_X0_setUsual_2 h0 h0_0 h0_f1 h0_f2 h0_f3 h0_0 h0_0k h0_0c) sz) U U.heap ∧ va_T .int ta3 16 (fun j => .int ([2, 0, 6, 8, 0, 0, 3, 0, 0, 0, 3, 2, 0, 0, 2, 3].getD j 0)) (va_A (wd_c_X0_setUsual_2 h0 h0_0 h0_f1 h0_f2 h0_f3 h0_0 h0_0k h0_0c) sz) U U.heap)) (va_Qv (fun (u : (Nat → Int32)) => (AI (u) (-1) 99 ∧ u = fx_c_X0_setUsual_2 p2 h0_0c)) (fun (u : (Nat → Int32)) t => va_P (dC, dI) vwCl (wd_c_X0_setUsual_2 h0 h0_0 h0_f1 h0_f2 h0_f3 h0_0 h0_0k (u)) t.heap ∧ va_K (dC, dI) vwCl [] t ∧ va_D (va_A (wd_c_X0_setUsual_2 h0 h0_0 h0_f1 h0_f2 h0_f3 h0_0 h0_0k h0_0c) sz) (wd_c_X0_setUsual_2 h0 h0_0 h0_f1 h0_f2 h0_f3 h0_0 h0_0k (u))) (va_A (wd_c_X0_setUsual_2 h0 h0_0 h0_f1 h0_f2 h0_f3 h0_0 h0_0k h0_0c) sz)) 0 0 (va_A (wd_c_X0_setUsual_2 h0 h0_0 h0_f1 h0_f2 h0_f3 h0_0 h0_0k h0_0c) sz) := by
  refine Met.ofW (cc := cX0_setUsual) (maxL := 5) (ret := none) (by decide +kernel) rfl ?_
  intro p e s m args below meth c s₁ B hml hv
  obtain ⟨rfl, hsz, hP, hK, hD0, hE_27, hE_30, hE_31, hE_10, hE_29, hE_28, hE_6, hE_0, hE_1, hE_7⟩ := hv
  have hx := B.exec
  have hb := B.bytes
  have hr := B.returns
  have hts := atoms_spec (ws := wf_c_X0_setUsual_2) B.pre
  have hown : s.vm.findClass RX0 = some m.cls := findClass_of_methodNamed B.named
  have hlocks := B.notSynchronized
  subst hsz
  have hD := hD0.self (sz := s.heap.size)
  generalize hAe : va_A (wd_c_X0_setUsual_2 h0 h0_0 h0_f1 h0_f2 h0_f3 h0_0 h0_0k h0_0c) s.heap.size = A at hD hE_30 hE_31 hE_10 hE_29 hE_28 hE_6 hE_0 hE_1 hE_7 ⊢
  have hA : ∀ q : Nat, s.heap.size ≤ q → A q := fun q h => by rw [← hAe]; exact Or.inr h
  have hP : va_P (dC, dI) vwCl (wd_c_X0_setUsual_2 h0 h0_0 h0_f1 h0_f2 h0_f3 h0_0 h0_0k h0_0c) s.heap := hP
  have hl := lv_entry ([.ref h0, .int 2, .int p2]) (n := 5) (Nat.le_of_ble_eq_true rfl)
  rw [lg_entry_eq]
  generalize (lg_sl ([.ref h0, .int 2, .int p2]) ++ List.replicate (5 - (lg_sl ([.ref h0, .int 2, .int p2])).length) Slot.unset).toArray = ls at hl ⊢
  have hl : lv_has ls 5 [(0, .ref h0), (1, .int 2), (2, .int p2)] := hl
  obtain ⟨H, hHe⟩ : ∃ H : Heap, s.heap = H := ⟨_, rfl⟩
  have hS : va_S A s.heap H [] := by rw [hHe]; exact va_S.rf
  have hP : va_P (dC, dI) vwCl (wd_c_X0_setUsual_2 h0 h0_0 h0_f1 h0_f2 h0_f3 h0_0 h0_0k h0_0c) H := by rw [← hHe]; exact hP
  rw [hHe]
  obtain ⟨RES, hR⟩ : ∃ z, fx_c_X0_setUsual_2 p2 h0_0c = z := ⟨_, rfl⟩
  have hEX : RES = fx_c_X0_setUsual_2 p2 h0_0c := hR.symm
  refine wj (fun G hG hU => ?_)
  as_aux_lemma =>
  have J11 : ∀ (n11 : Nat) (j11_l4 : Int32) (j11_h0_0c : Nat → Int32) (hM11 : MU j11_l4 < n11) (g_h0_f1 : RG h0_f1 0 8) (g_h0_f2 : RG h0_f2 0 3) (g_h0_f3 : RG h0_f3 0 1) (g_j11_l4 : RG j11_l4 0 4) (g_p2 : RG p2 68 76) (a_j11_h0_0c : AI j11_h0_0c (-1) 99) (hEX : RES = fx_c_X0_setUsual_2_p11 p2 n11 j11_l4 j11_h0_0c) (H : Heap) (locs : List Loc) (ls : Array Slot) (hP : va_P (dC, dI) vwCl (wd_c_X0_setUsual_2 h0 h0_0 h0_f1 h0_f2 h0_f3 h0_0 h0_0k j11_h0_0c) H) (hD : va_D A (wd_c_X0_setUsual_2 h0 h0_0 h0_f1 h0_f2 h0_f3 h0_0 h0_0k j11_h0_0c)) (hS : va_S A s.heap H locs) (hl : lv_has ls 5 [(4, .int j11_l4), (3, .int 4), (0, .ref h0), (1, .int 2), (2, .int p2)]), G H locs (F0 m 11 ls []) := by
    as_aux_lemma =>
    intro n11
    induction n11 with
    | zero => intros; exact absurd (by assumption) (Nat.not_lt_zero _)
    | succ n11 ih11 =>
      intro j11_l4 j11_h0_0c hM11 g_h0_f1 g_h0_f2 g_h0_f3 g_j11_l4 g_p2 a_j11_h0_0c hEX H locs ls hP hD hS hl
      refine hG _ _ _ ?_
      replace hEX := hEX.trans (if_pos (rfl : j11_l4 = j11_l4))
      refine lv_iload hx hb dX0_setUsual_11 (lv_at hl 0 rfl) ?_
      refine lv_iload_n hx hb dX0_setUsual_13 rfl (lv_at hl 1 rfl) ?_
      refine lv_icmp_ge (tgt := 44) hx hb dX0_setUsual_14 rfl (fun c_1 => ?_) (fun c_1 => ?_)
      · replace hEX := hEX.trans (if_pos c_1)
        have g_2 : RG j11_l4 4 4 := RG_le2 (RG_k 4 4 rfl) g_j11_l4 c_1 (by decide +kernel)
        have hK9 := hK.sub (tys' := []) [] rfl
        exact W.vret hx hb hr (fun t ht hW => ⟨⟨j11_h0_0c, rfl, ⟨a_j11_h0_0c, (hR.trans hEX).symm⟩, by rw [ht]; exact hP, va_K.moved hW.alike hK9, hD⟩, hS.F ht⟩) hS.2.2 dX0_setUsual_44
      · replace hEX := hEX.trans (if_neg c_1)
        have d_3 := Int32.not_le.mp c_1
        have g_4 : RG j11_l4 0 3 := RG_lt1 g_j11_l4 (RG_k 4 4 rfl) d_3 (by decide +kernel)
        refine lv_aload_n hx hb dX0_setUsual_17 rfl (lv_at hl 2 rfl) ?_
        as_aux_lemma =>
        refine va_get (D := (dC, dI)) (ci := 0) (v := .ref h0_0) (C := RX0) (T := TX0) (N := 4) hx hb hts iw_c_X0_setUsual_2_X0 hown hK hP 0 rfl rfl 0 (by decide +kernel) (hts (.fieldLink RX0 11 "BuoyVote$Borough" "values" "[I") (List.mem_of_getElem? (i := 17) rfl)) (fun _ h9 => h9) rfl dX0_setUsual_18 ?_
        refine lv_iload_n hx hb dX0_setUsual_21 rfl (lv_at hl 4 rfl) ?_
        refine lv_iload hx hb dX0_setUsual_22 (lv_at hl 0 rfl) ?_
        refine lv_iadd hx hb dX0_setUsual_24 ?_
        refine lv_topi (fun x_5 ex_5 => ?_)
        replace hEX := hEX.trans (exl_eq ex_5)
        have g_6 : RG x_5 68 79 := RG_add ex_5 g_p2 g_4 (by decide +kernel)
        refine va_gets hx hb hE_6 hS hown (hts (.fieldLink RX0 113 "BuoyVote$Borough" "USUAL" "[I") (List.mem_of_getElem? (i := 18) rfl)) (fun _ h9 => h9) dX0_setUsual_25 ?_
        refine va_gets hx hb hE_0 hS hown (hts (.fieldLink RX0 103 "BuoyVote$Borough" "FIRST" "[I") (List.mem_of_getElem? (i := 19) rfl)) (fun _ h9 => h9) dX0_setUsual_28 ?_
        refine lv_iload_n hx hb dX0_setUsual_31 rfl (lv_at hl 3 rfl) ?_
        refine va_ti (v := .int 12) hx hb hE_1 hS (by unfold vp_in; decide) rfl dX0_setUsual_32 ?_
        refine lv_iload hx hb dX0_setUsual_33 (lv_at hl 0 rfl) ?_
        refine lv_iadd hx hb dX0_setUsual_35 ?_
        refine lv_topi (fun x_7 ex_7 => ?_)
        as_aux_lemma =>
        replace hEX := hEX.trans (exl_eq ex_7)
        have g_8 : RG x_7 12 15 := RG_add ex_7 (RG_k 12 12 rfl) g_4 (by decide +kernel)
        refine va_ti hx hb hE_7 hS (RG_in g_8 (by decide +kernel)) rfl dX0_setUsual_36 ?_
        refine lv_topi (fun x_9 ex_9 => ?_)
        replace hEX := hEX.trans (exl_eq ex_9)
        have g_10 : RG x_9 0 8 := RG_tab ex_9 (by decide +kernel)
        refine va_iast hx hb hK hP hD hS 1 0 rfl rfl (RG_in g_6 (by decide +kernel)) dX0_setUsual_37 (fun H locs hP hD hS => ?_)
        have hP : va_P (dC, dI) vwCl (wd_c_X0_setUsual_2 h0 h0_0 h0_f1 h0_f2 h0_f3 h0_0 h0_0k (upd j11_h0_0c (x_5 : Int32).toNatClampNeg x_9)) H := hP
        have hD : va_D A (wd_c_X0_setUsual_2 h0 h0_0 h0_f1 h0_f2 h0_f3 h0_0 h0_0k (upd j11_h0_0c (x_5 : Int32).toNatClampNeg x_9)) := hD
        have l_12 : (upd j11_h0_0c (x_5 : Int32).toNatClampNeg x_9) (x_5 : Int32).toNatClampNeg = x_9 := pk_us
        have a_13 : AI (upd j11_h0_0c (x_5 : Int32).toNatClampNeg x_9) (-1) 99 := AI_up a_j11_h0_0c g_10 (by decide +kernel)
        generalize huw_11 : (upd j11_h0_0c (x_5 : Int32).toNatClampNeg x_9) = w_11 at hP hD a_13 l_12
        replace hEX := hEX.trans (exl_eq huw_11.symm)
        have hP : va_P (dC, dI) vwCl (wd_c_X0_setUsual_2 h0 h0_0 h0_f1 h0_f2 h0_f3 h0_0 h0_0k w_11) H := hP
        have hD : va_D A (wd_c_X0_setUsual_2 h0 h0_0 h0_f1 h0_f2 h0_f3 h0_0 h0_0k w_11) := hD
        obtain ⟨x_14, ex_14⟩ : ∃ y : Int32, y = j11_l4 + 1 := ⟨_, rfl⟩
        have g_15 : RG x_14 1 4 := RG_add ex_14 g_4 (RG_k 1 1 rfl) (by decide +kernel)
        replace hEX := hEX.trans (exl_eq ex_14)
        refine lv_iinc (v := x_14) (lv' := [(4, .int x_14), (3, .int 4), (0, .ref h0), (1, .int 2), (2, .int p2)]) hx hb dX0_setUsual_38 hl (k := 0) rfl (by rw [ex_14]; rfl) (Nat.le_of_ble_eq_true rfl) rfl (fun ls hl => ?_)
        as_aux_lemma =>
        refine lv_goto (tgt := 11) hx hb dX0_setUsual_41 rfl ?_
        exact hU _ _ _ (ih11 x_14 w_11 (mu_s (MU_add ex_14 g_4 (q := 1) rfl (by decide +kernel)) hM11) g_h0_f1 g_h0_f2 g_h0_f3 (RG_w g_15 (by decide +kernel)) g_p2 a_13 hEX _ _ _ hP hD hS (lv_sub hl [0, 1, 2, 3, 4] rfl))
  refine hG _ _ _ ?_
  refine lv_iload_n hx hb dX0_setUsual_0 rfl (lv_at hl 1 rfl) ?_
  obtain ⟨hPc, hDc, hFc, hqc⟩ := cl_cut (wc := []) hP hD hS hA [] (by decide +kernel) rfl
  have hKc := hK.sub (tys' := []) [] rfl
  refine va_callr (va_runS (As := [.int 2]) (rest := []) ⟨hx, hb, hml, hown, hts⟩ (c_X0_lettersOf_2 l dC dI H.size ts3) (va_cwS 1 hts gf_c_X0_setUsual_2_c_X0_lettersOf_2 rfl rfl rfl md_X0_lettersOf ⟨Nat.le_of_ble_eq_true rfl, Nat.le_of_ble_eq_true rfl⟩) ⟨fun a U g mk q => by obtain ⟨q0, q1, qP, qK, qD, qE0⟩ := q; exact ⟨q0, q1, qP, va_K.moved (u := U) (U := U.calling g mk a) (Vm.Alike.refl U.vm) qK, qD, vk_R.same rfl qE0⟩, fun U hU hW => ⟨rfl, by rw [hU], by rw [hU]; exact hPc, va_K.moved hW.alike hKc, hDc.weaken (fun _ _ _ _ => trivial), vk_R.warm hW hE_27⟩⟩ rfl rfl hl.1 rfl (lv_room (Nat.le_of_ble_eq_true rfl)) dX0_setUsual_1 ⟨Nat.le_of_ble_eq_true rfl, Nat.le_of_ble_eq_true rfl⟩) hS (fun q _ h => hFc q h) hFc (fun x_17 r_16 t H1 locs ht hvm hw hB hz1 hk1 hS => ?_)
  obtain ⟨hra, hP1, hK1, hD1⟩ := hB
  rw [ht] at hP1
  have hP := bv_still hP hk1
  generalize H1 = H at hP hS ⊢
  as_aux_lemma =>
  have h_18 := hw
  rw [hra, show x_17 = ts3 from h_18]
  obtain ⟨hPc, hDc, hFc, hqc⟩ := cl_cut (wc := []) hP hD hS hA [] (by decide +kernel) rfl
  have hKc := hK.sub (tys' := []) [] rfl
  have hrv := bv_Orecv hE_28 hS
  refine va_calli (va_runV (As := []) (rest := []) ⟨hx, hb, hml, hown, hts⟩ (c_J0_length_8abf5_3 l dC dI H.size ts3 tv3) (cwV 0 hts gf_c_X0_setUsual_2_c_J0_length_8abf5_3 rfl rfl rfl mdV_J0_length_8abf5 ⟨Nat.le_of_ble_eq_true rfl, Nat.le_of_ble_eq_true rfl⟩) ⟨fun a U g mk q => by obtain ⟨q0, q1, qP, qK, qD, qE0, qE1, qE2, qE3, qE4⟩ := q; exact ⟨q0, q1, qP, va_K.moved (u := U) (U := U.calling g mk a) (Vm.Alike.refl U.vm) qK, qD, va_OF.moved (u := U) (U := U.calling g mk a) (Vm.Alike.refl U.vm) qE0, va_T.moved (u := U) (U := U.calling g mk a) (Vm.Alike.refl U.vm) qE1, va_Z.moved (u := U) (U := U.calling g mk a) (Vm.Alike.refl U.vm) qE2, va_OF.moved (u := U) (U := U.calling g mk a) (Vm.Alike.refl U.vm) qE3, va_O.moved (u := U) (U := U.calling g mk a) (Vm.Alike.refl U.vm) qE4⟩, hrv, fun U hU hW => ⟨rfl, by rw [hU], by rw [hU]; exact hPc, va_K.moved hW.alike hKc, hDc.weaken (fun _ _ _ _ => trivial), va_OF.moved hW.alike (by rw [hU]; exact (hE_30.kept hS.2.1).narrow hFc), va_T.moved hW.alike (by rw [hU]; exact (hE_31.kept hS.2.1).narrow hFc), va_Z.moved hW.alike (by rw [hU]; exact (hE_10.kept hS.2.1).narrow hFc), va_OF.moved hW.alike (by rw [hU]; exact (hE_29.kept hS.2.1).narrow hFc), va_O.moved hW.alike (by rw [hU]; exact (hE_28.kept hS.2.1).narrow hFc)⟩⟩ rfl rfl hl.1 rfl (lv_room (Nat.le_of_ble_eq_true rfl)) dX0_setUsual_4 ⟨Nat.le_of_ble_eq_true rfl, Nat.le_of_ble_eq_true rfl⟩) hS (fun q _ h => hFc q h) hFc (fun r_19 u t H1 locs ht hvm hw hB hz1 hk1 hS => ?_)
  obtain ⟨hP1, hK1, hD1⟩ := hB
  rw [ht] at hP1
  have hP := bv_still hP hk1
  generalize H1 = H at hP hS ⊢
  as_aux_lemma =>
  rcases hw with ⟨h_20, h_21⟩
  have h_21 : r_19 = _ := h_21
  replace hEX := hEX.trans (exc1_eq h_21)
  rw [h_20]
  refine lv_istore_n (lv' := [(3, .int 4), (0, .ref h0), (1, .int 2), (2, .int p2)]) hx hb dX0_setUsual_7 rfl hl (Nat.le_of_ble_eq_true rfl) rfl (fun ls hl => ?_)
  refine lv_iconst (v := 0) hx hb dX0_setUsual_8 kc_iconst_0 ?_
  refine lv_istore (lv' := [(4, .int 0), (3, .int 4), (0, .ref h0), (1, .int 2), (2, .int p2)]) hx hb dX0_setUsual_9 hl (Nat.le_of_ble_eq_true rfl) rfl (fun ls hl => ?_)
  exact hU _ _ _ (J11 exF 0 h0_0c MU_F g_h0_f1 g_h0_f2 g_h0_f3 (RG_w (RG_k 0 0 rfl) (by decide +kernel)) g_p2 a_h0_0c hEX _ _ _ hP hD hS (lv_sub hl [0, 1, 2, 3, 4] rfl))
noncomputable def wd_c_X0_beginClause_2 (a0 : Nat) (a1 : Nat) (a2 : Int32) (a3 : Int32) (a4 : Int32) (a5 : Nat) (a6 : ClassId) (a7 : Nat → Int32) : va_W := [(a0, .inr (0, [.ref a1, .int a2, .int a3, .int a4])), (a5, .inl (a6, 80, .inl a7))]
noncomputable def wf_c_X0_beginClause_2 : List Cond := List.cons (.code yX0_beginClause cX0_beginClause 3 (some .int)) (@HAppend.hAppend (List Cond) (List Cond) (List Cond) _ [.fieldLink RX0 25 "BuoyVote$Borough" "boats" "I", .methodLink RX0 32 yX0_setUsual, .instanceMethod yX0_setUsual, .selects RX0 yX0_setUsual yX0_setUsual, .initialized RX0, .code yX0_setUsual cX0_setUsual 5 none, .methodLink RX0 92 yX0_lettersOf, .static yX0_lettersOf, .code yX0_lettersOf cX0_lettersOf 1 (some (.object "java/lang/String")), .methodLink RX0 96 yJ0_length_8abf5, .instanceMethod yJ0_length_8abf5, .selects RJ0 yJ0_length_8abf5 yJ0_length_8abf5, .initialized RJ0, .code yJ0_length_8abf5 cJ0_length_8abf5 1 (some .int), .fieldLink RJ0 9 "java/lang/String" "value" "[B", .methodLink RJ0 335 yJ0_coder_7d493, .instanceMethod yJ0_coder_7d493, .selects RJ0 yJ0_coder_7d493 yJ0_coder_7d493, .code yJ0_coder_7d493 cJ0_coder_7d493 1 (some .byte), .fieldLink RJ0 38 "java/lang/String" "COMPACT_STRINGS" "Z", .fieldLink RJ0 15 "java/lang/String" "coder" "B", .fieldLink RX0 11 "BuoyVote$Borough" "values" "[I", .fieldLink RX0 113 "BuoyVote$Borough" "USUAL" "[I", .fieldLink RX0 103 "BuoyVote$Borough" "FIRST" "[I"] wsX00)
theorem iw_c_X0_beginClause_2_X0 : ∀ w ∈ wsX00, w ∈ wf_c_X0_beginClause_2 := fun w h => List.mem_cons_of_mem _ (List.mem_append_right _ h)
set_option maxRecDepth 20000 in
theorem gf_c_X0_beginClause_2_c_X0_setUsual_2 : GoodIn wf_c_X0_beginClause_2 (wsV RX0 32 RX0 yX0_setUsual wf_c_X0_setUsual_2) := goodIn_app (gi_l [2, 3, 4, 5] rfl rfl) (gi_cons (j := 6) rfl rfl (goodIn_app (gi_l [7, 8, 5, 9, 10, 11, 12, 13, 14, 15, 16, 17, 18, 19, 20, 21, 22, 23, 24] rfl rfl) (goodIn_sub iw_c_X0_beginClause_2_X0 gw_X0)))
set_option maxHeartbeats 4000000 in
set_option maxRecDepth 100000 in
theorem c_X0_beginClause_2 (l : Launch) (dC : Nat → ClassId) (dI : Nat → Nat → Nat) (sz : Nat) (h0 : Nat) (h0_0 : Nat) (h0_f1 : Int32) (h0_f2 : Int32) (h0_f3 : Int32) (h0_0k : ClassId) (h0_0c : Nat → Int32) (ts3 : Nat) (tv3 : Nat) (ta3 : Nat) (ta0 : Nat) (g_h0_f1 : RG h0_f1 0 8) (g_h0_f2 : RG h0_f2 0 2) (g_h0_f3 : RG h0_f3 0 1) (a_h0_0c : AI h0_0c (-1) 99) : Met l yX0_beginClause wf_c_X0_beginClause_2 ({ frames := 3, cells := 0, slots := 0, locals := 64 }) (va_Pc [.ref h0, .int 2] (fun U => U.heap.size = sz ∧ va_P (dC, dI) vwCl (wd_c_X0_beginClause_2 h0 h0_0 h0_f1 h0_f2 h0_f3 h0_0 h0_0k h0_0c) U.heap ∧ va_K (dC, dI) vwCl [(h0_0k, .int)] U ∧ va_D (fun _ => True) (wd_c_X0_beginClause_2 h0 h0_0 h0_f1 h0_f2 h0_f3 h0_0 h0_0k h0_0c) ∧ vk_R RX0 126 "xysv" ts3 U ∧ va_OF "java/lang/String" "value" "[B" (.ref tv3) ts3 (va_A (wd_c_X0_beginClause_2 h0 h0_0 h0_f1 h0_f2 h0_f3 h0_0 h0_0k h0_0c) sz) U U.heap ∧ va_T .byte tv3 4 (fun j => .int ([120, 121, 115, 118].getD j 0)) (va_A (wd_c_X0_beginClause_2 h0 h0_0 h0_f1 h0_f2 h0_f3 h0_0 h0_0k h0_0c) sz) U U.heap ∧ va_Z "java/lang/String" "COMPACT_STRINGS" "Z" (.int 1) (va_A (wd_c_X0_beginClause_2 h0 h0_0 h0_f1 h0_f2 h0_f3 h0_0 h0_0k h0_0c) sz) U U.heap ∧ va_OF "java/lang/String" "coder" "B" (.int 0) ts3 (va_A (wd_c_X0_beginClause_2 h0 h0_0 h0_f1 h0_f2 h0_f3 h0_0 h0_0k h0_0c) sz) U U.heap ∧ va_O "java/lang/String" ts3 (va_A (wd_c_X0_beginClause_2 h0 h0_0 h0_f1 h0_f2 h0_f3 h0_0 h0_0k h0_0c) sz) U U.heap ∧ va_Z "BuoyVote$Borough" "USUAL" "[I" (.ref ta3) (va_A (wd_c_X0_beginClause_2 h0 h0_0 h0_f1 h0_f2 h0_f3 h0_0 h0_0k h0_0c) sz) U U.heap ∧ va_Z "BuoyVote$Borough" "FIRST" "[I" (.ref ta0) (va_A (wd_c_X0_beginClause_2 h0 h0_0 h0_f1 h0_f2 h0_f3 h0_0 h0_0k h0_0c) sz) U U.heap ∧ va_T .int ta0 3 (fun j => .int ([0, 4, 12].getD j 0)) (va_A (wd_c_X0_beginClause_2 h0 h0_0 h0_f1 h0_f2 h0_f3 h0_0 h0_0k h0_0c) sz) U U.heap ∧ va_T .int ta3 16 (fun j => .int ([2, 0, 6, 8, 0, 0, 3, 0, 0, 0, 3, 2, 0, 0, 2, 3].getD j 0)) (va_A (wd_c_X0_beginClause_2 h0 h0_0 h0_f1 h0_f2 h0_f3 h0_0 h0_0k h0_0c) sz) U U.heap)) (va_Qi (fun (r : Int32) (u : (Int32) × (Nat → Int32)) => (RG r 68 76 ∧ RG u.1 1 3 ∧ AI (u.2) (-1) 99 ∧ (r, u.1, u.2) = fx_c_X0_beginClause_2 h0_f2 h0_0c)) (fun (u : (Int32) × (Nat → Int32)) t => va_P (dC, dI) vwCl (wd_c_X0_beginClause_2 h0 h0_0 h0_f1 (u.1) h0_f3 h0_0 h0_0k (u.2)) t.heap ∧ va_K (dC, dI) vwCl [] t ∧ va_D (va_A (wd_c_X0_beginClause_2 h0 h0_0 h0_f1 h0_f2 h0_f3 h0_0 h0_0k h0_0c) sz) (wd_c_X0_beginClause_2 h0 h0_0 h0_f1 (u.1) h0_f3 h0_0 h0_0k (u.2))) (va_A (wd_c_X0_beginClause_2 h0 h0_0 h0_f1 h0_f2 h0_f3 h0_0 h0_0k h0_0c) sz)) 0 0 (va_A (wd_c_X0_beginClause_2 h0 h0_0 h0_f1 h0_f2 h0_f3 h0_0 h0_0k h0_0c) sz) := by
  refine Met.ofW (cc := cX0_beginClause) (maxL := 3) (ret := (some .int)) (by decide +kernel) rfl ?_
  intro p e s m args below meth c s₁ B hml hv
  obtain ⟨rfl, hsz, hP, hK, hD0, hE_27, hE_30, hE_31, hE_10, hE_29, hE_28, hE_6, hE_0, hE_1, hE_7⟩ := hv
  have hx := B.exec
  have hb := B.bytes
  have hr := B.returns
  have hts := atoms_spec (ws := wf_c_X0_beginClause_2) B.pre
  have hown : s.vm.findClass RX0 = some m.cls := findClass_of_methodNamed B.named
  have hlocks := B.notSynchronized
  subst hsz
  have hD := hD0.self (sz := s.heap.size)
  generalize hAe : va_A (wd_c_X0_beginClause_2 h0 h0_0 h0_f1 h0_f2 h0_f3 h0_0 h0_0k h0_0c) s.heap.size = A at hD hE_30 hE_31 hE_10 hE_29 hE_28 hE_6 hE_0 hE_1 hE_7 ⊢
  have hA : ∀ q : Nat, s.heap.size ≤ q → A q := fun q h => by rw [← hAe]; exact Or.inr h
  have hP : va_P (dC, dI) vwCl (wd_c_X0_beginClause_2 h0 h0_0 h0_f1 h0_f2 h0_f3 h0_0 h0_0k h0_0c) s.heap := hP
  have hl := lv_entry ([.ref h0, .int 2]) (n := 3) (Nat.le_of_ble_eq_true rfl)
  rw [lg_entry_eq]
  generalize (lg_sl ([.ref h0, .int 2]) ++ List.replicate (3 - (lg_sl ([.ref h0, .int 2])).length) Slot.unset).toArray = ls at hl ⊢
  have hl : lv_has ls 3 [(0, .ref h0), (1, .int 2)] := hl
  obtain ⟨H, hHe⟩ : ∃ H : Heap, s.heap = H := ⟨_, rfl⟩
  have hS : va_S A s.heap H [] := by rw [hHe]; exact va_S.rf
  have hP : va_P (dC, dI) vwCl (wd_c_X0_beginClause_2 h0 h0_0 h0_f1 h0_f2 h0_f3 h0_0 h0_0k h0_0c) H := by rw [← hHe]; exact hP
  rw [hHe]
  obtain ⟨RES, hR⟩ : ∃ z, fx_c_X0_beginClause_2 h0_f2 h0_0c = z := ⟨_, rfl⟩
  have hEX : RES = fx_c_X0_beginClause_2 h0_f2 h0_0c := hR.symm
  refine wj (fun G hG hU => ?_)
  as_aux_lemma =>
  have J62 : ∀ (j62_l2 : Int32) (j62_h0_f2 : Int32) (g_h0_f1 : RG h0_f1 0 8) (g_h0_f2 : RG h0_f2 0 2) (g_h0_f3 : RG h0_f3 0 1) (g_j62_h0_f2 : RG j62_h0_f2 1 3) (g_j62_l2 : RG j62_l2 68 76) (hEX : RES = fx_c_X0_beginClause_2_p62 h0_0c j62_l2 j62_h0_f2) (H : Heap) (locs : List Loc) (ls : Array Slot) (hP : va_P (dC, dI) vwCl (wd_c_X0_beginClause_2 h0 h0_0 h0_f1 j62_h0_f2 h0_f3 h0_0 h0_0k h0_0c) H) (hD : va_D A (wd_c_X0_beginClause_2 h0 h0_0 h0_f1 j62_h0_f2 h0_f3 h0_0 h0_0k h0_0c)) (hS : va_S A s.heap H locs) (hl : lv_has ls 3 [(2, .int j62_l2), (0, .ref h0), (1, .int 2)]), G H locs (F0 m 62 ls []) := by
    as_aux_lemma =>
    intro j62_l2 j62_h0_f2 g_h0_f1 g_h0_f2 g_h0_f3 g_j62_h0_f2 g_j62_l2 hEX H locs ls hP hD hS hl
    refine hG _ _ _ ?_
    refine lv_aload_n hx hb dX0_beginClause_62 rfl (lv_at hl 1 rfl) ?_
    refine lv_iload_n hx hb dX0_beginClause_63 rfl (lv_at hl 2 rfl) ?_
    refine lv_iload_n hx hb dX0_beginClause_64 rfl (lv_at hl 0 rfl) ?_
    obtain ⟨hPc, hDc, hFc, hqc⟩ := cl_cut (wc := (wd_c_X0_setUsual_2 h0 h0_0 h0_f1 j62_h0_f2 h0_f3 h0_0 h0_0k h0_0c)) hP hD hS hA [0, 1] (by decide +kernel) rfl
    have hKc := hK.sub (tys' := [(h0_0k, .int)]) [0] rfl
    have hrv := va_recv hKc hPc (ci := 0) (q0 := 0) rfl rfl
    refine va_callv (va_runV (As := [.int 2, .int j62_l2]) (rest := []) ⟨hx, hb, hml, hown, hts⟩ (c_X0_setUsual_2 l dC dI H.size h0 j62_l2 h0_0 h0_f1 j62_h0_f2 h0_f3 h0_0k h0_0c ts3 tv3 ta3 ta0 g_j62_l2 g_h0_f1 (RG_w g_j62_h0_f2 (by decide +kernel)) g_h0_f3 a_h0_0c) (cwV 2 hts gf_c_X0_beginClause_2_c_X0_setUsual_2 rfl rfl rfl mdV_X0_setUsual ⟨Nat.le_of_ble_eq_true rfl, Nat.le_of_ble_eq_true rfl⟩) ⟨fun a U g mk q => by obtain ⟨q0, q1, qP, qK, qD, qE0, qE1, qE2, qE3, qE4, qE5, qE6, qE7, qE8, qE9⟩ := q; exact ⟨q0, q1, qP, va_K.moved (u := U) (U := U.calling g mk a) (Vm.Alike.refl U.vm) qK, qD, vk_R.same rfl qE0, va_OF.moved (u := U) (U := U.calling g mk a) (Vm.Alike.refl U.vm) qE1, va_T.moved (u := U) (U := U.calling g mk a) (Vm.Alike.refl U.vm) qE2, va_Z.moved (u := U) (U := U.calling g mk a) (Vm.Alike.refl U.vm) qE3, va_OF.moved (u := U) (U := U.calling g mk a) (Vm.Alike.refl U.vm) qE4, va_O.moved (u := U) (U := U.calling g mk a) (Vm.Alike.refl U.vm) qE5, va_Z.moved (u := U) (U := U.calling g mk a) (Vm.Alike.refl U.vm) qE6, va_Z.moved (u := U) (U := U.calling g mk a) (Vm.Alike.refl U.vm) qE7, va_T.moved (u := U) (U := U.calling g mk a) (Vm.Alike.refl U.vm) qE8, va_T.moved (u := U) (U := U.calling g mk a) (Vm.Alike.refl U.vm) qE9⟩, hrv, fun U hU hW => ⟨rfl, by rw [hU], by rw [hU]; exact hPc, va_K.moved hW.alike hKc, hDc.weaken (fun _ _ _ _ => trivial), vk_R.warm hW hE_27, va_OF.moved hW.alike (by rw [hU]; exact (hE_30.kept hS.2.1).narrow hFc), va_T.moved hW.alike (by rw [hU]; exact (hE_31.kept hS.2.1).narrow hFc), va_Z.moved hW.alike (by rw [hU]; exact (hE_10.kept hS.2.1).narrow hFc), va_OF.moved hW.alike (by rw [hU]; exact (hE_29.kept hS.2.1).narrow hFc), va_O.moved hW.alike (by rw [hU]; exact (hE_28.kept hS.2.1).narrow hFc), va_Z.moved hW.alike (by rw [hU]; exact (hE_6.kept hS.2.1).narrow hFc), va_Z.moved hW.alike (by rw [hU]; exact (hE_0.kept hS.2.1).narrow hFc), va_T.moved hW.alike (by rw [hU]; exact (hE_1.kept hS.2.1).narrow hFc), va_T.moved hW.alike (by rw [hU]; exact (hE_7.kept hS.2.1).narrow hFc)⟩⟩ rfl rfl hl.1 rfl (lv_room (Nat.le_of_ble_eq_true rfl)) dX0_beginClause_65 ⟨Nat.le_of_ble_eq_true rfl, Nat.le_of_ble_eq_true rfl⟩) hS (fun q _ h => hFc q h) hFc (fun w_2 t H1 locs ht hvm hw hB hz1 hk1 hS => ?_)
    obtain ⟨hP1, hK1, hD1⟩ := hB
    rw [ht] at hP1
    obtain ⟨hP, hD⟩ := cl_put (w1 := (wd_c_X0_setUsual_2 h0 h0_0 h0_f1 j62_h0_f2 h0_f3 h0_0 h0_0k w_2)) (nw := (wd_c_X0_beginClause_2 h0 h0_0 h0_f1 j62_h0_f2 h0_f3 h0_0 h0_0k w_2)) hP hD [0, 1] [2, 3] 2 rfl hqc (by decide +kernel) rfl hk1 hFc hP1 hD1
    generalize H1 = H at hP hS ⊢
    as_aux_lemma =>
    rcases hw with ⟨h_3, h_4⟩
    have h_4 : w_2 = _ := h_4
    replace hEX := hEX.trans (exc1_eq h_4)
    refine lv_iload_n hx hb dX0_beginClause_68 rfl (lv_at hl 0 rfl) ?_
    have hK9 := hK.sub (tys' := []) [] rfl
    exact W.iret (v := j62_l2) hx hb hr (fun t ht hW => ⟨⟨j62_l2, (j62_h0_f2, w_2), rfl, ⟨g_j62_l2, g_j62_h0_f2, h_3, (hR.trans hEX).symm⟩, by rw [ht]; exact hP, va_K.moved hW.alike hK9, hD⟩, hS.F ht⟩) hS.2.2 dX0_beginClause_69
  refine hG _ _ _ ?_
  refine lv_iconst (v := 0) hx hb dX0_beginClause_0 kc_iconst_0 ?_
  refine lv_istore_n (lv' := [(2, .int 0), (0, .ref h0), (1, .int 2)]) hx hb dX0_beginClause_1 rfl hl (Nat.le_of_ble_eq_true rfl) rfl (fun ls hl => ?_)
  refine lv_iload_n hx hb dX0_beginClause_2 rfl (lv_at hl 2 rfl) ?_
  refine lv_if_ne (tgt := 14) hx hb dX0_beginClause_3 rfl (fun c_5 => ?_) (fun c_5 => absurd c_5 (by decide +kernel))
  refine lv_iload_n hx hb dX0_beginClause_14 rfl (lv_at hl 2 rfl) ?_
  refine lv_iconst (v := 1) hx hb dX0_beginClause_15 kc_iconst_1 ?_
  refine lv_icmp_ne (tgt := 42) hx hb dX0_beginClause_16 rfl (fun c_6 => ?_) (fun c_6 => absurd c_6 (by decide +kernel))
  refine lv_bipush (v := 68) hx hb dX0_beginClause_42 kc_bipush_68 ?_
  as_aux_lemma =>
  refine lv_aload_n hx hb dX0_beginClause_44 rfl (lv_at hl 1 rfl) ?_
  refine va_get (D := (dC, dI)) (ci := 0) (v := .int h0_f2) (C := RX0) (T := TX0) (N := 4) hx hb hts iw_c_X0_beginClause_2_X0 hown hK hP 0 rfl rfl 2 (by decide +kernel) (hts (.fieldLink RX0 25 "BuoyVote$Borough" "boats" "I") (List.mem_of_getElem? (i := 1) rfl)) (fun _ h9 => h9) rfl dX0_beginClause_45 ?_
  refine lv_iconst (v := 4) hx hb dX0_beginClause_48 kc_iconst_4 ?_
  refine lv_imul hx hb dX0_beginClause_49 ?_
  refine lv_topi (fun x_7 ex_7 => ?_)
  replace hEX := hEX.trans (exl_eq ex_7)
  have g_8 : RG x_7 0 8 := RG_mulc ex_7 (q := 4) rfl g_h0_f2 (by decide +kernel)
  refine lv_iadd hx hb dX0_beginClause_50 ?_
  refine lv_topi (fun x_9 ex_9 => ?_)
  replace hEX := hEX.trans (exl_eq ex_9)
  have g_10 : RG x_9 68 76 := RG_add ex_9 (RG_k 68 68 rfl) g_8 (by decide +kernel)
  refine lv_istore_n (lv' := [(2, .int x_9), (0, .ref h0), (1, .int 2)]) hx hb dX0_beginClause_51 rfl hl (Nat.le_of_ble_eq_true rfl) rfl (fun ls hl => ?_)
  refine lv_aload_n hx hb dX0_beginClause_52 rfl (lv_at hl 1 rfl) ?_
  refine lv_dup hx hb dX0_beginClause_53 rfl ?_
  as_aux_lemma =>
  refine va_get (D := (dC, dI)) (ci := 0) (v := .int h0_f2) (C := RX0) (T := TX0) (N := 4) hx hb hts iw_c_X0_beginClause_2_X0 hown hK hP 0 rfl rfl 2 (by decide +kernel) (hts (.fieldLink RX0 25 "BuoyVote$Borough" "boats" "I") (List.mem_of_getElem? (i := 1) rfl)) (fun _ h9 => h9) rfl dX0_beginClause_54 ?_
  refine lv_iconst (v := 1) hx hb dX0_beginClause_57 kc_iconst_1 ?_
  refine lv_iadd hx hb dX0_beginClause_58 ?_
  refine lv_topi (fun x_11 ex_11 => ?_)
  replace hEX := hEX.trans (exl_eq ex_11)
  have g_12 : RG x_11 1 3 := RG_add ex_11 g_h0_f2 (RG_k 1 1 rfl) (by decide +kernel)
  refine va_put (D := (dC, dI)) (ci := 0) (v := .int x_11) (ty := .int) (C := RX0) (T := TX0) (N := 4) hx hb hts iw_c_X0_beginClause_2_X0 tyX0 tyX0_ok nmX0 hown hK hP hD hS 0 rfl rfl 2 (by decide +kernel) (hts (.fieldLink RX0 25 "BuoyVote$Borough" "boats" "I") (List.mem_of_getElem? (i := 1) rfl)) (fun _ h9 => h9) rfl (by decide +kernel) rfl rfl (Nat.le_of_ble_eq_true rfl) dX0_beginClause_59 (fun H locs hP hD hS => ?_)
  have hP : va_P (dC, dI) vwCl (wd_c_X0_beginClause_2 h0 h0_0 h0_f1 x_11 h0_f3 h0_0 h0_0k h0_0c) H := hP
  have hD : va_D A (wd_c_X0_beginClause_2 h0 h0_0 h0_f1 x_11 h0_f3 h0_0 h0_0k h0_0c) := hD
  exact hU _ _ _ (J62 x_9 x_11 g_h0_f1 g_h0_f2 g_h0_f3 g_12 g_10 hEX _ _ _ hP hD hS (lv_sub hl [0, 1, 2] rfl))
noncomputable def wd_c_X9_refuse (a0 : Nat) (a1 : Nat) (a2 : Int32) (a3 : Int32) (a4 : Int32) : va_W := [(a0, .inr (9, [.ref a1, .int a2, .int a3, .int a4]))]
noncomputable def wf_c_X9_refuse : List Cond := List.cons (.code yX9_refuse cX9_refuse 2 none) (@HAppend.hAppend (List Cond) (List Cond) (List Cond) _ [.fieldLink RX9 15 "BuoyVote$Tape" "wrong" "I"] wsX90)
theorem iw_c_X9_refuse_X9 : ∀ w ∈ wsX90, w ∈ wf_c_X9_refuse := fun w h => List.mem_cons_of_mem _ (List.mem_append_right _ h)
set_option maxHeartbeats 4000000 in
set_option maxRecDepth 100000 in
theorem c_X9_refuse (l : Launch) (dC : Nat → ClassId) (dI : Nat → Nat → Nat) (sz : Nat) (h0 : Nat) (p1 : Int32) (h0_0 : Nat) (h0_f1 : Int32) (h0_f2 : Int32) (h0_f3 : Int32) (g_p1 : RG p1 0 240) (g_h0_f1 : RG h0_f1 0 240) (g_h0_f2 : RG h0_f2 0 240) (g_h0_f3 : RG h0_f3 (-1) 240) : Met l yX9_refuse wf_c_X9_refuse ({ frames := 0, cells := 0, slots := 0, locals := 0 }) (va_Pc [.ref h0, .int p1] (fun U => U.heap.size = sz ∧ va_P (dC, dI) vwCl (wd_c_X9_refuse h0 h0_0 h0_f1 h0_f2 h0_f3) U.heap ∧ va_K (dC, dI) vwCl [] U ∧ va_D (fun _ => True) (wd_c_X9_refuse h0 h0_0 h0_f1 h0_f2 h0_f3))) (va_Qv (fun (u : (Int32)) => (RG u 0 240 ∧ u = fx_c_X9_refuse p1 h0_f3)) (fun (u : (Int32)) t => va_P (dC, dI) vwCl (wd_c_X9_refuse h0 h0_0 h0_f1 h0_f2 u) t.heap ∧ va_K (dC, dI) vwCl [] t ∧ va_D (va_A (wd_c_X9_refuse h0 h0_0 h0_f1 h0_f2 h0_f3) sz) (wd_c_X9_refuse h0 h0_0 h0_f1 h0_f2 u)) (va_A (wd_c_X9_refuse h0 h0_0 h0_f1 h0_f2 h0_f3) sz)) 0 0 (va_A (wd_c_X9_refuse h0 h0_0 h0_f1 h0_f2 h0_f3) sz) := by
  refine Met.ofW (cc := cX9_refuse) (maxL := 2) (ret := none) (by decide +kernel) rfl ?_
  intro p e s m args below meth c s₁ B hml hv
  obtain ⟨rfl, hsz, hP, hK, hD0⟩ := hv
  have hx := B.exec
  have hb := B.bytes
  have hr := B.returns
  have hts := atoms_spec (ws := wf_c_X9_refuse) B.pre
  have hown : s.vm.findClass RX9 = some m.cls := findClass_of_methodNamed B.named
  have hlocks := B.notSynchronized
  subst hsz
  have hD := hD0.self (sz := s.heap.size)
  generalize hAe : va_A (wd_c_X9_refuse h0 h0_0 h0_f1 h0_f2 h0_f3) s.heap.size = A at hD ⊢
  have hA : ∀ q : Nat, s.heap.size ≤ q → A q := fun q h => by rw [← hAe]; exact Or.inr h
  have hP : va_P (dC, dI) vwCl (wd_c_X9_refuse h0 h0_0 h0_f1 h0_f2 h0_f3) s.heap := hP
  have hl := lv_entry ([.ref h0, .int p1]) (n := 2) (Nat.le_of_ble_eq_true rfl)
  rw [lg_entry_eq]
  generalize (lg_sl ([.ref h0, .int p1]) ++ List.replicate (2 - (lg_sl ([.ref h0, .int p1])).length) Slot.unset).toArray = ls at hl ⊢
  have hl : lv_has ls 2 [(0, .ref h0), (1, .int p1)] := hl
  obtain ⟨H, hHe⟩ : ∃ H : Heap, s.heap = H := ⟨_, rfl⟩
  have hS : va_S A s.heap H [] := by rw [hHe]; exact va_S.rf
  have hP : va_P (dC, dI) vwCl (wd_c_X9_refuse h0 h0_0 h0_f1 h0_f2 h0_f3) H := by rw [← hHe]; exact hP
  rw [hHe]
  obtain ⟨RES, hR⟩ : ∃ z, fx_c_X9_refuse p1 h0_f3 = z := ⟨_, rfl⟩
  have hEX : RES = fx_c_X9_refuse p1 h0_f3 := hR.symm
  refine lv_aload_n hx hb dX9_refuse_0 rfl (lv_at hl 0 rfl) ?_
  as_aux_lemma =>
  refine va_get (D := (dC, dI)) (ci := 9) (v := .int h0_f3) (C := RX9) (T := TX9) (N := 4) hx hb hts iw_c_X9_refuse_X9 hown hK hP 0 rfl rfl 3 (by decide +kernel) (hts (.fieldLink RX9 15 "BuoyVote$Tape" "wrong" "I") (List.mem_of_getElem? (i := 1) rfl)) (fun _ h9 => h9) rfl dX9_refuse_1 ?_
  refine lv_iconst (v := (-1)) hx hb dX9_refuse_4 kc_iconst_m1 ?_
  refine lv_icmp_ne (tgt := 13) hx hb dX9_refuse_5 rfl (fun c_1 => ?_) (fun c_1 => ?_)
  · replace hEX := hEX.trans (if_neg c_1)
    have g_2 : RG h0_f3 0 240 := RG_ne1 g_h0_f3 (q := (-1)) rfl c_1 (by decide +kernel)
    have hK9 := hK.sub (tys' := []) [] rfl
    exact W.vret hx hb hr (fun t ht hW => ⟨⟨h0_f3, rfl, ⟨g_2, (hR.trans hEX).symm⟩, by rw [ht]; exact hP, va_K.moved hW.alike hK9, hD⟩, hS.F ht⟩) hS.2.2 dX9_refuse_13
  · replace hEX := hEX.trans (if_pos c_1)
    have g_3 : RG h0_f3 (-1) (-1) := RG_eq1 g_h0_f3 (RG_k (-1) (-1) rfl) c_1 (by decide +kernel)
    refine lv_aload_n hx hb dX9_refuse_8 rfl (lv_at hl 0 rfl) ?_
    refine lv_iload_n hx hb dX9_refuse_9 rfl (lv_at hl 1 rfl) ?_
    refine va_put (D := (dC, dI)) (ci := 9) (v := .int p1) (ty := .int) (C := RX9) (T := TX9) (N := 4) hx hb hts iw_c_X9_refuse_X9 tyX9 tyX9_ok nmX9 hown hK hP hD hS 0 rfl rfl 3 (by decide +kernel) (hts (.fieldLink RX9 15 "BuoyVote$Tape" "wrong" "I") (List.mem_of_getElem? (i := 1) rfl)) (fun _ h9 => h9) rfl (by decide +kernel) rfl rfl (Nat.le_of_ble_eq_true rfl) dX9_refuse_10 (fun H locs hP hD hS => ?_)
    have hP : va_P (dC, dI) vwCl (wd_c_X9_refuse h0 h0_0 h0_f1 h0_f2 p1) H := hP
    have hD : va_D A (wd_c_X9_refuse h0 h0_0 h0_f1 h0_f2 p1) := hD
    have hK9 := hK.sub (tys' := []) [] rfl
    exact W.vret hx hb hr (fun t ht hW => ⟨⟨p1, rfl, ⟨g_p1, (hR.trans hEX).symm⟩, by rw [ht]; exact hP, va_K.moved hW.alike hK9, hD⟩, hS.F ht⟩) hS.2.2 dX9_refuse_13
noncomputable def wd_c_X9_refuseHere (a0 : Nat) (a1 : Nat) (a2 : Int32) (a3 : Int32) (a4 : Int32) : va_W := [(a0, .inr (9, [.ref a1, .int a2, .int a3, .int a4]))]
noncomputable def wf_c_X9_refuseHere : List Cond := List.cons (.code yX9_refuseHere cX9_refuseHere 1 none) (@HAppend.hAppend (List Cond) (List Cond) (List Cond) _ [.fieldLink RX9 22 "BuoyVote$Tape" "at" "I", .methodLink RX9 25 yX9_refuse, .instanceMethod yX9_refuse, .selects RX9 yX9_refuse yX9_refuse, .initialized RX9, .code yX9_refuse cX9_refuse 2 none, .fieldLink RX9 15 "BuoyVote$Tape" "wrong" "I"] wsX90)
theorem iw_c_X9_refuseHere_X9 : ∀ w ∈ wsX90, w ∈ wf_c_X9_refuseHere := fun w h => List.mem_cons_of_mem _ (List.mem_append_right _ h)
set_option maxRecDepth 20000 in
theorem gf_c_X9_refuseHere_c_X9_refuse : GoodIn wf_c_X9_refuseHere (wsV RX9 25 RX9 yX9_refuse wf_c_X9_refuse) := goodIn_app (gi_l [2, 3, 4, 5] rfl rfl) (gi_cons (j := 6) rfl rfl (goodIn_app (gi_l [7] rfl rfl) (goodIn_sub iw_c_X9_refuseHere_X9 gw_X9)))
set_option maxHeartbeats 4000000 in
set_option maxRecDepth 100000 in
theorem c_X9_refuseHere (l : Launch) (dC : Nat → ClassId) (dI : Nat → Nat → Nat) (sz : Nat) (h0 : Nat) (h0_0 : Nat) (h0_f1 : Int32) (h0_f2 : Int32) (h0_f3 : Int32) (g_h0_f1 : RG h0_f1 0 240) (g_h0_f2 : RG h0_f2 0 240) (g_h0_f3 : RG h0_f3 (-1) 240) : Met l yX9_refuseHere wf_c_X9_refuseHere ({ frames := 1, cells := 0, slots := 0, locals := 21 }) (va_Pc [.ref h0] (fun U => U.heap.size = sz ∧ va_P (dC, dI) vwCl (wd_c_X9_refuseHere h0 h0_0 h0_f1 h0_f2 h0_f3) U.heap ∧ va_K (dC, dI) vwCl [] U ∧ va_D (fun _ => True) (wd_c_X9_refuseHere h0 h0_0 h0_f1 h0_f2 h0_f3))) (va_Qv (fun (u : (Int32)) => (RG u 0 240 ∧ u = fx_c_X9_refuseHere h0_f2 h0_f3)) (fun (u : (Int32)) t => va_P (dC, dI) vwCl (wd_c_X9_refuseHere h0 h0_0 h0_f1 h0_f2 u) t.heap ∧ va_K (dC, dI) vwCl [] t ∧ va_D (va_A (wd_c_X9_refuseHere h0 h0_0 h0_f1 h0_f2 h0_f3) sz) (wd_c_X9_refuseHere h0 h0_0 h0_f1 h0_f2 u)) (va_A (wd_c_X9_refuseHere h0 h0_0 h0_f1 h0_f2 h0_f3) sz)) 0 0 (va_A (wd_c_X9_refuseHere h0 h0_0 h0_f1 h0_f2 h0_f3) sz) := by
  refine Met.ofW (cc := cX9_refuseHere) (maxL := 1) (ret := none) (by decide +kernel) rfl ?_
  intro p e s m args below meth c s₁ B hml hv
  obtain ⟨rfl, hsz, hP, hK, hD0⟩ := hv
  have hx := B.exec
  have hb := B.bytes
  have hr := B.returns
  have hts := atoms_spec (ws := wf_c_X9_refuseHere) B.pre
  have hown : s.vm.findClass RX9 = some m.cls := findClass_of_methodNamed B.named
  have hlocks := B.notSynchronized
  subst hsz
  have hD := hD0.self (sz := s.heap.size)
  generalize hAe : va_A (wd_c_X9_refuseHere h0 h0_0 h0_f1 h0_f2 h0_f3) s.heap.size = A at hD ⊢
  have hA : ∀ q : Nat, s.heap.size ≤ q → A q := fun q h => by rw [← hAe]; exact Or.inr h
  have hP : va_P (dC, dI) vwCl (wd_c_X9_refuseHere h0 h0_0 h0_f1 h0_f2 h0_f3) s.heap := hP
  have hl := lv_entry ([.ref h0]) (n := 1) (Nat.le_of_ble_eq_true rfl)
  rw [lg_entry_eq]
  generalize (lg_sl ([.ref h0]) ++ List.replicate (1 - (lg_sl ([.ref h0])).length) Slot.unset).toArray = ls at hl ⊢
  have hl : lv_has ls 1 [(0, .ref h0)] := hl
  obtain ⟨H, hHe⟩ : ∃ H : Heap, s.heap = H := ⟨_, rfl⟩
  have hS : va_S A s.heap H [] := by rw [hHe]; exact va_S.rf
  have hP : va_P (dC, dI) vwCl (wd_c_X9_refuseHere h0 h0_0 h0_f1 h0_f2 h0_f3) H := by rw [← hHe]; exact hP
  rw [hHe]
  obtain ⟨RES, hR⟩ : ∃ z, fx_c_X9_refuseHere h0_f2 h0_f3 = z := ⟨_, rfl⟩
  have hEX : RES = fx_c_X9_refuseHere h0_f2 h0_f3 := hR.symm
  refine lv_aload_n hx hb dX9_refuseHere_0 rfl (lv_at hl 0 rfl) ?_
  as_aux_lemma =>
  refine lv_aload_n hx hb dX9_refuseHere_1 rfl (lv_at hl 0 rfl) ?_
  refine va_get (D := (dC, dI)) (ci := 9) (v := .int h0_f2) (C := RX9) (T := TX9) (N := 4) hx hb hts iw_c_X9_refuseHere_X9 hown hK hP 0 rfl rfl 2 (by decide +kernel) (hts (.fieldLink RX9 22 "BuoyVote$Tape" "at" "I") (List.mem_of_getElem? (i := 1) rfl)) (fun _ h9 => h9) rfl dX9_refuseHere_2 ?_
  obtain ⟨hPc, hDc, hFc, hqc⟩ := cl_cut (wc := (wd_c_X9_refuse h0 h0_0 h0_f1 h0_f2 h0_f3)) hP hD hS hA [0] (by decide +kernel) rfl
  have hKc := hK.sub (tys' := []) [] rfl
  have hrv := va_recv hKc hPc (ci := 9) (q0 := 0) rfl rfl
  refine va_callv (va_runV (As := [.int h0_f2]) (rest := []) ⟨hx, hb, hml, hown, hts⟩ (c_X9_refuse l dC dI H.size h0 h0_f2 h0_0 h0_f1 h0_f2 h0_f3 g_h0_f2 g_h0_f1 g_h0_f2 g_h0_f3) (cwV 1 hts gf_c_X9_refuseHere_c_X9_refuse rfl rfl rfl mdV_X9_refuse ⟨Nat.le_of_ble_eq_true rfl, Nat.le_of_ble_eq_true rfl⟩) ⟨fun a U g mk q => by obtain ⟨q0, q1, qP, qK, qD⟩ := q; exact ⟨q0, q1, qP, va_K.moved (u := U) (U := U.calling g mk a) (Vm.Alike.refl U.vm) qK, qD⟩, hrv, fun U hU hW => ⟨rfl, by rw [hU], by rw [hU]; exact hPc, va_K.moved hW.alike hKc, hDc.weaken (fun _ _ _ _ => trivial)⟩⟩ rfl rfl hl.1 rfl (lv_room (Nat.le_of_ble_eq_true rfl)) dX9_refuseHere_5 ⟨Nat.le_of_ble_eq_true rfl, Nat.le_of_ble_eq_true rfl⟩) hS (fun q _ h => hFc q h) hFc (fun x_2 t H1 locs ht hvm hw hB hz1 hk1 hS => ?_)
  obtain ⟨hP1, hK1, hD1⟩ := hB
  rw [ht] at hP1
  obtain ⟨hP, hD⟩ := cl_put (w1 := (wd_c_X9_refuse h0 h0_0 h0_f1 h0_f2 x_2)) (nw := (wd_c_X9_refuseHere h0 h0_0 h0_f1 h0_f2 x_2)) hP hD [0] [1] 1 rfl hqc (by decide +kernel) rfl hk1 hFc hP1 hD1
  generalize H1 = H at hP hS ⊢
  as_aux_lemma =>
  rcases hw with ⟨h_3, h_4⟩
  have h_4 : x_2 = _ := h_4
  replace hEX := hEX.trans (exc1_eq h_4)
  have hK9 := hK.sub (tys' := []) [] rfl
  exact W.vret hx hb hr (fun t ht hW => ⟨⟨x_2, rfl, ⟨h_3, (hR.trans hEX).symm⟩, by rw [ht]; exact hP, va_K.moved hW.alike hK9, hD⟩, hS.F ht⟩) hS.2.2 dX9_refuseHere_8
noncomputable def wd_c_X9_isRight (a0 : Nat) (a1 : Nat) (a2 : Int32) (a3 : Int32) (a4 : Int32) : va_W := [(a0, .inr (9, [.ref a1, .int a2, .int a3, .int a4]))]
noncomputable def wf_c_X9_isRight : List Cond := List.cons (.code yX9_isRight cX9_isRight 1 (some .boolean)) (@HAppend.hAppend (List Cond) (List Cond) (List Cond) _ [.fieldLink RX9 15 "BuoyVote$Tape" "wrong" "I"] wsX90)
theorem iw_c_X9_isRight_X9 : ∀ w ∈ wsX90, w ∈ wf_c_X9_isRight := fun w h => List.mem_cons_of_mem _ (List.mem_append_right _ h)
set_option maxHeartbeats 4000000 in
set_option maxRecDepth 100000 in
theorem c_X9_isRight (l : Launch) (dC : Nat → ClassId) (dI : Nat → Nat → Nat) (sz : Nat) (h0 : Nat) (h0_0 : Nat) (h0_f1 : Int32) (h0_f2 : Int32) (h0_f3 : Int32) (g_h0_f1 : RG h0_f1 0 240) (g_h0_f2 : RG h0_f2 0 240) (g_h0_f3 : RG h0_f3 (-1) 240) : Met l yX9_isRight wf_c_X9_isRight ({ frames := 0, cells := 0, slots := 0, locals := 0 }) (va_Pc [.ref h0] (fun U => U.heap.size = sz ∧ va_P (dC, dI) vwCl (wd_c_X9_isRight h0 h0_0 h0_f1 h0_f2 h0_f3) U.heap ∧ va_K (dC, dI) vwCl [] U ∧ va_D (fun _ => True) (wd_c_X9_isRight h0 h0_0 h0_f1 h0_f2 h0_f3))) (va_Qi (fun (r : Int32) (u : Unit) => (r = 0 ∧ RG h0_f3 0 240 ∧ r = fx_c_X9_isRight h0_f3) ∨ (r = 1 ∧ RG h0_f3 (-1) (-1) ∧ r = fx_c_X9_isRight h0_f3)) (fun (u : Unit) t => va_P (dC, dI) vwCl (wd_c_X9_isRight h0 h0_0 h0_f1 h0_f2 h0_f3) t.heap ∧ va_K (dC, dI) vwCl [] t ∧ va_D (va_A (wd_c_X9_isRight h0 h0_0 h0_f1 h0_f2 h0_f3) sz) (wd_c_X9_isRight h0 h0_0 h0_f1 h0_f2 h0_f3)) (va_A (wd_c_X9_isRight h0 h0_0 h0_f1 h0_f2 h0_f3) sz)) 0 0 (va_A (wd_c_X9_isRight h0 h0_0 h0_f1 h0_f2 h0_f3) sz) := by
  refine Met.ofW (cc := cX9_isRight) (maxL := 1) (ret := (some .boolean)) (by decide +kernel) rfl ?_
  intro p e s m args below meth c s₁ B hml hv
  obtain ⟨rfl, hsz, hP, hK, hD0⟩ := hv
  have hx := B.exec
  have hb := B.bytes
  have hr := B.returns
  have hts := atoms_spec (ws := wf_c_X9_isRight) B.pre
  have hown : s.vm.findClass RX9 = some m.cls := findClass_of_methodNamed B.named
  have hlocks := B.notSynchronized
  subst hsz
  have hD := hD0.self (sz := s.heap.size)
  generalize hAe : va_A (wd_c_X9_isRight h0 h0_0 h0_f1 h0_f2 h0_f3) s.heap.size = A at hD ⊢
  have hA : ∀ q : Nat, s.heap.size ≤ q → A q := fun q h => by rw [← hAe]; exact Or.inr h
  have hP : va_P (dC, dI) vwCl (wd_c_X9_isRight h0 h0_0 h0_f1 h0_f2 h0_f3) s.heap := hP
  have hl := lv_entry ([.ref h0]) (n := 1) (Nat.le_of_ble_eq_true rfl)
  rw [lg_entry_eq]
  generalize (lg_sl ([.ref h0]) ++ List.replicate (1 - (lg_sl ([.ref h0])).length) Slot.unset).toArray = ls at hl ⊢
  have hl : lv_has ls 1 [(0, .ref h0)] := hl
  obtain ⟨H, hHe⟩ : ∃ H : Heap, s.heap = H := ⟨_, rfl⟩
  have hS : va_S A s.heap H [] := by rw [hHe]; exact va_S.rf
  have hP : va_P (dC, dI) vwCl (wd_c_X9_isRight h0 h0_0 h0_f1 h0_f2 h0_f3) H := by rw [← hHe]; exact hP
  rw [hHe]
  obtain ⟨RES, hR⟩ : ∃ z, fx_c_X9_isRight h0_f3 = z := ⟨_, rfl⟩
  have hEX : RES = fx_c_X9_isRight h0_f3 := hR.symm
  refine lv_aload_n hx hb dX9_isRight_0 rfl (lv_at hl 0 rfl) ?_
  as_aux_lemma =>
  refine va_get (D := (dC, dI)) (ci := 9) (v := .int h0_f3) (C := RX9) (T := TX9) (N := 4) hx hb hts iw_c_X9_isRight_X9 hown hK hP 0 rfl rfl 3 (by decide +kernel) (hts (.fieldLink RX9 15 "BuoyVote$Tape" "wrong" "I") (List.mem_of_getElem? (i := 1) rfl)) (fun _ h9 => h9) rfl dX9_isRight_1 ?_
  refine lv_iconst (v := (-1)) hx hb dX9_isRight_4 kc_iconst_m1 ?_
  refine lv_icmp_ne (tgt := 12) hx hb dX9_isRight_5 rfl (fun c_1 => ?_) (fun c_1 => ?_)
  · replace hEX := hEX.trans (if_neg c_1)
    have g_2 : RG h0_f3 0 240 := RG_ne1 g_h0_f3 (q := (-1)) rfl c_1 (by decide +kernel)
    refine lv_iconst (v := 0) hx hb dX9_isRight_12 kc_iconst_0 ?_
    have hK9 := hK.sub (tys' := []) [] rfl
    exact W.zret (v := 0) hx hb hr rfl (fun t ht hW => ⟨⟨0, (), rfl, (Or.inl ⟨rfl, g_2, (hR.trans hEX).symm⟩), by rw [ht]; exact hP, va_K.moved hW.alike hK9, hD⟩, hS.F ht⟩) hS.2.2 dX9_isRight_13
  · replace hEX := hEX.trans (if_pos c_1)
    have g_3 : RG h0_f3 (-1) (-1) := RG_eq1 g_h0_f3 (RG_k (-1) (-1) rfl) c_1 (by decide +kernel)
    refine lv_iconst (v := 1) hx hb dX9_isRight_8 kc_iconst_1 ?_
    refine lv_goto (tgt := 13) hx hb dX9_isRight_9 rfl ?_
    have hK9 := hK.sub (tys' := []) [] rfl
    exact W.zret (v := 1) hx hb hr rfl (fun t ht hW => ⟨⟨1, (), rfl, (Or.inr ⟨rfl, g_3, (hR.trans hEX).symm⟩), by rw [ht]; exact hP, va_K.moved hW.alike hK9, hD⟩, hS.F ht⟩) hS.2.2 dX9_isRight_13
noncomputable def wf_c_X0_placeIn_2 : List Cond := .code yX0_placeIn cX0_placeIn 2 (some .int) :: ([])
set_option maxHeartbeats 4000000 in
set_option maxRecDepth 100000 in
theorem c_X0_placeIn_2 (l : Launch) (dC : Nat → ClassId) (dI : Nat → Nat → Nat) (sz : Nat) (ts1 : Nat) (p1 : Int32) (g_p1 : RG p1 (-1) (-1)) : Met l yX0_placeIn wf_c_X0_placeIn_2 ({ frames := 0, cells := 0, slots := 0, locals := 0 }) (va_Pc [.ref ts1, .int p1] (fun U => U.heap.size = sz ∧ va_P (dC, dI) vwCl [] U.heap ∧ va_K (dC, dI) vwCl [] U ∧ va_D (fun _ => True) [])) (va_Qi (fun (r : Int32) (u : Unit) => (r = (-1) ∧ r = fx_c_X0_placeIn_2 p1)) (fun (u : Unit) t => va_P (dC, dI) vwCl [] t.heap ∧ va_K (dC, dI) vwCl [] t ∧ va_D (va_A [] sz) []) (va_A [] sz)) 0 0 (va_A [] sz) := by
  refine Met.ofW (cc := cX0_placeIn) (maxL := 2) (ret := (some .int)) (by decide +kernel) rfl ?_
  intro p e s m args below meth c s₁ B hml hv
  obtain ⟨rfl, hsz, hP, hK, hD0⟩ := hv
  have hx := B.exec
  have hb := B.bytes
  have hr := B.returns
  have hts := atoms_spec (ws := wf_c_X0_placeIn_2) B.pre
  have hown : s.vm.findClass RX0 = some m.cls := findClass_of_methodNamed B.named
  have hlocks := B.notSynchronized
  subst hsz
  have hD := hD0.self (sz := s.heap.size)
  generalize hAe : va_A [] s.heap.size = A at hD ⊢
  have hA : ∀ q : Nat, s.heap.size ≤ q → A q := fun q h => by rw [← hAe]; exact Or.inr h
  have hP : va_P (dC, dI) vwCl [] s.heap := hP
  have hl := lv_entry ([.ref ts1, .int p1]) (n := 2) (Nat.le_of_ble_eq_true rfl)
  rw [lg_entry_eq]
  generalize (lg_sl ([.ref ts1, .int p1]) ++ List.replicate (2 - (lg_sl ([.ref ts1, .int p1])).length) Slot.unset).toArray = ls at hl ⊢
  have hl : lv_has ls 2 [(0, .ref ts1), (1, .int p1)] := hl
  obtain ⟨H, hHe⟩ : ∃ H : Heap, s.heap = H := ⟨_, rfl⟩
  have hS : va_S A s.heap H [] := by rw [hHe]; exact va_S.rf
  have hP : va_P (dC, dI) vwCl [] H := by rw [← hHe]; exact hP
  rw [hHe]
  obtain ⟨RES, hR⟩ : ∃ z, fx_c_X0_placeIn_2 p1 = z := ⟨_, rfl⟩
  have hEX : RES = fx_c_X0_placeIn_2 p1 := hR.symm
  refine lv_iload_n hx hb dX0_placeIn_0 rfl (lv_at hl 1 rfl) ?_
  as_aux_lemma =>
  refine lv_if_ge (tgt := 8) hx hb dX0_placeIn_1 rfl (fun c_1 => ?_) (fun c_1 => ?_)
  · replace hEX := hEX.trans (if_pos c_1)
    exact RG_dead (RG_le1 (RG_k 0 0 rfl) g_p1 c_1 (b' := (-1)) (by decide +kernel)) (by decide +kernel)
  · replace hEX := hEX.trans (if_neg c_1)
    have d_2 := Int32.not_le.mp c_1
    refine lv_iconst (v := (-1)) hx hb dX0_placeIn_4 kc_iconst_m1 ?_
    refine lv_goto (tgt := 14) hx hb dX0_placeIn_5 rfl ?_
    have hK9 := hK.sub (tys' := []) [] rfl
    exact W.iret (v := (-1)) hx hb hr (fun t ht hW => ⟨⟨(-1), (), rfl, ⟨rfl, (hR.trans hEX).symm⟩, by rw [ht]; exact hP, va_K.moved hW.alike hK9, hD⟩, hS.F ht⟩) hS.2.2 dX0_placeIn_14
noncomputable def wf_c_J0_isLatin1_aae02_1 : List Cond := .code yJ0_isLatin1_aae02 cJ0_isLatin1_aae02 1 (some .boolean) :: ([.fieldLink RJ0 38 "java/lang/String" "COMPACT_STRINGS" "Z", .fieldLink RJ0 15 "java/lang/String" "coder" "B"])
set_option maxHeartbeats 4000000 in
set_option maxRecDepth 100000 in
theorem c_J0_isLatin1_aae02_1 (l : Launch) (dC : Nat → ClassId) (dI : Nat → Nat → Nat) (sz : Nat) (ts1 : Nat) : Met l yJ0_isLatin1_aae02 wf_c_J0_isLatin1_aae02_1 ({ frames := 0, cells := 0, slots := 0, locals := 0 }) (va_Pc [.ref ts1] (fun U => U.heap.size = sz ∧ va_P (dC, dI) vwCl [] U.heap ∧ va_K (dC, dI) vwCl [] U ∧ va_D (fun _ => True) [] ∧ va_Z "java/lang/String" "COMPACT_STRINGS" "Z" (.int 1) (va_A [] sz) U U.heap ∧ va_OF "java/lang/String" "coder" "B" (.int 0) ts1 (va_A [] sz) U U.heap)) (va_Qi (fun (r : Int32) (u : Unit) => (r = 1 ∧ r = fx_c_J0_isLatin1_aae02_1)) (fun (u : Unit) t => va_P (dC, dI) vwCl [] t.heap ∧ va_K (dC, dI) vwCl [] t ∧ va_D (va_A [] sz) []) (va_A [] sz)) 0 0 (va_A [] sz) := by
  refine Met.ofW (cc := cJ0_isLatin1_aae02) (maxL := 1) (ret := (some .boolean)) (by decide +kernel) rfl ?_
  intro p e s m args below meth c s₁ B hml hv
  obtain ⟨rfl, hsz, hP, hK, hD0, hE_10, hE_19⟩ := hv
  have hx := B.exec
  have hb := B.bytes
  have hr := B.returns
  have hts := atoms_spec (ws := wf_c_J0_isLatin1_aae02_1) B.pre
  have hown : s.vm.findClass RJ0 = some m.cls := findClass_of_methodNamed B.named
  have hlocks := B.notSynchronized
  subst hsz
  have hD := hD0.self (sz := s.heap.size)
  generalize hAe : va_A [] s.heap.size = A at hD hE_10 hE_19 ⊢
  have hA : ∀ q : Nat, s.heap.size ≤ q → A q := fun q h => by rw [← hAe]; exact Or.inr h
  have hP : va_P (dC, dI) vwCl [] s.heap := hP
  have hl := lv_entry ([.ref ts1]) (n := 1) (Nat.le_of_ble_eq_true rfl)
  rw [lg_entry_eq]
  generalize (lg_sl ([.ref ts1]) ++ List.replicate (1 - (lg_sl ([.ref ts1])).length) Slot.unset).toArray = ls at hl ⊢
  have hl : lv_has ls 1 [(0, .ref ts1)] := hl
  obtain ⟨H, hHe⟩ : ∃ H : Heap, s.heap = H := ⟨_, rfl⟩
  have hS : va_S A s.heap H [] := by rw [hHe]; exact va_S.rf
  have hP : va_P (dC, dI) vwCl [] H := by rw [← hHe]; exact hP
  rw [hHe]
  obtain ⟨RES, hR⟩ : ∃ z, fx_c_J0_isLatin1_aae02_1 = z := ⟨_, rfl⟩
  have hEX : RES = fx_c_J0_isLatin1_aae02_1 := hR.symm
  refine va_gets hx hb hE_10 hS hown (hts (.fieldLink RJ0 38 "java/lang/String" "COMPACT_STRINGS" "Z") (List.mem_of_getElem? (i := 1) rfl)) (fun _ h9 => h9) dJ0_isLatin1_aae02_0 ?_
  as_aux_lemma =>
  refine lv_if_eq (tgt := 17) hx hb dJ0_isLatin1_aae02_3 rfl (fun c_1 => absurd c_1 (by decide +kernel)) (fun c_1 => ?_)
  refine lv_aload_n hx hb dJ0_isLatin1_aae02_6 rfl (lv_at hl 0 rfl) ?_
  refine vk_getf hx hb hE_19 hS hown (hts (.fieldLink RJ0 15 "java/lang/String" "coder" "B") (List.mem_of_getElem? (i := 2) rfl)) (fun _ h9 => h9) dJ0_isLatin1_aae02_7 ?_
  refine lv_if_ne (tgt := 17) hx hb dJ0_isLatin1_aae02_10 rfl (fun c_2 => absurd c_2 (by decide +kernel)) (fun c_2 => ?_)
  refine lv_iconst (v := 1) hx hb dJ0_isLatin1_aae02_13 kc_iconst_1 ?_
  refine lv_goto (tgt := 18) hx hb dJ0_isLatin1_aae02_14 rfl ?_
  have hK9 := hK.sub (tys' := []) [] rfl
  exact W.zret (v := 1) hx hb hr rfl (fun t ht hW => ⟨⟨1, (), rfl, ⟨rfl, (hR.trans hEX).symm⟩, by rw [ht]; exact hP, va_K.moved hW.alike hK9, hD⟩, hS.F ht⟩) hS.2.2 dJ0_isLatin1_aae02_18
noncomputable def wf_c_J1_indexOfChar_4cfef_1 : List Cond := .code yJ1_indexOfChar_4cfef cJ1_indexOfChar_4cfef 6 (some .int) :: ([])
set_option maxHeartbeats 4000000 in
set_option maxRecDepth 100000 in
theorem c_J1_indexOfChar_4cfef_1 (l : Launch) (dC : Nat → ClassId) (dI : Nat → Nat → Nat) (sz : Nat) (tv1 : Nat) (p1 : Int32) (p2 : Int32) (p3 : Int32) (g_p1 : RG p1 0 255) (g_p2 : RG p2 0 0) (g_p3 : RG p3 4 4) : Met l yJ1_indexOfChar_4cfef wf_c_J1_indexOfChar_4cfef_1 ({ frames := 0, cells := 0, slots := 0, locals := 0 }) (va_Pc [.ref tv1, .int p1, .int p2, .int p3] (fun U => U.heap.size = sz ∧ va_P (dC, dI) vwCl [] U.heap ∧ va_K (dC, dI) vwCl [] U ∧ va_D (fun _ => True) [] ∧ va_T .byte tv1 4 (fun j => .int ([119, 100, 116, 104].getD j 0)) (va_A [] sz) U U.heap)) (va_Qi (fun (r : Int32) (u : Unit) => (r = (-1) ∧ r = fx_c_J1_indexOfChar_4cfef_1 p1 p2 p3) ∨ (RG r 0 3 ∧ r = fx_c_J1_indexOfChar_4cfef_1 p1 p2 p3)) (fun (u : Unit) t => va_P (dC, dI) vwCl [] t.heap ∧ va_K (dC, dI) vwCl [] t ∧ va_D (va_A [] sz) []) (va_A [] sz)) 0 0 (va_A [] sz) := by
  refine Met.ofW (cc := cJ1_indexOfChar_4cfef) (maxL := 6) (ret := (some .int)) (by decide +kernel) rfl ?_
  intro p e s m args below meth c s₁ B hml hv
  obtain ⟨rfl, hsz, hP, hK, hD0, hE_21⟩ := hv
  have hx := B.exec
  have hb := B.bytes
  have hr := B.returns
  have hts := atoms_spec (ws := wf_c_J1_indexOfChar_4cfef_1) B.pre
  have hown : s.vm.findClass RJ1 = some m.cls := findClass_of_methodNamed B.named
  have hlocks := B.notSynchronized
  subst hsz
  have hD := hD0.self (sz := s.heap.size)
  generalize hAe : va_A [] s.heap.size = A at hD hE_21 ⊢
  have hA : ∀ q : Nat, s.heap.size ≤ q → A q := fun q h => by rw [← hAe]; exact Or.inr h
  have hP : va_P (dC, dI) vwCl [] s.heap := hP
  have hl := lv_entry ([.ref tv1, .int p1, .int p2, .int p3]) (n := 6) (Nat.le_of_ble_eq_true rfl)
  rw [lg_entry_eq]
  generalize (lg_sl ([.ref tv1, .int p1, .int p2, .int p3]) ++ List.replicate (6 - (lg_sl ([.ref tv1, .int p1, .int p2, .int p3])).length) Slot.unset).toArray = ls at hl ⊢
  have hl : lv_has ls 6 [(0, .ref tv1), (1, .int p1), (2, .int p2), (3, .int p3)] := hl
  obtain ⟨H, hHe⟩ : ∃ H : Heap, s.heap = H := ⟨_, rfl⟩
  have hS : va_S A s.heap H [] := by rw [hHe]; exact va_S.rf
  have hP : va_P (dC, dI) vwCl [] H := by rw [← hHe]; exact hP
  rw [hHe]
  obtain ⟨RES, hR⟩ : ∃ z, fx_c_J1_indexOfChar_4cfef_1 p1 p2 p3 = z := ⟨_, rfl⟩
  have hEX : RES = fx_c_J1_indexOfChar_4cfef_1 p1 p2 p3 := hR.symm
  refine lv_iload_n hx hb dJ1_indexOfChar_4cfef_0 rfl (lv_at hl 1 rfl) ?_
  as_aux_lemma =>
  refine lv_i2b hx hb dJ1_indexOfChar_4cfef_1 rfl ?_
  refine lv_topi (fun x_1 ex_1 => ?_)
  replace hEX := hEX.trans (exl_eq ex_1)
  refine lv_istore (lv' := [(4, .int x_1), (0, .ref tv1), (1, .int p1), (2, .int p2), (3, .int p3)]) hx hb dJ1_indexOfChar_4cfef_2 hl (Nat.le_of_ble_eq_true rfl) rfl (fun ls hl => ?_)
  refine lv_iload_n hx hb dJ1_indexOfChar_4cfef_4 rfl (lv_at hl 3 rfl) ?_
  refine lv_istore (lv' := [(5, .int p2), (4, .int x_1), (0, .ref tv1), (1, .int p1), (2, .int p2), (3, .int p3)]) hx hb dJ1_indexOfChar_4cfef_5 hl (Nat.le_of_ble_eq_true rfl) rfl (fun ls hl => ?_)
  refine lv_iload hx hb dJ1_indexOfChar_4cfef_7 (lv_at hl 0 rfl) ?_
  refine lv_iload_n hx hb dJ1_indexOfChar_4cfef_9 rfl (lv_at hl 5 rfl) ?_
  refine lv_icmp_ge (tgt := 31) hx hb dJ1_indexOfChar_4cfef_10 rfl (fun c_2 => ?_) (fun c_2 => ?_)
  · replace hEX := hEX.trans (if_pos c_2)
    have g_3 : RG p3 4 0 := RG_le1 g_p3 g_p2 c_2 (by decide +kernel)
    exact RG_dead (RG_le1 g_p3 g_p2 c_2 (b' := 0) (by decide +kernel)) (by decide +kernel)
  · replace hEX := hEX.trans (if_neg c_2)
    have d_4 := Int32.not_le.mp c_2
    refine lv_aload_n hx hb dJ1_indexOfChar_4cfef_13 rfl (lv_at hl 2 rfl) ?_
    as_aux_lemma =>
    refine lv_iload hx hb dJ1_indexOfChar_4cfef_14 (lv_at hl 0 rfl) ?_
    refine va_tb hx hb hE_21 hS (RG_in g_p2 (by decide +kernel)) rfl dJ1_indexOfChar_4cfef_16 ?_
    refine lv_topi (fun x_5 ex_5 => ?_)
    replace hEX := hEX.trans (exl_eq ex_5)
    have g_6 : RG x_5 0 119 := RG_tab ex_5 (by decide +kernel)
    refine lv_iload hx hb dJ1_indexOfChar_4cfef_17 (lv_at hl 1 rfl) ?_
    refine lv_icmp_ne (tgt := 25) hx hb dJ1_indexOfChar_4cfef_19 rfl (fun c_7 => ?_) (fun c_7 => ?_)
    · replace hEX := hEX.trans (if_neg c_7)
      obtain ⟨x_8, ex_8⟩ : ∃ y : Int32, y = p2 + 1 := ⟨_, rfl⟩
      have g_9 : RG x_8 1 1 := RG_add ex_8 g_p2 (RG_k 1 1 rfl) (by decide +kernel)
      replace hEX := hEX.trans (exl_eq ex_8)
      refine lv_iinc (v := x_8) (lv' := [(5, .int x_8), (4, .int x_1), (0, .ref tv1), (1, .int p1), (2, .int p2), (3, .int p3)]) hx hb dJ1_indexOfChar_4cfef_25 hl (k := 0) rfl (by rw [ex_8]; rfl) (Nat.le_of_ble_eq_true rfl) rfl (fun ls hl => ?_)
      refine lv_goto (tgt := 7) hx hb dJ1_indexOfChar_4cfef_28 rfl ?_
      refine lv_iload hx hb dJ1_indexOfChar_4cfef_7 (lv_at hl 0 rfl) ?_
      as_aux_lemma =>
      refine lv_iload_n hx hb dJ1_indexOfChar_4cfef_9 rfl (lv_at hl 5 rfl) ?_
      refine lv_icmp_ge (tgt := 31) hx hb dJ1_indexOfChar_4cfef_10 rfl (fun c_10 => ?_) (fun c_10 => ?_)
      · replace hEX := hEX.trans (if_pos c_10)
        have g_11 : RG p3 4 1 := RG_le1 g_p3 g_9 c_10 (by decide +kernel)
        exact RG_dead (RG_le1 g_p3 g_9 c_10 (b' := 1) (by decide +kernel)) (by decide +kernel)
      · replace hEX := hEX.trans (if_neg c_10)
        have d_12 := Int32.not_le.mp c_10
        refine lv_aload_n hx hb dJ1_indexOfChar_4cfef_13 rfl (lv_at hl 2 rfl) ?_
        refine lv_iload hx hb dJ1_indexOfChar_4cfef_14 (lv_at hl 0 rfl) ?_
        refine va_tb hx hb hE_21 hS (RG_in g_9 (by decide +kernel)) rfl dJ1_indexOfChar_4cfef_16 ?_
        refine lv_topi (fun x_13 ex_13 => ?_)
        replace hEX := hEX.trans (exl_eq ex_13)
        have g_14 : RG x_13 0 119 := RG_tab ex_13 (by decide +kernel)
        refine lv_iload hx hb dJ1_indexOfChar_4cfef_17 (lv_at hl 1 rfl) ?_
        as_aux_lemma =>
        refine lv_icmp_ne (tgt := 25) hx hb dJ1_indexOfChar_4cfef_19 rfl (fun c_15 => ?_) (fun c_15 => ?_)
        · replace hEX := hEX.trans (if_neg c_15)
          obtain ⟨x_16, ex_16⟩ : ∃ y : Int32, y = x_8 + 1 := ⟨_, rfl⟩
          have g_17 : RG x_16 2 2 := RG_add ex_16 g_9 (RG_k 1 1 rfl) (by decide +kernel)
          replace hEX := hEX.trans (exl_eq ex_16)
          refine lv_iinc (v := x_16) (lv' := [(5, .int x_16), (4, .int x_1), (0, .ref tv1), (1, .int p1), (2, .int p2), (3, .int p3)]) hx hb dJ1_indexOfChar_4cfef_25 hl (k := 0) rfl (by rw [ex_16]; rfl) (Nat.le_of_ble_eq_true rfl) rfl (fun ls hl => ?_)
          refine lv_goto (tgt := 7) hx hb dJ1_indexOfChar_4cfef_28 rfl ?_
          refine lv_iload hx hb dJ1_indexOfChar_4cfef_7 (lv_at hl 0 rfl) ?_
          refine lv_iload_n hx hb dJ1_indexOfChar_4cfef_9 rfl (lv_at hl 5 rfl) ?_
          refine lv_icmp_ge (tgt := 31) hx hb dJ1_indexOfChar_4cfef_10 rfl (fun c_18 => ?_) (fun c_18 => ?_)
          · replace hEX := hEX.trans (if_pos c_18)
            have g_19 : RG p3 4 2 := RG_le1 g_p3 g_17 c_18 (by decide +kernel)
            exact RG_dead (RG_le1 g_p3 g_17 c_18 (b' := 2) (by decide +kernel)) (by decide +kernel)
          · replace hEX := hEX.trans (if_neg c_18)
            have d_20 := Int32.not_le.mp c_18
            refine lv_aload_n hx hb dJ1_indexOfChar_4cfef_13 rfl (lv_at hl 2 rfl) ?_
            as_aux_lemma =>
            refine lv_iload hx hb dJ1_indexOfChar_4cfef_14 (lv_at hl 0 rfl) ?_
            refine va_tb hx hb hE_21 hS (RG_in g_17 (by decide +kernel)) rfl dJ1_indexOfChar_4cfef_16 ?_
            refine lv_topi (fun x_21 ex_21 => ?_)
            replace hEX := hEX.trans (exl_eq ex_21)
            have g_22 : RG x_21 0 119 := RG_tab ex_21 (by decide +kernel)
            refine lv_iload hx hb dJ1_indexOfChar_4cfef_17 (lv_at hl 1 rfl) ?_
            refine lv_icmp_ne (tgt := 25) hx hb dJ1_indexOfChar_4cfef_19 rfl (fun c_23 => ?_) (fun c_23 => ?_)
            · replace hEX := hEX.trans (if_neg c_23)
              obtain ⟨x_24, ex_24⟩ : ∃ y : Int32, y = x_16 + 1 := ⟨_, rfl⟩
              have g_25 : RG x_24 3 3 := RG_add ex_24 g_17 (RG_k 1 1 rfl) (by decide +kernel)
              replace hEX := hEX.trans (exl_eq ex_24)
              refine lv_iinc (v := x_24) (lv' := [(5, .int x_24), (4, .int x_1), (0, .ref tv1), (1, .int p1), (2, .int p2), (3, .int p3)]) hx hb dJ1_indexOfChar_4cfef_25 hl (k := 0) rfl (by rw [ex_24]; rfl) (Nat.le_of_ble_eq_true rfl) rfl (fun ls hl => ?_)
              refine lv_goto (tgt := 7) hx hb dJ1_indexOfChar_4cfef_28 rfl ?_
              refine lv_iload hx hb dJ1_indexOfChar_4cfef_7 (lv_at hl 0 rfl) ?_
              as_aux_lemma =>
              refine lv_iload_n hx hb dJ1_indexOfChar_4cfef_9 rfl (lv_at hl 5 rfl) ?_
              refine lv_icmp_ge (tgt := 31) hx hb dJ1_indexOfChar_4cfef_10 rfl (fun c_26 => ?_) (fun c_26 => ?_)
              · replace hEX := hEX.trans (if_pos c_26)
                have g_27 : RG p3 4 3 := RG_le1 g_p3 g_25 c_26 (by decide +kernel)
                exact RG_dead (RG_le1 g_p3 g_25 c_26 (b' := 3) (by decide +kernel)) (by decide +kernel)
              · replace hEX := hEX.trans (if_neg c_26)
                have d_28 := Int32.not_le.mp c_26
                refine lv_aload_n hx hb dJ1_indexOfChar_4cfef_13 rfl (lv_at hl 2 rfl) ?_
                refine lv_iload hx hb dJ1_indexOfChar_4cfef_14 (lv_at hl 0 rfl) ?_
                refine va_tb hx hb hE_21 hS (RG_in g_25 (by decide +kernel)) rfl dJ1_indexOfChar_4cfef_16 ?_
                refine lv_topi (fun x_29 ex_29 => ?_)
                replace hEX := hEX.trans (exl_eq ex_29)
                have g_30 : RG x_29 0 119 := RG_tab ex_29 (by decide +kernel)
                refine lv_iload hx hb dJ1_indexOfChar_4cfef_17 (lv_at hl 1 rfl) ?_
                as_aux_lemma =>
                refine lv_icmp_ne (tgt := 25) hx hb dJ1_indexOfChar_4cfef_19 rfl (fun c_31 => ?_) (fun c_31 => ?_)
                · replace hEX := hEX.trans (if_neg c_31)
                  obtain ⟨x_32, ex_32⟩ : ∃ y : Int32, y = x_24 + 1 := ⟨_, rfl⟩
                  have g_33 : RG x_32 4 4 := RG_add ex_32 g_25 (RG_k 1 1 rfl) (by decide +kernel)
                  replace hEX := hEX.trans (exl_eq ex_32)
                  refine lv_iinc (v := x_32) (lv' := [(5, .int x_32), (4, .int x_1), (0, .ref tv1), (1, .int p1), (2, .int p2), (3, .int p3)]) hx hb dJ1_indexOfChar_4cfef_25 hl (k := 0) rfl (by rw [ex_32]; rfl) (Nat.le_of_ble_eq_true rfl) rfl (fun ls hl => ?_)
                  refine lv_goto (tgt := 7) hx hb dJ1_indexOfChar_4cfef_28 rfl ?_
                  refine lv_iload hx hb dJ1_indexOfChar_4cfef_7 (lv_at hl 0 rfl) ?_
                  refine lv_iload_n hx hb dJ1_indexOfChar_4cfef_9 rfl (lv_at hl 5 rfl) ?_
                  refine lv_icmp_ge (tgt := 31) hx hb dJ1_indexOfChar_4cfef_10 rfl (fun c_34 => ?_) (fun c_34 => ?_)
                  · replace hEX := hEX.trans (if_pos c_34)
                    refine lv_iconst (v := (-1)) hx hb dJ1_indexOfChar_4cfef_31 kc_iconst_m1 ?_
                    have hK9 := hK.sub (tys' := []) [] rfl
                    exact W.iret (v := (-1)) hx hb hr (fun t ht hW => ⟨⟨(-1), (), rfl, (Or.inl ⟨rfl, (hR.trans hEX).symm⟩), by rw [ht]; exact hP, va_K.moved hW.alike hK9, hD⟩, hS.F ht⟩) hS.2.2 dJ1_indexOfChar_4cfef_32
                  · replace hEX := hEX.trans (if_neg c_34)
                    have d_35 := Int32.not_le.mp c_34
                    have g_36 : RG x_32 4 3 := RG_lt1 g_33 g_p3 d_35 (by decide +kernel)
                    exact RG_dead (RG_lt1 g_33 g_p3 d_35 (b' := 3) (by decide +kernel)) (by decide +kernel)
                · replace hEX := hEX.trans (if_pos c_31)
                  have g_37 : RG x_1 0 119 := RG_eq1 (RG_any x_1) g_30 c_31.symm (by decide +kernel)
                  refine lv_iload hx hb dJ1_indexOfChar_4cfef_22 (lv_at hl 0 rfl) ?_
                  as_aux_lemma =>
                  have hK9 := hK.sub (tys' := []) [] rfl
                  exact W.iret (v := x_24) hx hb hr (fun t ht hW => ⟨⟨x_24, (), rfl, (Or.inr ⟨(RG_w g_25 (by decide +kernel)), (hR.trans hEX).symm⟩), by rw [ht]; exact hP, va_K.moved hW.alike hK9, hD⟩, hS.F ht⟩) hS.2.2 dJ1_indexOfChar_4cfef_24
            · replace hEX := hEX.trans (if_pos c_23)
              have g_38 : RG x_1 0 119 := RG_eq1 (RG_any x_1) g_22 c_23.symm (by decide +kernel)
              refine lv_iload hx hb dJ1_indexOfChar_4cfef_22 (lv_at hl 0 rfl) ?_
              have hK9 := hK.sub (tys' := []) [] rfl
              exact W.iret (v := x_16) hx hb hr (fun t ht hW => ⟨⟨x_16, (), rfl, (Or.inr ⟨(RG_w g_17 (by decide +kernel)), (hR.trans hEX).symm⟩), by rw [ht]; exact hP, va_K.moved hW.alike hK9, hD⟩, hS.F ht⟩) hS.2.2 dJ1_indexOfChar_4cfef_24
        · replace hEX := hEX.trans (if_pos c_15)
          have g_39 : RG x_1 0 119 := RG_eq1 (RG_any x_1) g_14 c_15.symm (by decide +kernel)
          refine lv_iload hx hb dJ1_indexOfChar_4cfef_22 (lv_at hl 0 rfl) ?_
          have hK9 := hK.sub (tys' := []) [] rfl
          exact W.iret (v := x_8) hx hb hr (fun t ht hW => ⟨⟨x_8, (), rfl, (Or.inr ⟨(RG_w g_9 (by decide +kernel)), (hR.trans hEX).symm⟩), by rw [ht]; exact hP, va_K.moved hW.alike hK9, hD⟩, hS.F ht⟩) hS.2.2 dJ1_indexOfChar_4cfef_24
    · replace hEX := hEX.trans (if_pos c_7)
      have g_40 : RG x_1 0 119 := RG_eq1 (RG_any x_1) g_6 c_7.symm (by decide +kernel)
      refine lv_iload hx hb dJ1_indexOfChar_4cfef_22 (lv_at hl 0 rfl) ?_
      as_aux_lemma =>
      have hK9 := hK.sub (tys' := []) [] rfl
      exact W.iret (v := p2) hx hb hr (fun t ht hW => ⟨⟨p2, (), rfl, (Or.inr ⟨(RG_w g_p2 (by decide +kernel)), (hR.trans hEX).symm⟩), by rw [ht]; exact hP, va_K.moved hW.alike hK9, hD⟩, hS.F ht⟩) hS.2.2 dJ1_indexOfChar_4cfef_24
noncomputable def wf_c_J1_indexOf_4cfef_1 : List Cond := .code yJ1_indexOf_4cfef cJ1_indexOf_4cfef 4 (some .int) :: ([.methodLink RJ1 88 yJ1_canEncode_9a6ad, .static yJ1_canEncode_9a6ad, .initialized RJ1, .code yJ1_canEncode_9a6ad cJ1_canEncode_9a6ad 1 (some .boolean), .methodLink RJ1 92 Lib.Math.max.name, .static Lib.Math.max.name, .initialized "java/lang/Math", .code Lib.Math.max.name Lib.Math.max.code 2 (some .int), .methodLink RJ1 38 Lib.Math.min.name, .static Lib.Math.min.name, .code Lib.Math.min.name Lib.Math.min.code 2 (some .int), .methodLink RJ1 95 yJ1_indexOfChar_4cfef, .static yJ1_indexOfChar_4cfef, .code yJ1_indexOfChar_4cfef cJ1_indexOfChar_4cfef 6 (some .int)])
set_option maxRecDepth 20000 in
theorem gf_c_J1_indexOf_4cfef_1_c_J1_canEncode_9a6ad : GoodIn wf_c_J1_indexOf_4cfef_1 (va_wsS RJ1 88 yJ1_canEncode_9a6ad wf_c_J1_canEncode_9a6ad) := goodIn_app (gi_l [1, 2, 3] rfl rfl) (gi_cons (j := 4) rfl rfl gi_nil)
set_option maxRecDepth 20000 in
theorem gf_c_J1_indexOf_4cfef_1_c_J1_indexOfChar_4cfef_1 : GoodIn wf_c_J1_indexOf_4cfef_1 (va_wsS RJ1 95 yJ1_indexOfChar_4cfef wf_c_J1_indexOfChar_4cfef_1) := goodIn_app (gi_l [12, 13, 3] rfl rfl) (gi_cons (j := 14) rfl rfl gi_nil)
set_option maxHeartbeats 4000000 in
set_option maxRecDepth 100000 in
theorem c_J1_indexOf_4cfef_1 (l : Launch) (dC : Nat → ClassId) (dI : Nat → Nat → Nat) (sz : Nat) (tv1 : Nat) (p1 : Int32) (g_p1 : RG p1 0 65535) : Met l yJ1_indexOf_4cfef wf_c_J1_indexOf_4cfef_1 ({ frames := 1, cells := 0, slots := 0, locals := 25 }) (va_Pc [.ref tv1, .int p1, .int 0, .int 4] (fun U => U.heap.size = sz ∧ va_P (dC, dI) vwCl [] U.heap ∧ va_K (dC, dI) vwCl [] U ∧ va_D (fun _ => True) [] ∧ va_T .byte tv1 4 (fun j => .int ([119, 100, 116, 104].getD j 0)) (va_A [] sz) U U.heap)) (va_Qi (fun (r : Int32) (u : Unit) => (r = (-1) ∧ r = fx_c_J1_indexOf_4cfef_1 p1) ∨ (RG r 0 3 ∧ RG p1 0 255 ∧ r = fx_c_J1_indexOf_4cfef_1 p1)) (fun (u : Unit) t => va_P (dC, dI) vwCl [] t.heap ∧ va_K (dC, dI) vwCl [] t ∧ va_D (va_A [] sz) []) (va_A [] sz)) 0 0 (va_A [] sz) := by
  refine Met.ofW (cc := cJ1_indexOf_4cfef) (maxL := 4) (ret := (some .int)) (by decide +kernel) rfl ?_
  intro p e s m args below meth c s₁ B hml hv
  obtain ⟨rfl, hsz, hP, hK, hD0, hE_21⟩ := hv
  have hx := B.exec
  have hb := B.bytes
  have hr := B.returns
  have hts := atoms_spec (ws := wf_c_J1_indexOf_4cfef_1) B.pre
  have hown : s.vm.findClass RJ1 = some m.cls := findClass_of_methodNamed B.named
  have hlocks := B.notSynchronized
  subst hsz
  have hD := hD0.self (sz := s.heap.size)
  generalize hAe : va_A [] s.heap.size = A at hD hE_21 ⊢
  have hA : ∀ q : Nat, s.heap.size ≤ q → A q := fun q h => by rw [← hAe]; exact Or.inr h
  have hP : va_P (dC, dI) vwCl [] s.heap := hP
  have hl := lv_entry ([.ref tv1, .int p1, .int 0, .int 4]) (n := 4) (Nat.le_of_ble_eq_true rfl)
  rw [lg_entry_eq]
  generalize (lg_sl ([.ref tv1, .int p1, .int 0, .int 4]) ++ List.replicate (4 - (lg_sl ([.ref tv1, .int p1, .int 0, .int 4])).length) Slot.unset).toArray = ls at hl ⊢
  have hl : lv_has ls 4 [(0, .ref tv1), (1, .int p1), (2, .int 0), (3, .int 4)] := hl
  obtain ⟨H, hHe⟩ : ∃ H : Heap, s.heap = H := ⟨_, rfl⟩
  have hS : va_S A s.heap H [] := by rw [hHe]; exact va_S.rf
  have hP : va_P (dC, dI) vwCl [] H := by rw [← hHe]; exact hP
  rw [hHe]
  obtain ⟨RES, hR⟩ : ∃ z, fx_c_J1_indexOf_4cfef_1 p1 = z := ⟨_, rfl⟩
  have hEX : RES = fx_c_J1_indexOf_4cfef_1 p1 := hR.symm
  refine lv_iload_n hx hb dJ1_indexOf_4cfef_0 rfl (lv_at hl 1 rfl) ?_
  as_aux_lemma =>
  obtain ⟨hPc, hDc, hFc, hqc⟩ := cl_cut (wc := []) hP hD hS hA [] (by decide +kernel) rfl
  have hKc := hK.sub (tys' := []) [] rfl
  refine va_calli (va_runS (As := [.int p1]) (rest := []) ⟨hx, hb, hml, hown, hts⟩ (c_J1_canEncode_9a6ad l dC dI H.size p1 g_p1) (va_cwS 1 hts gf_c_J1_indexOf_4cfef_1_c_J1_canEncode_9a6ad rfl rfl rfl md_J1_canEncode_9a6ad ⟨Nat.le_of_ble_eq_true rfl, Nat.le_of_ble_eq_true rfl⟩) ⟨fun a U g mk q => by obtain ⟨q0, q1, qP, qK, qD⟩ := q; exact ⟨q0, q1, qP, va_K.moved (u := U) (U := U.calling g mk a) (Vm.Alike.refl U.vm) qK, qD⟩, fun U hU hW => ⟨rfl, by rw [hU], by rw [hU]; exact hPc, va_K.moved hW.alike hKc, hDc.weaken (fun _ _ _ _ => trivial)⟩⟩ rfl rfl hl.1 rfl (lv_room (Nat.le_of_ble_eq_true rfl)) dJ1_indexOf_4cfef_1 ⟨Nat.le_of_ble_eq_true rfl, Nat.le_of_ble_eq_true rfl⟩) hS (fun q _ h => hFc q h) hFc (fun r_1 u t H1 locs ht hvm hw hB hz1 hk1 hS => ?_)
  obtain ⟨hP1, hK1, hD1⟩ := hB
  rw [ht] at hP1
  have hP := bv_still hP hk1
  generalize H1 = H at hP hS ⊢
  as_aux_lemma =>
  rcases hw with ⟨h_2, h_3, h_4⟩ | ⟨h_5, h_6, h_7⟩
  · have h_4 : r_1 = _ := h_4
    replace hEX := hEX.trans (exc1_eq h_4)
    replace hEX := hEX.trans (if_pos (show r_1 = 0 from h_2))
    rw [h_2]
    refine lv_if_ne (tgt := 9) hx hb dJ1_indexOf_4cfef_4 rfl (fun c_8 => absurd c_8 (by decide +kernel)) (fun c_8 => ?_)
    refine lv_iconst (v := (-1)) hx hb dJ1_indexOf_4cfef_7 kc_iconst_m1 ?_
    have hK9 := hK.sub (tys' := []) [] rfl
    exact W.iret (v := (-1)) hx hb hr (fun t ht hW => ⟨⟨(-1), (), rfl, (Or.inl ⟨rfl, (hR.trans hEX).symm⟩), by rw [ht]; exact hP, va_K.moved hW.alike hK9, hD⟩, hS.F ht⟩) hS.2.2 dJ1_indexOf_4cfef_8
  · have h_7 : r_1 = _ := h_7
    replace hEX := hEX.trans (exc1_eq h_7)
    replace hEX := hEX.trans (if_neg (fun q9 : r_1 = 0 => absurd ((show r_1 = 1 from h_5).symm.trans q9) (by decide +kernel)))
    rw [h_5]
    refine lv_if_ne (tgt := 9) hx hb dJ1_indexOf_4cfef_4 rfl (fun c_9 => ?_) (fun c_9 => absurd c_9 (by decide +kernel))
    refine lv_iload_n hx hb dJ1_indexOf_4cfef_9 rfl (lv_at hl 2 rfl) ?_
    as_aux_lemma =>
    refine lv_iconst (v := 0) hx hb dJ1_indexOf_4cfef_10 kc_iconst_0 ?_
    refine va_mmax hx hb (by rw [hml]; exact hl.1.symm) hown (hts (.methodLink RJ1 92 Lib.Math.max.name) (List.mem_of_getElem? (i := 5) rfl)) (hts (.static Lib.Math.max.name) (List.mem_of_getElem? (i := 6) rfl)) (hts (.initialized "java/lang/Math") (List.mem_of_getElem? (i := 7) rfl)) (hts (.code Lib.Math.max.name Lib.Math.max.code 2 (some .int)) (List.mem_of_getElem? (i := 8) rfl)) (Nat.le_of_ble_eq_true rfl) (Nat.le_of_ble_eq_true rfl) (Nat.le_of_ble_eq_true rfl) (Nat.le_of_ble_eq_true rfl) dJ1_indexOf_4cfef_11 ?_
    refine lv_topi (fun x_10 ex_10 => ?_)
    replace hEX := hEX.trans (exl_eq ex_10)
    have g_11 : RG x_10 0 0 := RG_max ex_10 (RG_k 0 0 rfl) (RG_k 0 0 rfl) (by decide +kernel)
    refine lv_istore_n (lv' := [(2, .int x_10), (0, .ref tv1), (1, .int p1), (3, .int 4)]) hx hb dJ1_indexOf_4cfef_14 rfl hl (Nat.le_of_ble_eq_true rfl) rfl (fun ls hl => ?_)
    refine lv_iload_n hx hb dJ1_indexOf_4cfef_15 rfl (lv_at hl 3 rfl) ?_
    refine lv_aload_n hx hb dJ1_indexOf_4cfef_16 rfl (lv_at hl 1 rfl) ?_
    refine va_tlen (v := 4) hx hb hE_21 hS rfl dJ1_indexOf_4cfef_17 ?_
    refine va_mmin hx hb (by rw [hml]; exact hl.1.symm) hown (hts (.methodLink RJ1 38 Lib.Math.min.name) (List.mem_of_getElem? (i := 9) rfl)) (hts (.static Lib.Math.min.name) (List.mem_of_getElem? (i := 10) rfl)) (hts (.initialized "java/lang/Math") (List.mem_of_getElem? (i := 7) rfl)) (hts (.code Lib.Math.min.name Lib.Math.min.code 2 (some .int)) (List.mem_of_getElem? (i := 11) rfl)) (Nat.le_of_ble_eq_true rfl) (Nat.le_of_ble_eq_true rfl) (Nat.le_of_ble_eq_true rfl) (Nat.le_of_ble_eq_true rfl) dJ1_indexOf_4cfef_18 ?_
    refine lv_topi (fun x_12 ex_12 => ?_)
    replace hEX := hEX.trans (exl_eq ex_12)
    have g_13 : RG x_12 4 4 := RG_min ex_12 (RG_k 4 4 rfl) (RG_k 4 4 rfl) (by decide +kernel)
    refine lv_istore_n (lv' := [(3, .int x_12), (2, .int x_10), (0, .ref tv1), (1, .int p1)]) hx hb dJ1_indexOf_4cfef_21 rfl hl (Nat.le_of_ble_eq_true rfl) rfl (fun ls hl => ?_)
    as_aux_lemma =>
    refine lv_iload_n hx hb dJ1_indexOf_4cfef_22 rfl (lv_at hl 1 rfl) ?_
    refine lv_iload_n hx hb dJ1_indexOf_4cfef_23 rfl (lv_at hl 0 rfl) ?_
    refine lv_icmp_lt (tgt := 29) hx hb dJ1_indexOf_4cfef_24 rfl (fun c_14 => ?_) (fun c_14 => ?_)
    · replace hEX := hEX.trans (if_pos c_14)
      refine lv_aload_n hx hb dJ1_indexOf_4cfef_29 rfl (lv_at hl 2 rfl) ?_
      refine lv_iload_n hx hb dJ1_indexOf_4cfef_30 rfl (lv_at hl 3 rfl) ?_
      refine lv_iload_n hx hb dJ1_indexOf_4cfef_31 rfl (lv_at hl 1 rfl) ?_
      refine lv_iload_n hx hb dJ1_indexOf_4cfef_32 rfl (lv_at hl 0 rfl) ?_
      obtain ⟨hPc, hDc, hFc, hqc⟩ := cl_cut (wc := []) hP hD hS hA [] (by decide +kernel) rfl
      have hKc := hK.sub (tys' := []) [] rfl
      refine va_calli (va_runS (As := [.ref tv1, .int p1, .int x_10, .int x_12]) (rest := []) ⟨hx, hb, hml, hown, hts⟩ (c_J1_indexOfChar_4cfef_1 l dC dI H.size tv1 p1 x_10 x_12 h_6 g_11 g_13) (va_cwS 4 hts gf_c_J1_indexOf_4cfef_1_c_J1_indexOfChar_4cfef_1 rfl rfl rfl md_J1_indexOfChar_4cfef ⟨Nat.le_of_ble_eq_true rfl, Nat.le_of_ble_eq_true rfl⟩) ⟨fun a U g mk q => by obtain ⟨q0, q1, qP, qK, qD, qE0⟩ := q; exact ⟨q0, q1, qP, va_K.moved (u := U) (U := U.calling g mk a) (Vm.Alike.refl U.vm) qK, qD, va_T.moved (u := U) (U := U.calling g mk a) (Vm.Alike.refl U.vm) qE0⟩, fun U hU hW => ⟨rfl, by rw [hU], by rw [hU]; exact hPc, va_K.moved hW.alike hKc, hDc.weaken (fun _ _ _ _ => trivial), va_T.moved hW.alike (by rw [hU]; exact (hE_21.kept hS.2.1).narrow hFc)⟩⟩ rfl rfl hl.1 rfl (lv_room (Nat.le_of_ble_eq_true rfl)) dJ1_indexOf_4cfef_33 ⟨Nat.le_of_ble_eq_true rfl, Nat.le_of_ble_eq_true rfl⟩) hS (fun q _ h => hFc q h) hFc (fun r_15 u t H1 locs ht hvm hw hB hz1 hk1 hS => ?_)
      obtain ⟨hP1, hK1, hD1⟩ := hB
      rw [ht] at hP1
      have hP := bv_still hP hk1
      generalize H1 = H at hP hS ⊢
      as_aux_lemma =>
      rcases hw with ⟨h_16, h_17⟩ | ⟨h_18, h_19⟩
      · have h_17 : r_15 = _ := h_17
        replace hEX := hEX.trans (exc1_eq h_17)
        replace hEX := hEX.trans (if_pos (show r_15 = (-1) from h_16))
        rw [h_16]
        have hK9 := hK.sub (tys' := []) [] rfl
        exact W.iret (v := (-1)) hx hb hr (fun t ht hW => ⟨⟨(-1), (), rfl, (Or.inl ⟨rfl, (hR.trans hEX).symm⟩), by rw [ht]; exact hP, va_K.moved hW.alike hK9, hD⟩, hS.F ht⟩) hS.2.2 dJ1_indexOf_4cfef_36
      · have h_19 : r_15 = _ := h_19
        replace hEX := hEX.trans (exc1_eq h_19)
        replace hEX := hEX.trans (if_neg (RG_neq (x := r_15) (c := (-1)) (show RG r_15 0 3 from h_18) (by decide +kernel)))
        have hK9 := hK.sub (tys' := []) [] rfl
        exact W.iret (v := r_15) hx hb hr (fun t ht hW => ⟨⟨r_15, (), rfl, (Or.inr ⟨h_18, h_6, (hR.trans hEX).symm⟩), by rw [ht]; exact hP, va_K.moved hW.alike hK9, hD⟩, hS.F ht⟩) hS.2.2 dJ1_indexOf_4cfef_36
    · replace hEX := hEX.trans (if_neg c_14)
      have d_20 := Int32.not_lt.mp c_14
      have g_21 : RG x_12 4 0 := RG_le1 g_13 g_11 d_20 (by decide +kernel)
      exact RG_dead (RG_le1 g_13 g_11 d_20 (b' := 0) (by decide +kernel)) (by decide +kernel)
noncomputable def wf_c_J0_indexOf_7cf53_1 : List Cond := .code yJ0_indexOf_7cf53 cJ0_indexOf_7cf53 3 (some .int) :: ([.methodLink RJ0 492 yJ0_isLatin1_aae02, .instanceMethod yJ0_isLatin1_aae02, .selects RJ0 yJ0_isLatin1_aae02 yJ0_isLatin1_aae02, .initialized RJ0, .code yJ0_isLatin1_aae02 cJ0_isLatin1_aae02 1 (some .boolean), .fieldLink RJ0 38 "java/lang/String" "COMPACT_STRINGS" "Z", .fieldLink RJ0 15 "java/lang/String" "coder" "B", .fieldLink RJ0 9 "java/lang/String" "value" "[B", .methodLink RJ0 505 yJ0_length_8abf5, .instanceMethod yJ0_length_8abf5, .selects RJ0 yJ0_length_8abf5 yJ0_length_8abf5, .code yJ0_length_8abf5 cJ0_length_8abf5 1 (some .int), .methodLink RJ0 335 yJ0_coder_7d493, .instanceMethod yJ0_coder_7d493, .selects RJ0 yJ0_coder_7d493 yJ0_coder_7d493, .code yJ0_coder_7d493 cJ0_coder_7d493 1 (some .byte), .methodLink RJ0 637 yJ1_indexOf_4cfef, .static yJ1_indexOf_4cfef, .initialized RJ1, .code yJ1_indexOf_4cfef cJ1_indexOf_4cfef 4 (some .int), .methodLink RJ1 88 yJ1_canEncode_9a6ad, .static yJ1_canEncode_9a6ad, .code yJ1_canEncode_9a6ad cJ1_canEncode_9a6ad 1 (some .boolean), .methodLink RJ1 92 Lib.Math.max.name, .static Lib.Math.max.name, .initialized "java/lang/Math", .code Lib.Math.max.name Lib.Math.max.code 2 (some .int), .methodLink RJ1 38 Lib.Math.min.name, .static Lib.Math.min.name, .code Lib.Math.min.name Lib.Math.min.code 2 (some .int), .methodLink RJ1 95 yJ1_indexOfChar_4cfef, .static yJ1_indexOfChar_4cfef, .code yJ1_indexOfChar_4cfef cJ1_indexOfChar_4cfef 6 (some .int)])
set_option maxRecDepth 20000 in
theorem gf_c_J0_indexOf_7cf53_1_c_J0_isLatin1_aae02_1 : GoodIn wf_c_J0_indexOf_7cf53_1 (wsV RJ0 492 RJ0 yJ0_isLatin1_aae02 wf_c_J0_isLatin1_aae02_1) := goodIn_app (gi_l [1, 2, 3, 4] rfl rfl) (gi_cons (j := 5) rfl rfl (gi_l [6, 7] rfl rfl))
set_option maxRecDepth 20000 in
theorem gf_c_J0_indexOf_7cf53_1_c_J0_length_8abf5 : GoodIn wf_c_J0_indexOf_7cf53_1 (wsV RJ0 505 RJ0 yJ0_length_8abf5 wf_c_J0_length_8abf5) := goodIn_app (gi_l [9, 10, 11, 4] rfl rfl) (gi_cons (j := 12) rfl rfl (gi_l [8, 13, 14, 15, 4, 16, 6, 7] rfl rfl))
set_option maxRecDepth 20000 in
theorem gf_c_J0_indexOf_7cf53_1_c_J1_indexOf_4cfef_1 : GoodIn wf_c_J0_indexOf_7cf53_1 (va_wsS RJ0 637 yJ1_indexOf_4cfef wf_c_J1_indexOf_4cfef_1) := goodIn_app (gi_l [17, 18, 19] rfl rfl) (gi_cons (j := 20) rfl rfl (gi_l [21, 22, 19, 23, 24, 25, 26, 27, 28, 29, 30, 31, 32, 33] rfl rfl))
set_option maxHeartbeats 4000000 in
set_option maxRecDepth 100000 in
theorem c_J0_indexOf_7cf53_1 (l : Launch) (dC : Nat → ClassId) (dI : Nat → Nat → Nat) (sz : Nat) (ts1 : Nat) (p1 : Int32) (tv1 : Nat) (g_p1 : RG p1 0 65535) : Met l yJ0_indexOf_7cf53 wf_c_J0_indexOf_7cf53_1 ({ frames := 2, cells := 0, slots := 0, locals := 48 }) (va_Pc [.ref ts1, .int p1, .int 0] (fun U => U.heap.size = sz ∧ va_P (dC, dI) vwCl [] U.heap ∧ va_K (dC, dI) vwCl [] U ∧ va_D (fun _ => True) [] ∧ va_Z "java/lang/String" "COMPACT_STRINGS" "Z" (.int 1) (va_A [] sz) U U.heap ∧ va_OF "java/lang/String" "coder" "B" (.int 0) ts1 (va_A [] sz) U U.heap ∧ va_O "java/lang/String" ts1 (va_A [] sz) U U.heap ∧ va_OF "java/lang/String" "value" "[B" (.ref tv1) ts1 (va_A [] sz) U U.heap ∧ va_T .byte tv1 4 (fun j => .int ([119, 100, 116, 104].getD j 0)) (va_A [] sz) U U.heap)) (va_Qi (fun (r : Int32) (u : Unit) => (r = (-1) ∧ r = fx_c_J0_indexOf_7cf53_1 p1) ∨ (RG r 0 3 ∧ RG p1 0 255 ∧ r = fx_c_J0_indexOf_7cf53_1 p1)) (fun (u : Unit) t => va_P (dC, dI) vwCl [] t.heap ∧ va_K (dC, dI) vwCl [] t ∧ va_D (va_A [] sz) []) (va_A [] sz)) 0 0 (va_A [] sz) := by
  refine Met.ofW (cc := cJ0_indexOf_7cf53) (maxL := 3) (ret := (some .int)) (by decide +kernel) rfl ?_
  intro p e s m args below meth c s₁ B hml hv
  obtain ⟨rfl, hsz, hP, hK, hD0, hE_10, hE_19, hE_18, hE_20, hE_21⟩ := hv
  have hx := B.exec
  have hb := B.bytes
  have hr := B.returns
  have hts := atoms_spec (ws := wf_c_J0_indexOf_7cf53_1) B.pre
  have hown : s.vm.findClass RJ0 = some m.cls := findClass_of_methodNamed B.named
  have hlocks := B.notSynchronized
  subst hsz
  have hD := hD0.self (sz := s.heap.size)
  generalize hAe : va_A [] s.heap.size = A at hD hE_10 hE_19 hE_18 hE_20 hE_21 ⊢
  have hA : ∀ q : Nat, s.heap.size ≤ q → A q := fun q h => by rw [← hAe]; exact Or.inr h
  have hP : va_P (dC, dI) vwCl [] s.heap := hP
  have hl := lv_entry ([.ref ts1, .int p1, .int 0]) (n := 3) (Nat.le_of_ble_eq_true rfl)
  rw [lg_entry_eq]
  generalize (lg_sl ([.ref ts1, .int p1, .int 0]) ++ List.replicate (3 - (lg_sl ([.ref ts1, .int p1, .int 0])).length) Slot.unset).toArray = ls at hl ⊢
  have hl : lv_has ls 3 [(0, .ref ts1), (1, .int p1), (2, .int 0)] := hl
  obtain ⟨H, hHe⟩ : ∃ H : Heap, s.heap = H := ⟨_, rfl⟩
  have hS : va_S A s.heap H [] := by rw [hHe]; exact va_S.rf
  have hP : va_P (dC, dI) vwCl [] H := by rw [← hHe]; exact hP
  rw [hHe]
  obtain ⟨RES, hR⟩ : ∃ z, fx_c_J0_indexOf_7cf53_1 p1 = z := ⟨_, rfl⟩
  have hEX : RES = fx_c_J0_indexOf_7cf53_1 p1 := hR.symm
  refine lv_aload_n hx hb dJ0_indexOf_7cf53_0 rfl (lv_at hl 0 rfl) ?_
  as_aux_lemma =>
  obtain ⟨hPc, hDc, hFc, hqc⟩ := cl_cut (wc := []) hP hD hS hA [] (by decide +kernel) rfl
  have hKc := hK.sub (tys' := []) [] rfl
  have hrv := bv_Orecv hE_18 hS
  refine va_calli (va_runV (As := []) (rest := []) ⟨hx, hb, hml, hown, hts⟩ (c_J0_isLatin1_aae02_1 l dC dI H.size ts1) (cwV 0 hts gf_c_J0_indexOf_7cf53_1_c_J0_isLatin1_aae02_1 rfl rfl rfl mdV_J0_isLatin1_aae02 ⟨Nat.le_of_ble_eq_true rfl, Nat.le_of_ble_eq_true rfl⟩) ⟨fun a U g mk q => by obtain ⟨q0, q1, qP, qK, qD, qE0, qE1⟩ := q; exact ⟨q0, q1, qP, va_K.moved (u := U) (U := U.calling g mk a) (Vm.Alike.refl U.vm) qK, qD, va_Z.moved (u := U) (U := U.calling g mk a) (Vm.Alike.refl U.vm) qE0, va_OF.moved (u := U) (U := U.calling g mk a) (Vm.Alike.refl U.vm) qE1⟩, hrv, fun U hU hW => ⟨rfl, by rw [hU], by rw [hU]; exact hPc, va_K.moved hW.alike hKc, hDc.weaken (fun _ _ _ _ => trivial), va_Z.moved hW.alike (by rw [hU]; exact (hE_10.kept hS.2.1).narrow hFc), va_OF.moved hW.alike (by rw [hU]; exact (hE_19.kept hS.2.1).narrow hFc)⟩⟩ rfl rfl hl.1 rfl (lv_room (Nat.le_of_ble_eq_true rfl)) dJ0_indexOf_7cf53_1 ⟨Nat.le_of_ble_eq_true rfl, Nat.le_of_ble_eq_true rfl⟩) hS (fun q _ h => hFc q h) hFc (fun r_1 u t H1 locs ht hvm hw hB hz1 hk1 hS => ?_)
  obtain ⟨hP1, hK1, hD1⟩ := hB
  rw [ht] at hP1
  have hP := bv_still hP hk1
  generalize H1 = H at hP hS ⊢
  as_aux_lemma =>
  rcases hw with ⟨h_2, h_3⟩
  have h_3 : r_1 = _ := h_3
  replace hEX := hEX.trans (exc1_eq h_3)
  rw [h_2]
  refine lv_if_eq (tgt := 23) hx hb dJ0_indexOf_7cf53_4 rfl (fun c_4 => absurd c_4 (by decide +kernel)) (fun c_4 => ?_)
  refine lv_aload_n hx hb dJ0_indexOf_7cf53_7 rfl (lv_at hl 0 rfl) ?_
  refine vk_getf hx hb hE_20 hS hown (hts (.fieldLink RJ0 9 "java/lang/String" "value" "[B") (List.mem_of_getElem? (i := 8) rfl)) (fun _ h9 => h9) dJ0_indexOf_7cf53_8 ?_
  refine lv_iload_n hx hb dJ0_indexOf_7cf53_11 rfl (lv_at hl 1 rfl) ?_
  refine lv_iload_n hx hb dJ0_indexOf_7cf53_12 rfl (lv_at hl 2 rfl) ?_
  refine lv_aload_n hx hb dJ0_indexOf_7cf53_13 rfl (lv_at hl 0 rfl) ?_
  obtain ⟨hPc, hDc, hFc, hqc⟩ := cl_cut (wc := []) hP hD hS hA [] (by decide +kernel) rfl
  have hKc := hK.sub (tys' := []) [] rfl
  have hrv := bv_Orecv hE_18 hS
  refine va_calli (va_runV (As := []) (rest := [.int 0, .int p1, .ref tv1]) ⟨hx, hb, hml, hown, hts⟩ (c_J0_length_8abf5 l dC dI H.size ts1 tv1) (cwV 0 hts gf_c_J0_indexOf_7cf53_1_c_J0_length_8abf5 rfl rfl rfl mdV_J0_length_8abf5 ⟨Nat.le_of_ble_eq_true rfl, Nat.le_of_ble_eq_true rfl⟩) ⟨fun a U g mk q => by obtain ⟨q0, q1, qP, qK, qD, qE0, qE1, qE2, qE3, qE4⟩ := q; exact ⟨q0, q1, qP, va_K.moved (u := U) (U := U.calling g mk a) (Vm.Alike.refl U.vm) qK, qD, va_OF.moved (u := U) (U := U.calling g mk a) (Vm.Alike.refl U.vm) qE0, va_T.moved (u := U) (U := U.calling g mk a) (Vm.Alike.refl U.vm) qE1, va_Z.moved (u := U) (U := U.calling g mk a) (Vm.Alike.refl U.vm) qE2, va_OF.moved (u := U) (U := U.calling g mk a) (Vm.Alike.refl U.vm) qE3, va_O.moved (u := U) (U := U.calling g mk a) (Vm.Alike.refl U.vm) qE4⟩, hrv, fun U hU hW => ⟨rfl, by rw [hU], by rw [hU]; exact hPc, va_K.moved hW.alike hKc, hDc.weaken (fun _ _ _ _ => trivial), va_OF.moved hW.alike (by rw [hU]; exact (hE_20.kept hS.2.1).narrow hFc), va_T.moved hW.alike (by rw [hU]; exact (hE_21.kept hS.2.1).narrow hFc), va_Z.moved hW.alike (by rw [hU]; exact (hE_10.kept hS.2.1).narrow hFc), va_OF.moved hW.alike (by rw [hU]; exact (hE_19.kept hS.2.1).narrow hFc), va_O.moved hW.alike (by rw [hU]; exact (hE_18.kept hS.2.1).narrow hFc)⟩⟩ rfl rfl hl.1 rfl (lv_room (Nat.le_of_ble_eq_true rfl)) dJ0_indexOf_7cf53_14 ⟨Nat.le_of_ble_eq_true rfl, Nat.le_of_ble_eq_true rfl⟩) hS (fun q _ h => hFc q h) hFc (fun r_5 u t H1 locs ht hvm hw hB hz1 hk1 hS => ?_)
  as_aux_lemma =>
  obtain ⟨hP1, hK1, hD1⟩ := hB
  rw [ht] at hP1
  have hP := bv_still hP hk1
  generalize H1 = H at hP hS ⊢
  as_aux_lemma =>
  rcases hw with ⟨h_6, h_7⟩
  have h_7 : r_5 = _ := h_7
  replace hEX := hEX.trans (exc1_eq h_7)
  rw [h_6]
  obtain ⟨hPc, hDc, hFc, hqc⟩ := cl_cut (wc := []) hP hD hS hA [] (by decide +kernel) rfl
  have hKc := hK.sub (tys' := []) [] rfl
  refine va_calli (va_runS (As := [.ref tv1, .int p1, .int 0, .int 4]) (rest := []) ⟨hx, hb, hml, hown, hts⟩ (c_J1_indexOf_4cfef_1 l dC dI H.size tv1 p1 g_p1) (va_cwS 4 hts gf_c_J0_indexOf_7cf53_1_c_J1_indexOf_4cfef_1 rfl rfl rfl md_J1_indexOf_4cfef ⟨Nat.le_of_ble_eq_true rfl, Nat.le_of_ble_eq_true rfl⟩) ⟨fun a U g mk q => by obtain ⟨q0, q1, qP, qK, qD, qE0⟩ := q; exact ⟨q0, q1, qP, va_K.moved (u := U) (U := U.calling g mk a) (Vm.Alike.refl U.vm) qK, qD, va_T.moved (u := U) (U := U.calling g mk a) (Vm.Alike.refl U.vm) qE0⟩, fun U hU hW => ⟨rfl, by rw [hU], by rw [hU]; exact hPc, va_K.moved hW.alike hKc, hDc.weaken (fun _ _ _ _ => trivial), va_T.moved hW.alike (by rw [hU]; exact (hE_21.kept hS.2.1).narrow hFc)⟩⟩ rfl rfl hl.1 rfl (lv_room (Nat.le_of_ble_eq_true rfl)) dJ0_indexOf_7cf53_17 ⟨Nat.le_of_ble_eq_true rfl, Nat.le_of_ble_eq_true rfl⟩) hS (fun q _ h => hFc q h) hFc (fun r_8 u t H1 locs ht hvm hw hB hz1 hk1 hS => ?_)
  obtain ⟨hP1, hK1, hD1⟩ := hB
  rw [ht] at hP1
  have hP := bv_still hP hk1
  generalize H1 = H at hP hS ⊢
  as_aux_lemma =>
  rcases hw with ⟨h_9, h_10⟩ | ⟨h_11, h_12, h_13⟩
  · have h_10 : r_8 = _ := h_10
    replace hEX := hEX.trans (exc1_eq h_10)
    replace hEX := hEX.trans (if_pos (show r_8 = (-1) from h_9))
    rw [h_9]
    refine lv_goto (tgt := 36) hx hb dJ0_indexOf_7cf53_20 rfl ?_
    have hK9 := hK.sub (tys' := []) [] rfl
    exact W.iret (v := (-1)) hx hb hr (fun t ht hW => ⟨⟨(-1), (), rfl, (Or.inl ⟨rfl, (hR.trans hEX).symm⟩), by rw [ht]; exact hP, va_K.moved hW.alike hK9, hD⟩, hS.F ht⟩) hS.2.2 dJ0_indexOf_7cf53_36
  · have h_13 : r_8 = _ := h_13
    replace hEX := hEX.trans (exc1_eq h_13)
    replace hEX := hEX.trans (if_neg (RG_neq (x := r_8) (c := (-1)) (show RG r_8 0 3 from h_11) (by decide +kernel)))
    refine lv_goto (tgt := 36) hx hb dJ0_indexOf_7cf53_20 rfl ?_
    have hK9 := hK.sub (tys' := []) [] rfl
    exact W.iret (v := r_8) hx hb hr (fun t ht hW => ⟨⟨r_8, (), rfl, (Or.inr ⟨h_11, h_12, (hR.trans hEX).symm⟩), by rw [ht]; exact hP, va_K.moved hW.alike hK9, hD⟩, hS.F ht⟩) hS.2.2 dJ0_indexOf_7cf53_36
noncomputable def wf_c_J0_indexOf_0f7a4_1 : List Cond := .code yJ0_indexOf_0f7a4 cJ0_indexOf_0f7a4 2 (some .int) :: ([.methodLink RJ0 633 yJ0_indexOf_7cf53, .instanceMethod yJ0_indexOf_7cf53, .selects RJ0 yJ0_indexOf_7cf53 yJ0_indexOf_7cf53, .initialized RJ0, .code yJ0_indexOf_7cf53 cJ0_indexOf_7cf53 3 (some .int), .methodLink RJ0 492 yJ0_isLatin1_aae02, .instanceMethod yJ0_isLatin1_aae02, .selects RJ0 yJ0_isLatin1_aae02 yJ0_isLatin1_aae02, .code yJ0_isLatin1_aae02 cJ0_isLatin1_aae02 1 (some .boolean), .fieldLink RJ0 38 "java/lang/String" "COMPACT_STRINGS" "Z", .fieldLink RJ0 15 "java/lang/String" "coder" "B", .fieldLink RJ0 9 "java/lang/String" "value" "[B", .methodLink RJ0 505 yJ0_length_8abf5, .instanceMethod yJ0_length_8abf5, .selects RJ0 yJ0_length_8abf5 yJ0_length_8abf5, .code yJ0_length_8abf5 cJ0_length_8abf5 1 (some .int), .methodLink RJ0 335 yJ0_coder_7d493, .instanceMethod yJ0_coder_7d493, .selects RJ0 yJ0_coder_7d493 yJ0_coder_7d493, .code yJ0_coder_7d493 cJ0_coder_7d493 1 (some .byte), .methodLink RJ0 637 yJ1_indexOf_4cfef, .static yJ1_indexOf_4cfef, .initialized RJ1, .code yJ1_indexOf_4cfef cJ1_indexOf_4cfef 4 (some .int), .methodLink RJ1 88 yJ1_canEncode_9a6ad, .static yJ1_canEncode_9a6ad, .code yJ1_canEncode_9a6ad cJ1_canEncode_9a6ad 1 (some .boolean), .methodLink RJ1 92 Lib.Math.max.name, .static Lib.Math.max.name, .initialized "java/lang/Math", .code Lib.Math.max.name Lib.Math.max.code 2 (some .int), .methodLink RJ1 38 Lib.Math.min.name, .static Lib.Math.min.name, .code Lib.Math.min.name Lib.Math.min.code 2 (some .int), .methodLink RJ1 95 yJ1_indexOfChar_4cfef, .static yJ1_indexOfChar_4cfef, .code yJ1_indexOfChar_4cfef cJ1_indexOfChar_4cfef 6 (some .int)])
set_option maxRecDepth 20000 in
theorem gf_c_J0_indexOf_0f7a4_1_c_J0_indexOf_7cf53_1 : GoodIn wf_c_J0_indexOf_0f7a4_1 (wsV RJ0 633 RJ0 yJ0_indexOf_7cf53 wf_c_J0_indexOf_7cf53_1) := goodIn_app (gi_l [1, 2, 3, 4] rfl rfl) (gi_cons (j := 5) rfl rfl (gi_l [6, 7, 8, 4, 9, 10, 11, 12, 13, 14, 15, 16, 17, 18, 19, 20, 21, 22, 23, 24, 25, 26, 27, 28, 29, 30, 31, 32, 33, 34, 35, 36, 37] rfl rfl))
set_option maxHeartbeats 4000000 in
set_option maxRecDepth 100000 in
theorem c_J0_indexOf_0f7a4_1 (l : Launch) (dC : Nat → ClassId) (dI : Nat → Nat → Nat) (sz : Nat) (ts1 : Nat) (p1 : Int32) (tv1 : Nat) (g_p1 : RG p1 0 65535) : Met l yJ0_indexOf_0f7a4 wf_c_J0_indexOf_0f7a4_1 ({ frames := 3, cells := 0, slots := 0, locals := 70 }) (va_Pc [.ref ts1, .int p1] (fun U => U.heap.size = sz ∧ va_P (dC, dI) vwCl [] U.heap ∧ va_K (dC, dI) vwCl [] U ∧ va_D (fun _ => True) [] ∧ va_Z "java/lang/String" "COMPACT_STRINGS" "Z" (.int 1) (va_A [] sz) U U.heap ∧ va_OF "java/lang/String" "coder" "B" (.int 0) ts1 (va_A [] sz) U U.heap ∧ va_O "java/lang/String" ts1 (va_A [] sz) U U.heap ∧ va_OF "java/lang/String" "value" "[B" (.ref tv1) ts1 (va_A [] sz) U U.heap ∧ va_T .byte tv1 4 (fun j => .int ([119, 100, 116, 104].getD j 0)) (va_A [] sz) U U.heap)) (va_Qi (fun (r : Int32) (u : Unit) => (r = (-1) ∧ r = fx_c_J0_indexOf_0f7a4_1 p1) ∨ (RG r 0 3 ∧ RG p1 0 255 ∧ r = fx_c_J0_indexOf_0f7a4_1 p1)) (fun (u : Unit) t => va_P (dC, dI) vwCl [] t.heap ∧ va_K (dC, dI) vwCl [] t ∧ va_D (va_A [] sz) []) (va_A [] sz)) 0 0 (va_A [] sz) := by
  refine Met.ofW (cc := cJ0_indexOf_0f7a4) (maxL := 2) (ret := (some .int)) (by decide +kernel) rfl ?_
  intro p e s m args below meth c s₁ B hml hv
  obtain ⟨rfl, hsz, hP, hK, hD0, hE_10, hE_19, hE_18, hE_20, hE_21⟩ := hv
  have hx := B.exec
  have hb := B.bytes
  have hr := B.returns
  have hts := atoms_spec (ws := wf_c_J0_indexOf_0f7a4_1) B.pre
  have hown : s.vm.findClass RJ0 = some m.cls := findClass_of_methodNamed B.named
  have hlocks := B.notSynchronized
  subst hsz
  have hD := hD0.self (sz := s.heap.size)
  generalize hAe : va_A [] s.heap.size = A at hD hE_10 hE_19 hE_18 hE_20 hE_21 ⊢
  have hA : ∀ q : Nat, s.heap.size ≤ q → A q := fun q h => by rw [← hAe]; exact Or.inr h
  have hP : va_P (dC, dI) vwCl [] s.heap := hP
  have hl := lv_entry ([.ref ts1, .int p1]) (n := 2) (Nat.le_of_ble_eq_true rfl)
  rw [lg_entry_eq]
  generalize (lg_sl ([.ref ts1, .int p1]) ++ List.replicate (2 - (lg_sl ([.ref ts1, .int p1])).length) Slot.unset).toArray = ls at hl ⊢
  have hl : lv_has ls 2 [(0, .ref ts1), (1, .int p1)] := hl
  obtain ⟨H, hHe⟩ : ∃ H : Heap, s.heap = H := ⟨_, rfl⟩
  have hS : va_S A s.heap H [] := by rw [hHe]; exact va_S.rf
  have hP : va_P (dC, dI) vwCl [] H := by rw [← hHe]; exact hP
  rw [hHe]
  obtain ⟨RES, hR⟩ : ∃ z, fx_c_J0_indexOf_0f7a4_1 p1 = z := ⟨_, rfl⟩
  have hEX : RES = fx_c_J0_indexOf_0f7a4_1 p1 := hR.symm
  refine lv_aload_n hx hb dJ0_indexOf_0f7a4_0 rfl (lv_at hl 0 rfl) ?_
  as_aux_lemma =>
  refine lv_iload_n hx hb dJ0_indexOf_0f7a4_1 rfl (lv_at hl 1 rfl) ?_
  refine lv_iconst (v := 0) hx hb dJ0_indexOf_0f7a4_2 kc_iconst_0 ?_
  obtain ⟨hPc, hDc, hFc, hqc⟩ := cl_cut (wc := []) hP hD hS hA [] (by decide +kernel) rfl
  have hKc := hK.sub (tys' := []) [] rfl
  have hrv := bv_Orecv hE_18 hS
  refine va_calli (va_runV (As := [.int p1, .int 0]) (rest := []) ⟨hx, hb, hml, hown, hts⟩ (c_J0_indexOf_7cf53_1 l dC dI H.size ts1 p1 tv1 g_p1) (cwV 2 hts gf_c_J0_indexOf_0f7a4_1_c_J0_indexOf_7cf53_1 rfl rfl rfl mdV_J0_indexOf_7cf53 ⟨Nat.le_of_ble_eq_true rfl, Nat.le_of_ble_eq_true rfl⟩) ⟨fun a U g mk q => by obtain ⟨q0, q1, qP, qK, qD, qE0, qE1, qE2, qE3, qE4⟩ := q; exact ⟨q0, q1, qP, va_K.moved (u := U) (U := U.calling g mk a) (Vm.Alike.refl U.vm) qK, qD, va_Z.moved (u := U) (U := U.calling g mk a) (Vm.Alike.refl U.vm) qE0, va_OF.moved (u := U) (U := U.calling g mk a) (Vm.Alike.refl U.vm) qE1, va_O.moved (u := U) (U := U.calling g mk a) (Vm.Alike.refl U.vm) qE2, va_OF.moved (u := U) (U := U.calling g mk a) (Vm.Alike.refl U.vm) qE3, va_T.moved (u := U) (U := U.calling g mk a) (Vm.Alike.refl U.vm) qE4⟩, hrv, fun U hU hW => ⟨rfl, by rw [hU], by rw [hU]; exact hPc, va_K.moved hW.alike hKc, hDc.weaken (fun _ _ _ _ => trivial), va_Z.moved hW.alike (by rw [hU]; exact (hE_10.kept hS.2.1).narrow hFc), va_OF.moved hW.alike (by rw [hU]; exact (hE_19.kept hS.2.1).narrow hFc), va_O.moved hW.alike (by rw [hU]; exact (hE_18.kept hS.2.1).narrow hFc), va_OF.moved hW.alike (by rw [hU]; exact (hE_20.kept hS.2.1).narrow hFc), va_T.moved hW.alike (by rw [hU]; exact (hE_21.kept hS.2.1).narrow hFc)⟩⟩ rfl rfl hl.1 rfl (lv_room (Nat.le_of_ble_eq_true rfl)) dJ0_indexOf_0f7a4_3 ⟨Nat.le_of_ble_eq_true rfl, Nat.le_of_ble_eq_true rfl⟩) hS (fun q _ h => hFc q h) hFc (fun r_1 u t H1 locs ht hvm hw hB hz1 hk1 hS => ?_)
  obtain ⟨hP1, hK1, hD1⟩ := hB
  rw [ht] at hP1
  have hP := bv_still hP hk1
  generalize H1 = H at hP hS ⊢
  as_aux_lemma =>
  rcases hw with ⟨h_2, h_3⟩ | ⟨h_4, h_5, h_6⟩
  · have h_3 : r_1 = _ := h_3
    replace hEX := hEX.trans (exc1_eq h_3)
    replace hEX := hEX.trans (if_pos (show r_1 = (-1) from h_2))
    rw [h_2]
    have hK9 := hK.sub (tys' := []) [] rfl
    exact W.iret (v := (-1)) hx hb hr (fun t ht hW => ⟨⟨(-1), (), rfl, (Or.inl ⟨rfl, (hR.trans hEX).symm⟩), by rw [ht]; exact hP, va_K.moved hW.alike hK9, hD⟩, hS.F ht⟩) hS.2.2 dJ0_indexOf_0f7a4_6
  · have h_6 : r_1 = _ := h_6
    replace hEX := hEX.trans (exc1_eq h_6)
    replace hEX := hEX.trans (if_neg (RG_neq (x := r_1) (c := (-1)) (show RG r_1 0 3 from h_4) (by decide +kernel)))
    have hK9 := hK.sub (tys' := []) [] rfl
    exact W.iret (v := r_1) hx hb hr (fun t ht hW => ⟨⟨r_1, (), rfl, (Or.inr ⟨h_4, h_5, (hR.trans hEX).symm⟩), by rw [ht]; exact hP, va_K.moved hW.alike hK9, hD⟩, hS.F ht⟩) hS.2.2 dJ0_indexOf_0f7a4_6
noncomputable def wf_c_X0_placeIn_3 : List Cond := .code yX0_placeIn cX0_placeIn 2 (some .int) :: ([.methodLink RX0 128 yJ0_indexOf_0f7a4, .instanceMethod yJ0_indexOf_0f7a4, .selects RJ0 yJ0_indexOf_0f7a4 yJ0_indexOf_0f7a4, .initialized RJ0, .code yJ0_indexOf_0f7a4 cJ0_indexOf_0f7a4 2 (some .int), .methodLink RJ0 633 yJ0_indexOf_7cf53, .instanceMethod yJ0_indexOf_7cf53, .selects RJ0 yJ0_indexOf_7cf53 yJ0_indexOf_7cf53, .code yJ0_indexOf_7cf53 cJ0_indexOf_7cf53 3 (some .int), .methodLink RJ0 492 yJ0_isLatin1_aae02, .instanceMethod yJ0_isLatin1_aae02, .selects RJ0 yJ0_isLatin1_aae02 yJ0_isLatin1_aae02, .code yJ0_isLatin1_aae02 cJ0_isLatin1_aae02 1 (some .boolean), .fieldLink RJ0 38 "java/lang/String" "COMPACT_STRINGS" "Z", .fieldLink RJ0 15 "java/lang/String" "coder" "B", .fieldLink RJ0 9 "java/lang/String" "value" "[B", .methodLink RJ0 505 yJ0_length_8abf5, .instanceMethod yJ0_length_8abf5, .selects RJ0 yJ0_length_8abf5 yJ0_length_8abf5, .code yJ0_length_8abf5 cJ0_length_8abf5 1 (some .int), .methodLink RJ0 335 yJ0_coder_7d493, .instanceMethod yJ0_coder_7d493, .selects RJ0 yJ0_coder_7d493 yJ0_coder_7d493, .code yJ0_coder_7d493 cJ0_coder_7d493 1 (some .byte), .methodLink RJ0 637 yJ1_indexOf_4cfef, .static yJ1_indexOf_4cfef, .initialized RJ1, .code yJ1_indexOf_4cfef cJ1_indexOf_4cfef 4 (some .int), .methodLink RJ1 88 yJ1_canEncode_9a6ad, .static yJ1_canEncode_9a6ad, .code yJ1_canEncode_9a6ad cJ1_canEncode_9a6ad 1 (some .boolean), .methodLink RJ1 92 Lib.Math.max.name, .static Lib.Math.max.name, .initialized "java/lang/Math", .code Lib.Math.max.name Lib.Math.max.code 2 (some .int), .methodLink RJ1 38 Lib.Math.min.name, .static Lib.Math.min.name, .code Lib.Math.min.name Lib.Math.min.code 2 (some .int), .methodLink RJ1 95 yJ1_indexOfChar_4cfef, .static yJ1_indexOfChar_4cfef, .code yJ1_indexOfChar_4cfef cJ1_indexOfChar_4cfef 6 (some .int)])
set_option maxRecDepth 20000 in
theorem gf_c_X0_placeIn_3_c_J0_indexOf_0f7a4_1 : GoodIn wf_c_X0_placeIn_3 (wsV RX0 128 RJ0 yJ0_indexOf_0f7a4 wf_c_J0_indexOf_0f7a4_1) := goodIn_app (gi_l [1, 2, 3, 4] rfl rfl) (gi_cons (j := 5) rfl rfl (gi_l [6, 7, 8, 4, 9, 10, 11, 12, 13, 14, 15, 16, 17, 18, 19, 20, 21, 22, 23, 24, 25, 26, 27, 28, 29, 30, 31, 32, 33, 34, 35, 36, 37, 38, 39, 40, 41] rfl rfl))
set_option maxHeartbeats 4000000 in
set_option maxRecDepth 100000 in
theorem c_X0_placeIn_3 (l : Launch) (dC : Nat → ClassId) (dI : Nat → Nat → Nat) (sz : Nat) (ts1 : Nat) (p1 : Int32) (tv1 : Nat) (g_p1 : RG p1 0 255) : Met l yX0_placeIn wf_c_X0_placeIn_3 ({ frames := 4, cells := 0, slots := 0, locals := 91 }) (va_Pc [.ref ts1, .int p1] (fun U => U.heap.size = sz ∧ va_P (dC, dI) vwCl [] U.heap ∧ va_K (dC, dI) vwCl [] U ∧ va_D (fun _ => True) [] ∧ va_Z "java/lang/String" "COMPACT_STRINGS" "Z" (.int 1) (va_A [] sz) U U.heap ∧ va_OF "java/lang/String" "coder" "B" (.int 0) ts1 (va_A [] sz) U U.heap ∧ va_O "java/lang/String" ts1 (va_A [] sz) U U.heap ∧ va_OF "java/lang/String" "value" "[B" (.ref tv1) ts1 (va_A [] sz) U U.heap ∧ va_T .byte tv1 4 (fun j => .int ([119, 100, 116, 104].getD j 0)) (va_A [] sz) U U.heap)) (va_Qi (fun (r : Int32) (u : Unit) => (r = (-1) ∧ r = fx_c_X0_placeIn_3 p1) ∨ (RG r 0 3 ∧ r = fx_c_X0_placeIn_3 p1)) (fun (u : Unit) t => va_P (dC, dI) vwCl [] t.heap ∧ va_K (dC, dI) vwCl [] t ∧ va_D (va_A [] sz) []) (va_A [] sz)) 0 0 (va_A [] sz) := by
  refine Met.ofW (cc := cX0_placeIn) (maxL := 2) (ret := (some .int)) (by decide +kernel) rfl ?_
  intro p e s m args below meth c s₁ B hml hv
  obtain ⟨rfl, hsz, hP, hK, hD0, hE_10, hE_19, hE_18, hE_20, hE_21⟩ := hv
  have hx := B.exec
  have hb := B.bytes
  have hr := B.returns
  have hts := atoms_spec (ws := wf_c_X0_placeIn_3) B.pre
  have hown : s.vm.findClass RX0 = some m.cls := findClass_of_methodNamed B.named
  have hlocks := B.notSynchronized
  subst hsz
  have hD := hD0.self (sz := s.heap.size)
  generalize hAe : va_A [] s.heap.size = A at hD hE_10 hE_19 hE_18 hE_20 hE_21 ⊢
  have hA : ∀ q : Nat, s.heap.size ≤ q → A q := fun q h => by rw [← hAe]; exact Or.inr h
  have hP : va_P (dC, dI) vwCl [] s.heap := hP
  have hl := lv_entry ([.ref ts1, .int p1]) (n := 2) (Nat.le_of_ble_eq_true rfl)
  rw [lg_entry_eq]
  generalize (lg_sl ([.ref ts1, .int p1]) ++ List.replicate (2 - (lg_sl ([.ref ts1, .int p1])).length) Slot.unset).toArray = ls at hl ⊢
  have hl : lv_has ls 2 [(0, .ref ts1), (1, .int p1)] := hl
  obtain ⟨H, hHe⟩ : ∃ H : Heap, s.heap = H := ⟨_, rfl⟩
  have hS : va_S A s.heap H [] := by rw [hHe]; exact va_S.rf
  have hP : va_P (dC, dI) vwCl [] H := by rw [← hHe]; exact hP
  rw [hHe]
  obtain ⟨RES, hR⟩ : ∃ z, fx_c_X0_placeIn_3 p1 = z := ⟨_, rfl⟩
  have hEX : RES = fx_c_X0_placeIn_3 p1 := hR.symm
  refine lv_iload_n hx hb dX0_placeIn_0 rfl (lv_at hl 1 rfl) ?_
  as_aux_lemma =>
  refine lv_if_ge (tgt := 8) hx hb dX0_placeIn_1 rfl (fun c_1 => ?_) (fun c_1 => ?_)
  · replace hEX := hEX.trans (if_pos c_1)
    refine lv_aload_n hx hb dX0_placeIn_8 rfl (lv_at hl 0 rfl) ?_
    refine lv_iload_n hx hb dX0_placeIn_9 rfl (lv_at hl 1 rfl) ?_
    refine lv_i2c hx hb dX0_placeIn_10 rfl ?_
    refine lv_topi (fun x_2 ex_2 => ?_)
    replace hEX := hEX.trans (exl_eq ex_2)
    have g_3 : RG x_2 0 65535 := RG_i2c ex_2
    obtain ⟨hPc, hDc, hFc, hqc⟩ := cl_cut (wc := []) hP hD hS hA [] (by decide +kernel) rfl
    have hKc := hK.sub (tys' := []) [] rfl
    have hrv := bv_Orecv hE_18 hS
    refine va_calli (va_runV (As := [.int x_2]) (rest := []) ⟨hx, hb, hml, hown, hts⟩ (c_J0_indexOf_0f7a4_1 l dC dI H.size ts1 x_2 tv1 g_3) (cwV 1 hts gf_c_X0_placeIn_3_c_J0_indexOf_0f7a4_1 rfl rfl rfl mdV_J0_indexOf_0f7a4 ⟨Nat.le_of_ble_eq_true rfl, Nat.le_of_ble_eq_true rfl⟩) ⟨fun a U g mk q => by obtain ⟨q0, q1, qP, qK, qD, qE0, qE1, qE2, qE3, qE4⟩ := q; exact ⟨q0, q1, qP, va_K.moved (u := U) (U := U.calling g mk a) (Vm.Alike.refl U.vm) qK, qD, va_Z.moved (u := U) (U := U.calling g mk a) (Vm.Alike.refl U.vm) qE0, va_OF.moved (u := U) (U := U.calling g mk a) (Vm.Alike.refl U.vm) qE1, va_O.moved (u := U) (U := U.calling g mk a) (Vm.Alike.refl U.vm) qE2, va_OF.moved (u := U) (U := U.calling g mk a) (Vm.Alike.refl U.vm) qE3, va_T.moved (u := U) (U := U.calling g mk a) (Vm.Alike.refl U.vm) qE4⟩, hrv, fun U hU hW => ⟨rfl, by rw [hU], by rw [hU]; exact hPc, va_K.moved hW.alike hKc, hDc.weaken (fun _ _ _ _ => trivial), va_Z.moved hW.alike (by rw [hU]; exact (hE_10.kept hS.2.1).narrow hFc), va_OF.moved hW.alike (by rw [hU]; exact (hE_19.kept hS.2.1).narrow hFc), va_O.moved hW.alike (by rw [hU]; exact (hE_18.kept hS.2.1).narrow hFc), va_OF.moved hW.alike (by rw [hU]; exact (hE_20.kept hS.2.1).narrow hFc), va_T.moved hW.alike (by rw [hU]; exact (hE_21.kept hS.2.1).narrow hFc)⟩⟩ rfl rfl hl.1 rfl (lv_room (Nat.le_of_ble_eq_true rfl)) dX0_placeIn_11 ⟨Nat.le_of_ble_eq_true rfl, Nat.le_of_ble_eq_true rfl⟩) hS (fun q _ h => hFc q h) hFc (fun r_4 u t H1 locs ht hvm hw hB hz1 hk1 hS => ?_)
    obtain ⟨hP1, hK1, hD1⟩ := hB
    rw [ht] at hP1
    have hP := bv_still hP hk1
    generalize H1 = H at hP hS ⊢
    as_aux_lemma =>
    rcases hw with ⟨h_5, h_6⟩ | ⟨h_7, h_8, h_9⟩
    · have h_6 : r_4 = _ := h_6
      replace hEX := hEX.trans (exc1_eq h_6)
      replace hEX := hEX.trans (if_pos (show r_4 = (-1) from h_5))
      rw [h_5]
      have hK9 := hK.sub (tys' := []) [] rfl
      exact W.iret (v := (-1)) hx hb hr (fun t ht hW => ⟨⟨(-1), (), rfl, (Or.inl ⟨rfl, (hR.trans hEX).symm⟩), by rw [ht]; exact hP, va_K.moved hW.alike hK9, hD⟩, hS.F ht⟩) hS.2.2 dX0_placeIn_14
    · have h_9 : r_4 = _ := h_9
      replace hEX := hEX.trans (exc1_eq h_9)
      replace hEX := hEX.trans (if_neg (RG_neq (x := r_4) (c := (-1)) (show RG r_4 0 3 from h_7) (by decide +kernel)))
      have hK9 := hK.sub (tys' := []) [] rfl
      exact W.iret (v := r_4) hx hb hr (fun t ht hW => ⟨⟨r_4, (), rfl, (Or.inr ⟨h_7, (hR.trans hEX).symm⟩), by rw [ht]; exact hP, va_K.moved hW.alike hK9, hD⟩, hS.F ht⟩) hS.2.2 dX0_placeIn_14
  · replace hEX := hEX.trans (if_neg c_1)
    have d_10 := Int32.not_le.mp c_1
    have g_11 : RG p1 0 (-1) := RG_lt1 g_p1 (RG_k 0 0 rfl) d_10 (by decide +kernel)
    exact RG_dead (RG_lt1 g_p1 (RG_k 0 0 rfl) d_10 (b' := (-1)) (by decide +kernel)) (by decide +kernel)
noncomputable def wd_c_X9_number (a0 : Nat) (a1 : Nat) (a2 : Int32) (a3 : Int32) (a4 : Int32) (a5 : Nat) (a6 : ClassId) (a7 : Nat → Int32) : va_W := [(a0, .inr (9, [.ref a1, .int a2, .int a3, .int a4])), (a5, .inl (a6, 240, .inl a7))]
noncomputable def wf_c_X9_number : List Cond := List.cons (.code yX9_number cX9_number 4 (some .int)) (@HAppend.hAppend (List Cond) (List Cond) (List Cond) _ [.fieldLink RX9 22 "BuoyVote$Tape" "at" "I", .fieldLink RX9 19 "BuoyVote$Tape" "length" "I", .fieldLink RX9 11 "BuoyVote$Tape" "bytes" "[I"] wsX90)
theorem iw_c_X9_number_X9 : ∀ w ∈ wsX90, w ∈ wf_c_X9_number := fun w h => List.mem_cons_of_mem _ (List.mem_append_right _ h)
set_option maxHeartbeats 4000000 in
set_option maxRecDepth 100000 in
theorem c_X9_number (l : Launch) (dC : Nat → ClassId) (dI : Nat → Nat → Nat) (sz : Nat) (h0 : Nat) (h0_0 : Nat) (h0_f1 : Int32) (h0_f2 : Int32) (h0_f3 : Int32) (h0_0k : ClassId) (h0_0c : Nat → Int32) (g_h0_f1 : RG h0_f1 0 240) (g_h0_f2 : RG h0_f2 0 240) (g_h0_f3 : RG h0_f3 (-1) 240) (a_h0_0c : AI h0_0c 0 255) : Met l yX9_number wf_c_X9_number ({ frames := 0, cells := 0, slots := 0, locals := 0 }) (va_Pc [.ref h0, .int 2] (fun U => U.heap.size = sz ∧ va_P (dC, dI) vwCl (wd_c_X9_number h0 h0_0 h0_f1 h0_f2 h0_f3 h0_0 h0_0k h0_0c) U.heap ∧ va_K (dC, dI) vwCl [(h0_0k, .int)] U ∧ va_D (fun _ => True) (wd_c_X9_number h0 h0_0 h0_f1 h0_f2 h0_f3 h0_0 h0_0k h0_0c))) (va_Qi (fun (r : Int32) (u : (Int32)) => (r = (-1) ∧ RG u 0 240 ∧ h0_f2.toInt + 0 ≤ (u).toInt ∧ (r, u) = fx_c_X9_number h0_f1 h0_f2 h0_0c) ∨ (RG r 0 99 ∧ RG u 1 240 ∧ RG h0_f1 1 240 ∧ RG h0_f2 0 239 ∧ h0_f2.toInt + 1 ≤ (u).toInt ∧ (r, u) = fx_c_X9_number h0_f1 h0_f2 h0_0c)) (fun (u : (Int32)) t => va_P (dC, dI) vwCl (wd_c_X9_number h0 h0_0 h0_f1 u h0_f3 h0_0 h0_0k h0_0c) t.heap ∧ va_K (dC, dI) vwCl [] t ∧ va_D (va_A (wd_c_X9_number h0 h0_0 h0_f1 h0_f2 h0_f3 h0_0 h0_0k h0_0c) sz) (wd_c_X9_number h0 h0_0 h0_f1 u h0_f3 h0_0 h0_0k h0_0c)) (va_A (wd_c_X9_number h0 h0_0 h0_f1 h0_f2 h0_f3 h0_0 h0_0k h0_0c) sz)) 0 0 (va_A (wd_c_X9_number h0 h0_0 h0_f1 h0_f2 h0_f3 h0_0 h0_0k h0_0c) sz) := by
  refine Met.ofW (cc := cX9_number) (maxL := 4) (ret := (some .int)) (by decide +kernel) rfl ?_
  intro p e s m args below meth c s₁ B hml hv
  obtain ⟨rfl, hsz, hP, hK, hD0⟩ := hv
  have hx := B.exec
  have hb := B.bytes
  have hr := B.returns
  have hts := atoms_spec (ws := wf_c_X9_number) B.pre
  have hown : s.vm.findClass RX9 = some m.cls := findClass_of_methodNamed B.named
  have hlocks := B.notSynchronized
  subst hsz
  have hD := hD0.self (sz := s.heap.size)
  generalize hAe : va_A (wd_c_X9_number h0 h0_0 h0_f1 h0_f2 h0_f3 h0_0 h0_0k h0_0c) s.heap.size = A at hD ⊢
  have hA : ∀ q : Nat, s.heap.size ≤ q → A q := fun q h => by rw [← hAe]; exact Or.inr h
  have hP : va_P (dC, dI) vwCl (wd_c_X9_number h0 h0_0 h0_f1 h0_f2 h0_f3 h0_0 h0_0k h0_0c) s.heap := hP
  have hl := lv_entry ([.ref h0, .int 2]) (n := 4) (Nat.le_of_ble_eq_true rfl)
  rw [lg_entry_eq]
  generalize (lg_sl ([.ref h0, .int 2]) ++ List.replicate (4 - (lg_sl ([.ref h0, .int 2])).length) Slot.unset).toArray = ls at hl ⊢
  have hl : lv_has ls 4 [(0, .ref h0), (1, .int 2)] := hl
  obtain ⟨H, hHe⟩ : ∃ H : Heap, s.heap = H := ⟨_, rfl⟩
  have hS : va_S A s.heap H [] := by rw [hHe]; exact va_S.rf
  have hP : va_P (dC, dI) vwCl (wd_c_X9_number h0 h0_0 h0_f1 h0_f2 h0_f3 h0_0 h0_0k h0_0c) H := by rw [← hHe]; exact hP
  rw [hHe]
  obtain ⟨RES, hR⟩ : ∃ z, fx_c_X9_number h0_f1 h0_f2 h0_0c = z := ⟨_, rfl⟩
  have hEX : RES = fx_c_X9_number h0_f1 h0_f2 h0_0c := hR.symm
  refine lv_iconst (v := (-1)) hx hb dX9_number_0 kc_iconst_m1 ?_
  as_aux_lemma =>
  refine lv_istore_n (lv' := [(2, .int (-1)), (0, .ref h0), (1, .int 2)]) hx hb dX9_number_1 rfl hl (Nat.le_of_ble_eq_true rfl) rfl (fun ls hl => ?_)
  refine lv_iconst (v := 0) hx hb dX9_number_2 kc_iconst_0 ?_
  refine lv_istore_n (lv' := [(3, .int 0), (2, .int (-1)), (0, .ref h0), (1, .int 2)]) hx hb dX9_number_3 rfl hl (Nat.le_of_ble_eq_true rfl) rfl (fun ls hl => ?_)
  refine lv_aload_n hx hb dX9_number_4 rfl (lv_at hl 2 rfl) ?_
  refine va_get (D := (dC, dI)) (ci := 9) (v := .int h0_f2) (C := RX9) (T := TX9) (N := 4) hx hb hts iw_c_X9_number_X9 hown hK hP 0 rfl rfl 2 (by decide +kernel) (hts (.fieldLink RX9 22 "BuoyVote$Tape" "at" "I") (List.mem_of_getElem? (i := 1) rfl)) (fun _ h9 => h9) rfl dX9_number_5 ?_
  refine lv_aload_n hx hb dX9_number_8 rfl (lv_at hl 2 rfl) ?_
  refine va_get (D := (dC, dI)) (ci := 9) (v := .int h0_f1) (C := RX9) (T := TX9) (N := 4) hx hb hts iw_c_X9_number_X9 hown hK hP 0 rfl rfl 1 (by decide +kernel) (hts (.fieldLink RX9 19 "BuoyVote$Tape" "length" "I") (List.mem_of_getElem? (i := 2) rfl)) (fun _ h9 => h9) rfl dX9_number_9 ?_
  refine lv_icmp_ge (tgt := 92) hx hb dX9_number_12 rfl (fun c_1 => ?_) (fun c_1 => ?_)
  · replace hEX := hEX.trans (if_pos c_1)
    refine lv_iload_n hx hb dX9_number_92 rfl (lv_at hl 1 rfl) ?_
    have hK9 := hK.sub (tys' := []) [] rfl
    exact W.iret (v := (-1)) hx hb hr (fun t ht hW => ⟨⟨(-1), h0_f2, rfl, (Or.inl ⟨rfl, g_h0_f2, (by show h0_f2.toInt + 0 ≤ h0_f2.toInt; omega), (hR.trans hEX).symm⟩), by rw [ht]; exact hP, va_K.moved hW.alike hK9, hD⟩, hS.F ht⟩) hS.2.2 dX9_number_93
  · replace hEX := hEX.trans (if_neg c_1)
    have d_2 := Int32.not_le.mp c_1
    have g_3 : RG h0_f2 0 239 := RG_lt1 g_h0_f2 g_h0_f1 d_2 (by decide +kernel)
    have g_4 : RG h0_f1 1 240 := RG_lt2 g_h0_f2 g_h0_f1 d_2 (by decide +kernel)
    refine lv_aload_n hx hb dX9_number_15 rfl (lv_at hl 2 rfl) ?_
    as_aux_lemma =>
    refine va_get (D := (dC, dI)) (ci := 9) (v := .ref h0_0) (C := RX9) (T := TX9) (N := 4) hx hb hts iw_c_X9_number_X9 hown hK hP 0 rfl rfl 0 (by decide +kernel) (hts (.fieldLink RX9 11 "BuoyVote$Tape" "bytes" "[I") (List.mem_of_getElem? (i := 3) rfl)) (fun _ h9 => h9) rfl dX9_number_16 ?_
    refine lv_aload_n hx hb dX9_number_19 rfl (lv_at hl 2 rfl) ?_
    refine va_get (D := (dC, dI)) (ci := 9) (v := .int h0_f2) (C := RX9) (T := TX9) (N := 4) hx hb hts iw_c_X9_number_X9 hown hK hP 0 rfl rfl 2 (by decide +kernel) (hts (.fieldLink RX9 22 "BuoyVote$Tape" "at" "I") (List.mem_of_getElem? (i := 1) rfl)) (fun _ h9 => h9) rfl dX9_number_20 ?_
    refine va_iald hx hb hK hP 1 0 rfl rfl (RG_in g_3 (by decide +kernel)) dX9_number_23 ?_
    refine lv_topi (fun x_5 ex_5 => ?_)
    replace hEX := hEX.trans (exl_eq ex_5)
    have g_6 : RG x_5 0 255 := AI_rd a_h0_0c ex_5
    refine lv_bipush (v := 48) hx hb dX9_number_24 kc_bipush_48 ?_
    refine lv_icmp_lt (tgt := 92) hx hb dX9_number_26 rfl (fun c_7 => ?_) (fun c_7 => ?_)
    · replace hEX := hEX.trans (if_pos c_7)
      have g_8 : RG x_5 0 47 := RG_lt1 g_6 (RG_k 48 48 rfl) c_7 (by decide +kernel)
      refine lv_iload_n hx hb dX9_number_92 rfl (lv_at hl 1 rfl) ?_
      have hK9 := hK.sub (tys' := []) [] rfl
      exact W.iret (v := (-1)) hx hb hr (fun t ht hW => ⟨⟨(-1), h0_f2, rfl, (Or.inl ⟨rfl, (RG_w g_3 (by decide +kernel)), (by show h0_f2.toInt + 0 ≤ h0_f2.toInt; omega), (hR.trans hEX).symm⟩), by rw [ht]; exact hP, va_K.moved hW.alike hK9, hD⟩, hS.F ht⟩) hS.2.2 dX9_number_93
    · replace hEX := hEX.trans (if_neg c_7)
      have d_9 := Int32.not_lt.mp c_7
      have g_10 : RG x_5 48 255 := RG_le2 (RG_k 48 48 rfl) g_6 d_9 (by decide +kernel)
      refine lv_aload_n hx hb dX9_number_29 rfl (lv_at hl 2 rfl) ?_
      as_aux_lemma =>
      refine va_get (D := (dC, dI)) (ci := 9) (v := .ref h0_0) (C := RX9) (T := TX9) (N := 4) hx hb hts iw_c_X9_number_X9 hown hK hP 0 rfl rfl 0 (by decide +kernel) (hts (.fieldLink RX9 11 "BuoyVote$Tape" "bytes" "[I") (List.mem_of_getElem? (i := 3) rfl)) (fun _ h9 => h9) rfl dX9_number_30 ?_
      refine lv_aload_n hx hb dX9_number_33 rfl (lv_at hl 2 rfl) ?_
      refine va_get (D := (dC, dI)) (ci := 9) (v := .int h0_f2) (C := RX9) (T := TX9) (N := 4) hx hb hts iw_c_X9_number_X9 hown hK hP 0 rfl rfl 2 (by decide +kernel) (hts (.fieldLink RX9 22 "BuoyVote$Tape" "at" "I") (List.mem_of_getElem? (i := 1) rfl)) (fun _ h9 => h9) rfl dX9_number_34 ?_
      refine va_iald hx hb hK hP 1 0 rfl rfl (RG_in g_3 (by decide +kernel)) dX9_number_37 ?_
      refine lv_topi (fun x_11 ex_11 => ?_)
      obtain rfl : x_5 = x_11 := (ex_11.trans ex_5.symm).symm
      refine lv_bipush (v := 57) hx hb dX9_number_38 kc_bipush_57 ?_
      refine lv_icmp_gt (tgt := 92) hx hb dX9_number_40 rfl (fun c_12 => ?_) (fun c_12 => ?_)
      · replace hEX := hEX.trans (if_pos c_12)
        have g_13 : RG x_5 58 255 := RG_lt2 (RG_k 57 57 rfl) g_10 c_12 (by decide +kernel)
        refine lv_iload_n hx hb dX9_number_92 rfl (lv_at hl 1 rfl) ?_
        have hK9 := hK.sub (tys' := []) [] rfl
        exact W.iret (v := (-1)) hx hb hr (fun t ht hW => ⟨⟨(-1), h0_f2, rfl, (Or.inl ⟨rfl, (RG_w g_3 (by decide +kernel)), (by show h0_f2.toInt + 0 ≤ h0_f2.toInt; omega), (hR.trans hEX).symm⟩), by rw [ht]; exact hP, va_K.moved hW.alike hK9, hD⟩, hS.F ht⟩) hS.2.2 dX9_number_93
      · replace hEX := hEX.trans (if_neg c_12)
        have d_14 := Int32.not_lt.mp c_12
        have g_15 : RG x_5 48 57 := RG_le1 g_10 (RG_k 57 57 rfl) d_14 (by decide +kernel)
        refine lv_iload_n hx hb dX9_number_43 rfl (lv_at hl 0 rfl) ?_
        as_aux_lemma =>
        refine lv_iload_n hx hb dX9_number_44 rfl (lv_at hl 3 rfl) ?_
        refine lv_icmp_lt (tgt := 50) hx hb dX9_number_45 rfl (fun c_16 => ?_) (fun c_16 => absurd c_16 (by decide +kernel))
        refine lv_iload_n hx hb dX9_number_50 rfl (lv_at hl 0 rfl) ?_
        refine lv_if_ne (tgt := 58) hx hb dX9_number_51 rfl (fun c_17 => absurd c_17 (by decide +kernel)) (fun c_17 => ?_)
        refine lv_iconst (v := 0) hx hb dX9_number_54 kc_iconst_0 ?_
        refine lv_goto (tgt := 62) hx hb dX9_number_55 rfl ?_
        refine lv_aload_n hx hb dX9_number_62 rfl (lv_at hl 2 rfl) ?_
        refine va_get (D := (dC, dI)) (ci := 9) (v := .ref h0_0) (C := RX9) (T := TX9) (N := 4) hx hb hts iw_c_X9_number_X9 hown hK hP 0 rfl rfl 0 (by decide +kernel) (hts (.fieldLink RX9 11 "BuoyVote$Tape" "bytes" "[I") (List.mem_of_getElem? (i := 3) rfl)) (fun _ h9 => h9) rfl dX9_number_63 ?_
        refine lv_aload_n hx hb dX9_number_66 rfl (lv_at hl 2 rfl) ?_
        refine va_get (D := (dC, dI)) (ci := 9) (v := .int h0_f2) (C := RX9) (T := TX9) (N := 4) hx hb hts iw_c_X9_number_X9 hown hK hP 0 rfl rfl 2 (by decide +kernel) (hts (.fieldLink RX9 22 "BuoyVote$Tape" "at" "I") (List.mem_of_getElem? (i := 1) rfl)) (fun _ h9 => h9) rfl dX9_number_67 ?_
        refine va_iald hx hb hK hP 1 0 rfl rfl (RG_in g_3 (by decide +kernel)) dX9_number_70 ?_
        refine lv_topi (fun x_18 ex_18 => ?_)
        obtain rfl : x_5 = x_18 := (ex_18.trans ex_5.symm).symm
        refine lv_iadd hx hb dX9_number_71 ?_
        as_aux_lemma =>
        refine lv_topi (fun x_19 ex_19 => ?_)
        replace hEX := hEX.trans (exl_eq ex_19)
        have g_20 : RG x_19 48 57 := RG_add ex_19 (RG_k 0 0 rfl) g_15 (by decide +kernel)
        refine lv_bipush (v := 48) hx hb dX9_number_72 kc_bipush_48 ?_
        refine lv_isub hx hb dX9_number_74 ?_
        refine lv_topi (fun x_21 ex_21 => ?_)
        replace hEX := hEX.trans (exl_eq ex_21)
        have g_22 : RG x_21 0 9 := RG_sub ex_21 g_20 (RG_k 48 48 rfl) (by decide +kernel)
        refine lv_istore_n (lv' := [(2, .int x_21), (3, .int 0), (0, .ref h0), (1, .int 2)]) hx hb dX9_number_75 rfl hl (Nat.le_of_ble_eq_true rfl) rfl (fun ls hl => ?_)
        refine lv_aload_n hx hb dX9_number_76 rfl (lv_at hl 2 rfl) ?_
        refine lv_dup hx hb dX9_number_77 rfl ?_
        refine va_get (D := (dC, dI)) (ci := 9) (v := .int h0_f2) (C := RX9) (T := TX9) (N := 4) hx hb hts iw_c_X9_number_X9 hown hK hP 0 rfl rfl 2 (by decide +kernel) (hts (.fieldLink RX9 22 "BuoyVote$Tape" "at" "I") (List.mem_of_getElem? (i := 1) rfl)) (fun _ h9 => h9) rfl dX9_number_78 ?_
        refine lv_iconst (v := 1) hx hb dX9_number_81 kc_iconst_1 ?_
        refine lv_iadd hx hb dX9_number_82 ?_
        as_aux_lemma =>
        refine lv_topi (fun x_23 ex_23 => ?_)
        replace hEX := hEX.trans (exl_eq ex_23)
        have g_24 : RG x_23 1 240 := RG_add ex_23 g_3 (RG_k 1 1 rfl) (by decide +kernel)
        have q_25 : x_23.toInt = h0_f2.toInt + 1 := eq_add ex_23 g_3 (q := 1) rfl (by decide +kernel)
        refine va_put (D := (dC, dI)) (ci := 9) (v := .int x_23) (ty := .int) (C := RX9) (T := TX9) (N := 4) hx hb hts iw_c_X9_number_X9 tyX9 tyX9_ok nmX9 hown hK hP hD hS 0 rfl rfl 2 (by decide +kernel) (hts (.fieldLink RX9 22 "BuoyVote$Tape" "at" "I") (List.mem_of_getElem? (i := 1) rfl)) (fun _ h9 => h9) rfl (by decide +kernel) rfl rfl (Nat.le_of_ble_eq_true rfl) dX9_number_83 (fun H locs hP hD hS => ?_)
        have hP : va_P (dC, dI) vwCl (wd_c_X9_number h0 h0_0 h0_f1 x_23 h0_f3 h0_0 h0_0k h0_0c) H := hP
        have hD : va_D A (wd_c_X9_number h0 h0_0 h0_f1 x_23 h0_f3 h0_0 h0_0k h0_0c) := hD
        refine lv_iinc (v := 1) (lv' := [(3, .int 1), (2, .int x_21), (0, .ref h0), (1, .int 2)]) hx hb dX9_number_86 hl (k := 1) rfl (by decide +kernel) (Nat.le_of_ble_eq_true rfl) rfl (fun ls hl => ?_)
        refine lv_goto (tgt := 4) hx hb dX9_number_89 rfl ?_
        refine lv_aload_n hx hb dX9_number_4 rfl (lv_at hl 2 rfl) ?_
        refine va_get (D := (dC, dI)) (ci := 9) (v := .int x_23) (C := RX9) (T := TX9) (N := 4) hx hb hts iw_c_X9_number_X9 hown hK hP 0 rfl rfl 2 (by decide +kernel) (hts (.fieldLink RX9 22 "BuoyVote$Tape" "at" "I") (List.mem_of_getElem? (i := 1) rfl)) (fun _ h9 => h9) rfl dX9_number_5 ?_
        refine lv_aload_n hx hb dX9_number_8 rfl (lv_at hl 2 rfl) ?_
        refine va_get (D := (dC, dI)) (ci := 9) (v := .int h0_f1) (C := RX9) (T := TX9) (N := 4) hx hb hts iw_c_X9_number_X9 hown hK hP 0 rfl rfl 1 (by decide +kernel) (hts (.fieldLink RX9 19 "BuoyVote$Tape" "length" "I") (List.mem_of_getElem? (i := 2) rfl)) (fun _ h9 => h9) rfl dX9_number_9 ?_
        refine lv_icmp_ge (tgt := 92) hx hb dX9_number_12 rfl (fun c_26 => ?_) (fun c_26 => ?_)
        · replace hEX := hEX.trans (if_pos c_26)
          refine lv_iload_n hx hb dX9_number_92 rfl (lv_at hl 1 rfl) ?_
          as_aux_lemma =>
          have hK9 := hK.sub (tys' := []) [] rfl
          exact W.iret (v := x_21) hx hb hr (fun t ht hW => ⟨⟨x_21, x_23, rfl, (Or.inr ⟨(RG_w g_22 (by decide +kernel)), g_24, g_4, g_3, (by have := q_25; show h0_f2.toInt + 1 ≤ x_23.toInt; omega), (hR.trans hEX).symm⟩), by rw [ht]; exact hP, va_K.moved hW.alike hK9, hD⟩, hS.F ht⟩) hS.2.2 dX9_number_93
        · replace hEX := hEX.trans (if_neg c_26)
          have d_27 := Int32.not_le.mp c_26
          have g_28 : RG x_23 1 239 := RG_lt1 g_24 g_4 d_27 (by decide +kernel)
          have g_29 : RG h0_f2 0 238 := RG_addb ex_23 (q := 1) rfl g_3 g_28 (by decide +kernel)
          have g_30 : RG h0_f1 2 240 := RG_lt2 g_24 g_4 d_27 (by decide +kernel)
          refine lv_aload_n hx hb dX9_number_15 rfl (lv_at hl 2 rfl) ?_
          refine va_get (D := (dC, dI)) (ci := 9) (v := .ref h0_0) (C := RX9) (T := TX9) (N := 4) hx hb hts iw_c_X9_number_X9 hown hK hP 0 rfl rfl 0 (by decide +kernel) (hts (.fieldLink RX9 11 "BuoyVote$Tape" "bytes" "[I") (List.mem_of_getElem? (i := 3) rfl)) (fun _ h9 => h9) rfl dX9_number_16 ?_
          refine lv_aload_n hx hb dX9_number_19 rfl (lv_at hl 2 rfl) ?_
          refine va_get (D := (dC, dI)) (ci := 9) (v := .int x_23) (C := RX9) (T := TX9) (N := 4) hx hb hts iw_c_X9_number_X9 hown hK hP 0 rfl rfl 2 (by decide +kernel) (hts (.fieldLink RX9 22 "BuoyVote$Tape" "at" "I") (List.mem_of_getElem? (i := 1) rfl)) (fun _ h9 => h9) rfl dX9_number_20 ?_
          refine va_iald hx hb hK hP 1 0 rfl rfl (RG_in g_28 (by decide +kernel)) dX9_number_23 ?_
          refine lv_topi (fun x_31 ex_31 => ?_)
          replace hEX := hEX.trans (exl_eq ex_31)
          have g_32 : RG x_31 0 255 := AI_rd a_h0_0c ex_31
          refine lv_bipush (v := 48) hx hb dX9_number_24 kc_bipush_48 ?_
          as_aux_lemma =>
          refine lv_icmp_lt (tgt := 92) hx hb dX9_number_26 rfl (fun c_33 => ?_) (fun c_33 => ?_)
          · replace hEX := hEX.trans (if_pos c_33)
            have g_34 : RG x_31 0 47 := RG_lt1 g_32 (RG_k 48 48 rfl) c_33 (by decide +kernel)
            refine lv_iload_n hx hb dX9_number_92 rfl (lv_at hl 1 rfl) ?_
            have hK9 := hK.sub (tys' := []) [] rfl
            exact W.iret (v := x_21) hx hb hr (fun t ht hW => ⟨⟨x_21, x_23, rfl, (Or.inr ⟨(RG_w g_22 (by decide +kernel)), (RG_w g_28 (by decide +kernel)), (RG_w g_30 (by decide +kernel)), (RG_w g_29 (by decide +kernel)), (by have := q_25; show h0_f2.toInt + 1 ≤ x_23.toInt; omega), (hR.trans hEX).symm⟩), by rw [ht]; exact hP, va_K.moved hW.alike hK9, hD⟩, hS.F ht⟩) hS.2.2 dX9_number_93
          · replace hEX := hEX.trans (if_neg c_33)
            have d_35 := Int32.not_lt.mp c_33
            have g_36 : RG x_31 48 255 := RG_le2 (RG_k 48 48 rfl) g_32 d_35 (by decide +kernel)
            refine lv_aload_n hx hb dX9_number_29 rfl (lv_at hl 2 rfl) ?_
            refine va_get (D := (dC, dI)) (ci := 9) (v := .ref h0_0) (C := RX9) (T := TX9) (N := 4) hx hb hts iw_c_X9_number_X9 hown hK hP 0 rfl rfl 0 (by decide +kernel) (hts (.fieldLink RX9 11 "BuoyVote$Tape" "bytes" "[I") (List.mem_of_getElem? (i := 3) rfl)) (fun _ h9 => h9) rfl dX9_number_30 ?_
            refine lv_aload_n hx hb dX9_number_33 rfl (lv_at hl 2 rfl) ?_
            refine va_get (D := (dC, dI)) (ci := 9) (v := .int x_23) (C := RX9) (T := TX9) (N := 4) hx hb hts iw_c_X9_number_X9 hown hK hP 0 rfl rfl 2 (by decide +kernel) (hts (.fieldLink RX9 22 "BuoyVote$Tape" "at" "I") (List.mem_of_getElem? (i := 1) rfl)) (fun _ h9 => h9) rfl dX9_number_34 ?_
            refine va_iald hx hb hK hP 1 0 rfl rfl (RG_in g_28 (by decide +kernel)) dX9_number_37 ?_
            as_aux_lemma =>
            refine lv_topi (fun x_37 ex_37 => ?_)
            obtain rfl : x_31 = x_37 := (ex_37.trans ex_31.symm).symm
            refine lv_bipush (v := 57) hx hb dX9_number_38 kc_bipush_57 ?_
            refine lv_icmp_gt (tgt := 92) hx hb dX9_number_40 rfl (fun c_38 => ?_) (fun c_38 => ?_)
            · replace hEX := hEX.trans (if_pos c_38)
              have g_39 : RG x_31 58 255 := RG_lt2 (RG_k 57 57 rfl) g_36 c_38 (by decide +kernel)
              refine lv_iload_n hx hb dX9_number_92 rfl (lv_at hl 1 rfl) ?_
              have hK9 := hK.sub (tys' := []) [] rfl
              exact W.iret (v := x_21) hx hb hr (fun t ht hW => ⟨⟨x_21, x_23, rfl, (Or.inr ⟨(RG_w g_22 (by decide +kernel)), (RG_w g_28 (by decide +kernel)), (RG_w g_30 (by decide +kernel)), (RG_w g_29 (by decide +kernel)), (by have := q_25; show h0_f2.toInt + 1 ≤ x_23.toInt; omega), (hR.trans hEX).symm⟩), by rw [ht]; exact hP, va_K.moved hW.alike hK9, hD⟩, hS.F ht⟩) hS.2.2 dX9_number_93
            · replace hEX := hEX.trans (if_neg c_38)
              have d_40 := Int32.not_lt.mp c_38
              have g_41 : RG x_31 48 57 := RG_le1 g_36 (RG_k 57 57 rfl) d_40 (by decide +kernel)
              refine lv_iload_n hx hb dX9_number_43 rfl (lv_at hl 0 rfl) ?_
              refine lv_iload_n hx hb dX9_number_44 rfl (lv_at hl 3 rfl) ?_
              as_aux_lemma =>
              refine lv_icmp_lt (tgt := 50) hx hb dX9_number_45 rfl (fun c_42 => ?_) (fun c_42 => absurd c_42 (by decide +kernel))
              refine lv_iload_n hx hb dX9_number_50 rfl (lv_at hl 0 rfl) ?_
              refine lv_if_ne (tgt := 58) hx hb dX9_number_51 rfl (fun c_43 => ?_) (fun c_43 => absurd c_43 (by decide +kernel))
              refine lv_iload_n hx hb dX9_number_58 rfl (lv_at hl 1 rfl) ?_
              refine lv_bipush (v := 10) hx hb dX9_number_59 kc_bipush_10 ?_
              refine lv_imul hx hb dX9_number_61 ?_
              refine lv_topi (fun x_44 ex_44 => ?_)
              replace hEX := hEX.trans (exl_eq ex_44)
              have g_45 : RG x_44 0 90 := RG_mulc ex_44 (q := 10) rfl g_22 (by decide +kernel)
              refine lv_aload_n hx hb dX9_number_62 rfl (lv_at hl 2 rfl) ?_
              refine va_get (D := (dC, dI)) (ci := 9) (v := .ref h0_0) (C := RX9) (T := TX9) (N := 4) hx hb hts iw_c_X9_number_X9 hown hK hP 0 rfl rfl 0 (by decide +kernel) (hts (.fieldLink RX9 11 "BuoyVote$Tape" "bytes" "[I") (List.mem_of_getElem? (i := 3) rfl)) (fun _ h9 => h9) rfl dX9_number_63 ?_
              refine lv_aload_n hx hb dX9_number_66 rfl (lv_at hl 2 rfl) ?_
              refine va_get (D := (dC, dI)) (ci := 9) (v := .int x_23) (C := RX9) (T := TX9) (N := 4) hx hb hts iw_c_X9_number_X9 hown hK hP 0 rfl rfl 2 (by decide +kernel) (hts (.fieldLink RX9 22 "BuoyVote$Tape" "at" "I") (List.mem_of_getElem? (i := 1) rfl)) (fun _ h9 => h9) rfl dX9_number_67 ?_
              refine va_iald hx hb hK hP 1 0 rfl rfl (RG_in g_28 (by decide +kernel)) dX9_number_70 ?_
              as_aux_lemma =>
              refine lv_topi (fun x_46 ex_46 => ?_)
              obtain rfl : x_31 = x_46 := (ex_46.trans ex_31.symm).symm
              refine lv_iadd hx hb dX9_number_71 ?_
              refine lv_topi (fun x_47 ex_47 => ?_)
              replace hEX := hEX.trans (exl_eq ex_47)
              have g_48 : RG x_47 48 147 := RG_add ex_47 g_45 g_41 (by decide +kernel)
              refine lv_bipush (v := 48) hx hb dX9_number_72 kc_bipush_48 ?_
              refine lv_isub hx hb dX9_number_74 ?_
              refine lv_topi (fun x_49 ex_49 => ?_)
              replace hEX := hEX.trans (exl_eq ex_49)
              have g_50 : RG x_49 0 99 := RG_sub ex_49 g_48 (RG_k 48 48 rfl) (by decide +kernel)
              refine lv_istore_n (lv' := [(2, .int x_49), (3, .int 1), (0, .ref h0), (1, .int 2)]) hx hb dX9_number_75 rfl hl (Nat.le_of_ble_eq_true rfl) rfl (fun ls hl => ?_)
              refine lv_aload_n hx hb dX9_number_76 rfl (lv_at hl 2 rfl) ?_
              refine lv_dup hx hb dX9_number_77 rfl ?_
              as_aux_lemma =>
              refine va_get (D := (dC, dI)) (ci := 9) (v := .int x_23) (C := RX9) (T := TX9) (N := 4) hx hb hts iw_c_X9_number_X9 hown hK hP 0 rfl rfl 2 (by decide +kernel) (hts (.fieldLink RX9 22 "BuoyVote$Tape" "at" "I") (List.mem_of_getElem? (i := 1) rfl)) (fun _ h9 => h9) rfl dX9_number_78 ?_
              refine lv_iconst (v := 1) hx hb dX9_number_81 kc_iconst_1 ?_
              refine lv_iadd hx hb dX9_number_82 ?_
              refine lv_topi (fun x_51 ex_51 => ?_)
              replace hEX := hEX.trans (exl_eq ex_51)
              have g_52 : RG x_51 2 240 := RG_add ex_51 g_28 (RG_k 1 1 rfl) (by decide +kernel)
              have q_53 : x_51.toInt = x_23.toInt + 1 := eq_add ex_51 g_28 (q := 1) rfl (by decide +kernel)
              refine va_put (D := (dC, dI)) (ci := 9) (v := .int x_51) (ty := .int) (C := RX9) (T := TX9) (N := 4) hx hb hts iw_c_X9_number_X9 tyX9 tyX9_ok nmX9 hown hK hP hD hS 0 rfl rfl 2 (by decide +kernel) (hts (.fieldLink RX9 22 "BuoyVote$Tape" "at" "I") (List.mem_of_getElem? (i := 1) rfl)) (fun _ h9 => h9) rfl (by decide +kernel) rfl rfl (Nat.le_of_ble_eq_true rfl) dX9_number_83 (fun H locs hP hD hS => ?_)
              have hP : va_P (dC, dI) vwCl (wd_c_X9_number h0 h0_0 h0_f1 x_51 h0_f3 h0_0 h0_0k h0_0c) H := hP
              have hD : va_D A (wd_c_X9_number h0 h0_0 h0_f1 x_51 h0_f3 h0_0 h0_0k h0_0c) := hD
              refine lv_iinc (v := 2) (lv' := [(3, .int 2), (2, .int x_49), (0, .ref h0), (1, .int 2)]) hx hb dX9_number_86 hl (k := 1) rfl (by decide +kernel) (Nat.le_of_ble_eq_true rfl) rfl (fun ls hl => ?_)
              refine lv_goto (tgt := 4) hx hb dX9_number_89 rfl ?_
              refine lv_aload_n hx hb dX9_number_4 rfl (lv_at hl 2 rfl) ?_
              refine va_get (D := (dC, dI)) (ci := 9) (v := .int x_51) (C := RX9) (T := TX9) (N := 4) hx hb hts iw_c_X9_number_X9 hown hK hP 0 rfl rfl 2 (by decide +kernel) (hts (.fieldLink RX9 22 "BuoyVote$Tape" "at" "I") (List.mem_of_getElem? (i := 1) rfl)) (fun _ h9 => h9) rfl dX9_number_5 ?_
              as_aux_lemma =>
              refine lv_aload_n hx hb dX9_number_8 rfl (lv_at hl 2 rfl) ?_
              refine va_get (D := (dC, dI)) (ci := 9) (v := .int h0_f1) (C := RX9) (T := TX9) (N := 4) hx hb hts iw_c_X9_number_X9 hown hK hP 0 rfl rfl 1 (by decide +kernel) (hts (.fieldLink RX9 19 "BuoyVote$Tape" "length" "I") (List.mem_of_getElem? (i := 2) rfl)) (fun _ h9 => h9) rfl dX9_number_9 ?_
              refine lv_icmp_ge (tgt := 92) hx hb dX9_number_12 rfl (fun c_54 => ?_) (fun c_54 => ?_)
              · replace hEX := hEX.trans (if_pos c_54)
                refine lv_iload_n hx hb dX9_number_92 rfl (lv_at hl 1 rfl) ?_
                have hK9 := hK.sub (tys' := []) [] rfl
                exact W.iret (v := x_49) hx hb hr (fun t ht hW => ⟨⟨x_49, x_51, rfl, (Or.inr ⟨g_50, (RG_w g_52 (by decide +kernel)), (RG_w g_30 (by decide +kernel)), (RG_w g_29 (by decide +kernel)), (by have := q_25; have := q_53; show h0_f2.toInt + 1 ≤ x_51.toInt; omega), (hR.trans hEX).symm⟩), by rw [ht]; exact hP, va_K.moved hW.alike hK9, hD⟩, hS.F ht⟩) hS.2.2 dX9_number_93
              · replace hEX := hEX.trans (if_neg c_54)
                have d_55 := Int32.not_le.mp c_54
                have g_56 : RG x_51 2 239 := RG_lt1 g_52 g_30 d_55 (by decide +kernel)
                have g_57 : RG x_23 1 238 := RG_addb ex_51 (q := 1) rfl g_28 g_56 (by decide +kernel)
                have g_58 : RG h0_f2 0 237 := RG_addb ex_23 (q := 1) rfl g_29 g_57 (by decide +kernel)
                have g_59 : RG h0_f1 3 240 := RG_lt2 g_52 g_30 d_55 (by decide +kernel)
                refine lv_aload_n hx hb dX9_number_15 rfl (lv_at hl 2 rfl) ?_
                as_aux_lemma =>
                refine va_get (D := (dC, dI)) (ci := 9) (v := .ref h0_0) (C := RX9) (T := TX9) (N := 4) hx hb hts iw_c_X9_number_X9 hown hK hP 0 rfl rfl 0 (by decide +kernel) (hts (.fieldLink RX9 11 "BuoyVote$Tape" "bytes" "[I") (List.mem_of_getElem? (i := 3) rfl)) (fun _ h9 => h9) rfl dX9_number_16 ?_
                refine lv_aload_n hx hb dX9_number_19 rfl (lv_at hl 2 rfl) ?_
                refine va_get (D := (dC, dI)) (ci := 9) (v := .int x_51) (C := RX9) (T := TX9) (N := 4) hx hb hts iw_c_X9_number_X9 hown hK hP 0 rfl rfl 2 (by decide +kernel) (hts (.fieldLink RX9 22 "BuoyVote$Tape" "at" "I") (List.mem_of_getElem? (i := 1) rfl)) (fun _ h9 => h9) rfl dX9_number_20 ?_
                refine va_iald hx hb hK hP 1 0 rfl rfl (RG_in g_56 (by decide +kernel)) dX9_number_23 ?_
                refine lv_topi (fun x_60 ex_60 => ?_)
                replace hEX := hEX.trans (exl_eq ex_60)
                have g_61 : RG x_60 0 255 := AI_rd a_h0_0c ex_60
                refine lv_bipush (v := 48) hx hb dX9_number_24 kc_bipush_48 ?_
                refine lv_icmp_lt (tgt := 92) hx hb dX9_number_26 rfl (fun c_62 => ?_) (fun c_62 => ?_)
                · replace hEX := hEX.trans (if_pos c_62)
                  have g_63 : RG x_60 0 47 := RG_lt1 g_61 (RG_k 48 48 rfl) c_62 (by decide +kernel)
                  refine lv_iload_n hx hb dX9_number_92 rfl (lv_at hl 1 rfl) ?_
                  have hK9 := hK.sub (tys' := []) [] rfl
                  exact W.iret (v := x_49) hx hb hr (fun t ht hW => ⟨⟨x_49, x_51, rfl, (Or.inr ⟨g_50, (RG_w g_56 (by decide +kernel)), (RG_w g_59 (by decide +kernel)), (RG_w g_58 (by decide +kernel)), (by have := q_25; have := q_53; show h0_f2.toInt + 1 ≤ x_51.toInt; omega), (hR.trans hEX).symm⟩), by rw [ht]; exact hP, va_K.moved hW.alike hK9, hD⟩, hS.F ht⟩) hS.2.2 dX9_number_93
                · replace hEX := hEX.trans (if_neg c_62)
                  have d_64 := Int32.not_lt.mp c_62
                  have g_65 : RG x_60 48 255 := RG_le2 (RG_k 48 48 rfl) g_61 d_64 (by decide +kernel)
                  refine lv_aload_n hx hb dX9_number_29 rfl (lv_at hl 2 rfl) ?_
                  as_aux_lemma =>
                  refine va_get (D := (dC, dI)) (ci := 9) (v := .ref h0_0) (C := RX9) (T := TX9) (N := 4) hx hb hts iw_c_X9_number_X9 hown hK hP 0 rfl rfl 0 (by decide +kernel) (hts (.fieldLink RX9 11 "BuoyVote$Tape" "bytes" "[I") (List.mem_of_getElem? (i := 3) rfl)) (fun _ h9 => h9) rfl dX9_number_30 ?_
                  refine lv_aload_n hx hb dX9_number_33 rfl (lv_at hl 2 rfl) ?_
                  refine va_get (D := (dC, dI)) (ci := 9) (v := .int x_51) (C := RX9) (T := TX9) (N := 4) hx hb hts iw_c_X9_number_X9 hown hK hP 0 rfl rfl 2 (by decide +kernel) (hts (.fieldLink RX9 22 "BuoyVote$Tape" "at" "I") (List.mem_of_getElem? (i := 1) rfl)) (fun _ h9 => h9) rfl dX9_number_34 ?_
                  refine va_iald hx hb hK hP 1 0 rfl rfl (RG_in g_56 (by decide +kernel)) dX9_number_37 ?_
                  refine lv_topi (fun x_66 ex_66 => ?_)
                  obtain rfl : x_60 = x_66 := (ex_66.trans ex_60.symm).symm
                  refine lv_bipush (v := 57) hx hb dX9_number_38 kc_bipush_57 ?_
                  refine lv_icmp_gt (tgt := 92) hx hb dX9_number_40 rfl (fun c_67 => ?_) (fun c_67 => ?_)
                  · replace hEX := hEX.trans (if_pos c_67)
                    have g_68 : RG x_60 58 255 := RG_lt2 (RG_k 57 57 rfl) g_65 c_67 (by decide +kernel)
                    refine lv_iload_n hx hb dX9_number_92 rfl (lv_at hl 1 rfl) ?_
                    have hK9 := hK.sub (tys' := []) [] rfl
                    exact W.iret (v := x_49) hx hb hr (fun t ht hW => ⟨⟨x_49, x_51, rfl, (Or.inr ⟨g_50, (RG_w g_56 (by decide +kernel)), (RG_w g_59 (by decide +kernel)), (RG_w g_58 (by decide +kernel)), (by have := q_25; have := q_53; show h0_f2.toInt + 1 ≤ x_51.toInt; omega), (hR.trans hEX).symm⟩), by rw [ht]; exact hP, va_K.moved hW.alike hK9, hD⟩, hS.F ht⟩) hS.2.2 dX9_number_93
                  · replace hEX := hEX.trans (if_neg c_67)
                    have d_69 := Int32.not_lt.mp c_67
                    have g_70 : RG x_60 48 57 := RG_le1 g_65 (RG_k 57 57 rfl) d_69 (by decide +kernel)
                    refine lv_iload_n hx hb dX9_number_43 rfl (lv_at hl 0 rfl) ?_
                    as_aux_lemma =>
                    refine lv_iload_n hx hb dX9_number_44 rfl (lv_at hl 3 rfl) ?_
                    refine lv_icmp_lt (tgt := 50) hx hb dX9_number_45 rfl (fun c_71 => absurd c_71 (by decide +kernel)) (fun c_71 => ?_)
                    refine lv_iconst (v := (-1)) hx hb dX9_number_48 kc_iconst_m1 ?_
                    have hK9 := hK.sub (tys' := []) [] rfl
                    exact W.iret (v := (-1)) hx hb hr (fun t ht hW => ⟨⟨(-1), x_51, rfl, (Or.inl ⟨rfl, (RG_w g_56 (by decide +kernel)), (by have := q_25; have := q_53; show h0_f2.toInt + 0 ≤ x_51.toInt; omega), (hR.trans hEX).symm⟩), by rw [ht]; exact hP, va_K.moved hW.alike hK9, hD⟩, hS.F ht⟩) hS.2.2 dX9_number_49
noncomputable def wd_c_X9_refuse_1 (a0 : Nat) (a1 : Nat) (a2 : Int32) (a3 : Int32) (a4 : Int32) : va_W := [(a0, .inr (9, [.ref a1, .int a2, .int a3, .int a4]))]
noncomputable def wf_c_X9_refuse_1 : List Cond := List.cons (.code yX9_refuse cX9_refuse 2 none) (@HAppend.hAppend (List Cond) (List Cond) (List Cond) _ [.fieldLink RX9 15 "BuoyVote$Tape" "wrong" "I"] wsX90)
theorem iw_c_X9_refuse_1_X9 : ∀ w ∈ wsX90, w ∈ wf_c_X9_refuse_1 := fun w h => List.mem_cons_of_mem _ (List.mem_append_right _ h)
set_option maxHeartbeats 4000000 in
set_option maxRecDepth 100000 in
theorem c_X9_refuse_1 (l : Launch) (dC : Nat → ClassId) (dI : Nat → Nat → Nat) (sz : Nat) (h0 : Nat) (p1 : Int32) (h0_0 : Nat) (h0_f1 : Int32) (h0_f2 : Int32) (h0_f3 : Int32) (g_p1 : RG p1 0 239) (g_h0_f1 : RG h0_f1 0 240) (g_h0_f2 : RG h0_f2 0 240) (g_h0_f3 : RG h0_f3 (-1) 240) : Met l yX9_refuse wf_c_X9_refuse_1 ({ frames := 0, cells := 0, slots := 0, locals := 0 }) (va_Pc [.ref h0, .int p1] (fun U => U.heap.size = sz ∧ va_P (dC, dI) vwCl (wd_c_X9_refuse_1 h0 h0_0 h0_f1 h0_f2 h0_f3) U.heap ∧ va_K (dC, dI) vwCl [] U ∧ va_D (fun _ => True) (wd_c_X9_refuse_1 h0 h0_0 h0_f1 h0_f2 h0_f3))) (va_Qv (fun (u : (Int32)) => (RG u 0 240 ∧ u = fx_c_X9_refuse_1 p1 h0_f3)) (fun (u : (Int32)) t => va_P (dC, dI) vwCl (wd_c_X9_refuse_1 h0 h0_0 h0_f1 h0_f2 u) t.heap ∧ va_K (dC, dI) vwCl [] t ∧ va_D (va_A (wd_c_X9_refuse_1 h0 h0_0 h0_f1 h0_f2 h0_f3) sz) (wd_c_X9_refuse_1 h0 h0_0 h0_f1 h0_f2 u)) (va_A (wd_c_X9_refuse_1 h0 h0_0 h0_f1 h0_f2 h0_f3) sz)) 0 0 (va_A (wd_c_X9_refuse_1 h0 h0_0 h0_f1 h0_f2 h0_f3) sz) := by
  refine Met.ofW (cc := cX9_refuse) (maxL := 2) (ret := none) (by decide +kernel) rfl ?_
  intro p e s m args below meth c s₁ B hml hv
  obtain ⟨rfl, hsz, hP, hK, hD0⟩ := hv
  have hx := B.exec
  have hb := B.bytes
  have hr := B.returns
  have hts := atoms_spec (ws := wf_c_X9_refuse_1) B.pre
  have hown : s.vm.findClass RX9 = some m.cls := findClass_of_methodNamed B.named
  have hlocks := B.notSynchronized
  subst hsz
  have hD := hD0.self (sz := s.heap.size)
  generalize hAe : va_A (wd_c_X9_refuse_1 h0 h0_0 h0_f1 h0_f2 h0_f3) s.heap.size = A at hD ⊢
  have hA : ∀ q : Nat, s.heap.size ≤ q → A q := fun q h => by rw [← hAe]; exact Or.inr h
  have hP : va_P (dC, dI) vwCl (wd_c_X9_refuse_1 h0 h0_0 h0_f1 h0_f2 h0_f3) s.heap := hP
  have hl := lv_entry ([.ref h0, .int p1]) (n := 2) (Nat.le_of_ble_eq_true rfl)
  rw [lg_entry_eq]
  generalize (lg_sl ([.ref h0, .int p1]) ++ List.replicate (2 - (lg_sl ([.ref h0, .int p1])).length) Slot.unset).toArray = ls at hl ⊢
  have hl : lv_has ls 2 [(0, .ref h0), (1, .int p1)] := hl
  obtain ⟨H, hHe⟩ : ∃ H : Heap, s.heap = H := ⟨_, rfl⟩
  have hS : va_S A s.heap H [] := by rw [hHe]; exact va_S.rf
  have hP : va_P (dC, dI) vwCl (wd_c_X9_refuse_1 h0 h0_0 h0_f1 h0_f2 h0_f3) H := by rw [← hHe]; exact hP
  rw [hHe]
  obtain ⟨RES, hR⟩ : ∃ z, fx_c_X9_refuse_1 p1 h0_f3 = z := ⟨_, rfl⟩
  have hEX : RES = fx_c_X9_refuse_1 p1 h0_f3 := hR.symm
  refine lv_aload_n hx hb dX9_refuse_0 rfl (lv_at hl 0 rfl) ?_
  as_aux_lemma =>
  refine va_get (D := (dC, dI)) (ci := 9) (v := .int h0_f3) (C := RX9) (T := TX9) (N := 4) hx hb hts iw_c_X9_refuse_1_X9 hown hK hP 0 rfl rfl 3 (by decide +kernel) (hts (.fieldLink RX9 15 "BuoyVote$Tape" "wrong" "I") (List.mem_of_getElem? (i := 1) rfl)) (fun _ h9 => h9) rfl dX9_refuse_1 ?_
  refine lv_iconst (v := (-1)) hx hb dX9_refuse_4 kc_iconst_m1 ?_
  refine lv_icmp_ne (tgt := 13) hx hb dX9_refuse_5 rfl (fun c_1 => ?_) (fun c_1 => ?_)
  · replace hEX := hEX.trans (if_neg c_1)
    have g_2 : RG h0_f3 0 240 := RG_ne1 g_h0_f3 (q := (-1)) rfl c_1 (by decide +kernel)
    have hK9 := hK.sub (tys' := []) [] rfl
    exact W.vret hx hb hr (fun t ht hW => ⟨⟨h0_f3, rfl, ⟨g_2, (hR.trans hEX).symm⟩, by rw [ht]; exact hP, va_K.moved hW.alike hK9, hD⟩, hS.F ht⟩) hS.2.2 dX9_refuse_13
  · replace hEX := hEX.trans (if_pos c_1)
    have g_3 : RG h0_f3 (-1) (-1) := RG_eq1 g_h0_f3 (RG_k (-1) (-1) rfl) c_1 (by decide +kernel)
    refine lv_aload_n hx hb dX9_refuse_8 rfl (lv_at hl 0 rfl) ?_
    refine lv_iload_n hx hb dX9_refuse_9 rfl (lv_at hl 1 rfl) ?_
    refine va_put (D := (dC, dI)) (ci := 9) (v := .int p1) (ty := .int) (C := RX9) (T := TX9) (N := 4) hx hb hts iw_c_X9_refuse_1_X9 tyX9 tyX9_ok nmX9 hown hK hP hD hS 0 rfl rfl 3 (by decide +kernel) (hts (.fieldLink RX9 15 "BuoyVote$Tape" "wrong" "I") (List.mem_of_getElem? (i := 1) rfl)) (fun _ h9 => h9) rfl (by decide +kernel) rfl rfl (Nat.le_of_ble_eq_true rfl) dX9_refuse_10 (fun H locs hP hD hS => ?_)
    have hP : va_P (dC, dI) vwCl (wd_c_X9_refuse_1 h0 h0_0 h0_f1 h0_f2 p1) H := hP
    have hD : va_D A (wd_c_X9_refuse_1 h0 h0_0 h0_f1 h0_f2 p1) := hD
    have hK9 := hK.sub (tys' := []) [] rfl
    exact W.vret hx hb hr (fun t ht hW => ⟨⟨p1, rfl, ⟨(RG_w g_p1 (by decide +kernel)), (hR.trans hEX).symm⟩, by rw [ht]; exact hP, va_K.moved hW.alike hK9, hD⟩, hS.F ht⟩) hS.2.2 dX9_refuse_13
noncomputable def wd_c_X9_numberWithin (a0 : Nat) (a1 : Nat) (a2 : Int32) (a3 : Int32) (a4 : Int32) (a5 : Nat) (a6 : ClassId) (a7 : Nat → Int32) : va_W := [(a0, .inr (9, [.ref a1, .int a2, .int a3, .int a4])), (a5, .inl (a6, 240, .inl a7))]
noncomputable def wf_c_X9_numberWithin : List Cond := List.cons (.code yX9_numberWithin cX9_numberWithin 4 (some .int)) (@HAppend.hAppend (List Cond) (List Cond) (List Cond) _ [.methodLink RX9 29 yX9_peek, .instanceMethod yX9_peek, .selects RX9 yX9_peek yX9_peek, .initialized RX9, .code yX9_peek cX9_peek 1 (some .int), .fieldLink RX9 22 "BuoyVote$Tape" "at" "I", .fieldLink RX9 19 "BuoyVote$Tape" "length" "I", .fieldLink RX9 11 "BuoyVote$Tape" "bytes" "[I", .methodLink RX9 33 yX9_number, .instanceMethod yX9_number, .selects RX9 yX9_number yX9_number, .code yX9_number cX9_number 4 (some .int), .methodLink RX9 25 yX9_refuse, .instanceMethod yX9_refuse, .selects RX9 yX9_refuse yX9_refuse, .code yX9_refuse cX9_refuse 2 none, .fieldLink RX9 15 "BuoyVote$Tape" "wrong" "I"] wsX90)
theorem iw_c_X9_numberWithin_X9 : ∀ w ∈ wsX90, w ∈ wf_c_X9_numberWithin := fun w h => List.mem_cons_of_mem _ (List.mem_append_right _ h)
set_option maxRecDepth 20000 in
theorem gf_c_X9_numberWithin_c_X9_refuse_1 : GoodIn wf_c_X9_numberWithin (wsV RX9 25 RX9 yX9_refuse wf_c_X9_refuse_1) := goodIn_app (gi_l [13, 14, 15, 4] rfl rfl) (gi_cons (j := 16) rfl rfl (goodIn_app (gi_l [17] rfl rfl) (goodIn_sub iw_c_X9_numberWithin_X9 gw_X9)))
set_option maxRecDepth 20000 in
theorem gf_c_X9_numberWithin_c_X9_peek : GoodIn wf_c_X9_numberWithin (wsV RX9 29 RX9 yX9_peek wf_c_X9_peek) := goodIn_app (gi_l [1, 2, 3, 4] rfl rfl) (gi_cons (j := 5) rfl rfl (goodIn_app (gi_l [6, 7, 8] rfl rfl) (goodIn_sub iw_c_X9_numberWithin_X9 gw_X9)))
set_option maxRecDepth 20000 in
theorem gf_c_X9_numberWithin_c_X9_number : GoodIn wf_c_X9_numberWithin (wsV RX9 33 RX9 yX9_number wf_c_X9_number) := goodIn_app (gi_l [9, 10, 11, 4] rfl rfl) (gi_cons (j := 12) rfl rfl (goodIn_app (gi_l [6, 7, 8] rfl rfl) (goodIn_sub iw_c_X9_numberWithin_X9 gw_X9)))
set_option maxRecDepth 20000 in
theorem gf_c_X9_numberWithin_c_X9_refuse : GoodIn wf_c_X9_numberWithin (wsV RX9 25 RX9 yX9_refuse wf_c_X9_refuse) := goodIn_app (gi_l [13, 14, 15, 4] rfl rfl) (gi_cons (j := 16) rfl rfl (goodIn_app (gi_l [17] rfl rfl) (goodIn_sub iw_c_X9_numberWithin_X9 gw_X9)))
set_option maxHeartbeats 4000000 in
set_option maxRecDepth 100000 in
theorem c_X9_numberWithin (l : Launch) (dC : Nat → ClassId) (dI : Nat → Nat → Nat) (sz : Nat) (h0 : Nat) (p1 : Int32) (p2 : Int32) (h0_0 : Nat) (h0_f1 : Int32) (h0_f2 : Int32) (h0_f3 : Int32) (h0_0k : ClassId) (h0_0c : Nat → Int32) (g_p1 : RG p1 0 1) (g_p2 : RG p2 0 20) (g_h0_f1 : RG h0_f1 0 240) (g_h0_f2 : RG h0_f2 0 240) (g_h0_f3 : RG h0_f3 (-1) 240) (a_h0_0c : AI h0_0c 0 255) : Met l yX9_numberWithin wf_c_X9_numberWithin ({ frames := 1, cells := 0, slots := 0, locals := 23 }) (va_Pc [.ref h0, .int p1, .int p2] (fun U => U.heap.size = sz ∧ va_P (dC, dI) vwCl (wd_c_X9_numberWithin h0 h0_0 h0_f1 h0_f2 h0_f3 h0_0 h0_0k h0_0c) U.heap ∧ va_K (dC, dI) vwCl [(h0_0k, .int)] U ∧ va_D (fun _ => True) (wd_c_X9_numberWithin h0 h0_0 h0_f1 h0_f2 h0_f3 h0_0 h0_0k h0_0c))) (va_Qi (fun (r : Int32) (u : (Int32) × (Int32)) => (r = (-1) ∧ RG u.1 0 240 ∧ RG u.2 0 240 ∧ h0_f2.toInt + 0 ≤ (u.1).toInt ∧ (r, u.1, u.2) = fx_c_X9_numberWithin p1 p2 h0_f1 h0_f2 h0_f3 h0_0c) ∨ (RG r 0 99 ∧ RG u.1 1 240 ∧ RG u.2 (-1) 240 ∧ RG h0_f1 1 240 ∧ h0_f2.toInt + 1 ≤ (u.1).toInt ∧ (r, u.1, u.2) = fx_c_X9_numberWithin p1 p2 h0_f1 h0_f2 h0_f3 h0_0c)) (fun (u : (Int32) × (Int32)) t => va_P (dC, dI) vwCl (wd_c_X9_numberWithin h0 h0_0 h0_f1 (u.1) (u.2) h0_0 h0_0k h0_0c) t.heap ∧ va_K (dC, dI) vwCl [] t ∧ va_D (va_A (wd_c_X9_numberWithin h0 h0_0 h0_f1 h0_f2 h0_f3 h0_0 h0_0k h0_0c) sz) (wd_c_X9_numberWithin h0 h0_0 h0_f1 (u.1) (u.2) h0_0 h0_0k h0_0c)) (va_A (wd_c_X9_numberWithin h0 h0_0 h0_f1 h0_f2 h0_f3 h0_0 h0_0k h0_0c) sz)) 0 0 (va_A (wd_c_X9_numberWithin h0 h0_0 h0_f1 h0_f2 h0_f3 h0_0 h0_0k h0_0c) sz) := by
  refine Met.ofW (cc := cX9_numberWithin) (maxL := 4) (ret := (some .int)) (by decide +kernel) rfl ?_
  intro p e s m args below meth c s₁ B hml hv
  obtain ⟨rfl, hsz, hP, hK, hD0⟩ := hv
  have hx := B.exec
  have hb := B.bytes
  have hr := B.returns
  have hts := atoms_spec (ws := wf_c_X9_numberWithin) B.pre
  have hown : s.vm.findClass RX9 = some m.cls := findClass_of_methodNamed B.named
  have hlocks := B.notSynchronized
  subst hsz
  have hD := hD0.self (sz := s.heap.size)
  generalize hAe : va_A (wd_c_X9_numberWithin h0 h0_0 h0_f1 h0_f2 h0_f3 h0_0 h0_0k h0_0c) s.heap.size = A at hD ⊢
  have hA : ∀ q : Nat, s.heap.size ≤ q → A q := fun q h => by rw [← hAe]; exact Or.inr h
  have hP : va_P (dC, dI) vwCl (wd_c_X9_numberWithin h0 h0_0 h0_f1 h0_f2 h0_f3 h0_0 h0_0k h0_0c) s.heap := hP
  have hl := lv_entry ([.ref h0, .int p1, .int p2]) (n := 4) (Nat.le_of_ble_eq_true rfl)
  rw [lg_entry_eq]
  generalize (lg_sl ([.ref h0, .int p1, .int p2]) ++ List.replicate (4 - (lg_sl ([.ref h0, .int p1, .int p2])).length) Slot.unset).toArray = ls at hl ⊢
  have hl : lv_has ls 4 [(0, .ref h0), (1, .int p1), (2, .int p2)] := hl
  obtain ⟨H, hHe⟩ : ∃ H : Heap, s.heap = H := ⟨_, rfl⟩
  have hS : va_S A s.heap H [] := by rw [hHe]; exact va_S.rf
  have hP : va_P (dC, dI) vwCl (wd_c_X9_numberWithin h0 h0_0 h0_f1 h0_f2 h0_f3 h0_0 h0_0k h0_0c) H := by rw [← hHe]; exact hP
  rw [hHe]
  obtain ⟨RES, hR⟩ : ∃ z, fx_c_X9_numberWithin p1 p2 h0_f1 h0_f2 h0_f3 h0_0c = z := ⟨_, rfl⟩
  have hEX : RES = fx_c_X9_numberWithin p1 p2 h0_f1 h0_f2 h0_f3 h0_0c := hR.symm
  refine wj (fun G hG hU => ?_)
  as_aux_lemma =>
  have J37 : ∀ (j37_l3 : Int32) (j37_h0_f2 : Int32) (g_h0_f1 : RG h0_f1 1 240) (g_h0_f2 : RG h0_f2 0 240) (g_h0_f3 : RG h0_f3 (-1) 240) (g_j37_h0_f2 : RG j37_h0_f2 1 240) (g_j37_l3 : RG j37_l3 0 99) (g_p1 : RG p1 0 1) (g_p2 : RG p2 0 20) (r_h0_f2_j37_h0_f2 : h0_f2.toInt + 1 ≤ j37_h0_f2.toInt) (hEX : RES = fx_c_X9_numberWithin_p37 h0_f3 j37_l3 j37_h0_f2) (H : Heap) (locs : List Loc) (ls : Array Slot) (hP : va_P (dC, dI) vwCl (wd_c_X9_numberWithin h0 h0_0 h0_f1 j37_h0_f2 h0_f3 h0_0 h0_0k h0_0c) H) (hD : va_D A (wd_c_X9_numberWithin h0 h0_0 h0_f1 j37_h0_f2 h0_f3 h0_0 h0_0k h0_0c)) (hS : va_S A s.heap H locs) (hl : lv_has ls 4 [(3, .int j37_l3), (0, .ref h0)]), G H locs (F0 m 37 ls []) := by
    as_aux_lemma =>
    intro j37_l3 j37_h0_f2 g_h0_f1 g_h0_f2 g_h0_f3 g_j37_h0_f2 g_j37_l3 g_p1 g_p2 r_h0_f2_j37_h0_f2 hEX H locs ls hP hD hS hl
    refine hG _ _ _ ?_
    refine lv_aload_n hx hb dX9_numberWithin_37 rfl (lv_at hl 1 rfl) ?_
    refine lv_aload_n hx hb dX9_numberWithin_38 rfl (lv_at hl 1 rfl) ?_
    refine va_get (D := (dC, dI)) (ci := 9) (v := .int j37_h0_f2) (C := RX9) (T := TX9) (N := 4) hx hb hts iw_c_X9_numberWithin_X9 hown hK hP 0 rfl rfl 2 (by decide +kernel) (hts (.fieldLink RX9 22 "BuoyVote$Tape" "at" "I") (List.mem_of_getElem? (i := 6) rfl)) (fun _ h9 => h9) rfl dX9_numberWithin_39 ?_
    refine lv_iconst (v := 1) hx hb dX9_numberWithin_42 kc_iconst_1 ?_
    refine lv_isub hx hb dX9_numberWithin_43 ?_
    refine lv_topi (fun x_1 ex_1 => ?_)
    replace hEX := hEX.trans (exl_eq ex_1)
    have g_2 : RG x_1 0 239 := RG_sub ex_1 g_j37_h0_f2 (RG_k 1 1 rfl) (by decide +kernel)
    obtain ⟨hPc, hDc, hFc, hqc⟩ := cl_cut (wc := (wd_c_X9_refuse_1 h0 h0_0 h0_f1 j37_h0_f2 h0_f3)) hP hD hS hA [0] (by decide +kernel) rfl
    have hKc := hK.sub (tys' := []) [] rfl
    have hrv := va_recv hKc hPc (ci := 9) (q0 := 0) rfl rfl
    refine va_callv (va_runV (As := [.int x_1]) (rest := []) ⟨hx, hb, hml, hown, hts⟩ (c_X9_refuse_1 l dC dI H.size h0 x_1 h0_0 h0_f1 j37_h0_f2 h0_f3 g_2 (RG_w g_h0_f1 (by decide +kernel)) (RG_w g_j37_h0_f2 (by decide +kernel)) g_h0_f3) (cwV 1 hts gf_c_X9_numberWithin_c_X9_refuse_1 rfl rfl rfl mdV_X9_refuse ⟨Nat.le_of_ble_eq_true rfl, Nat.le_of_ble_eq_true rfl⟩) ⟨fun a U g mk q => by obtain ⟨q0, q1, qP, qK, qD⟩ := q; exact ⟨q0, q1, qP, va_K.moved (u := U) (U := U.calling g mk a) (Vm.Alike.refl U.vm) qK, qD⟩, hrv, fun U hU hW => ⟨rfl, by rw [hU], by rw [hU]; exact hPc, va_K.moved hW.alike hKc, hDc.weaken (fun _ _ _ _ => trivial)⟩⟩ rfl rfl hl.1 rfl (lv_room (Nat.le_of_ble_eq_true rfl)) dX9_numberWithin_44 ⟨Nat.le_of_ble_eq_true rfl, Nat.le_of_ble_eq_true rfl⟩) hS (fun q _ h => hFc q h) hFc (fun x_4 t H1 locs ht hvm hw hB hz1 hk1 hS => ?_)
    as_aux_lemma =>
    obtain ⟨hP1, hK1, hD1⟩ := hB
    rw [ht] at hP1
    obtain ⟨hP, hD⟩ := cl_put (w1 := (wd_c_X9_refuse_1 h0 h0_0 h0_f1 j37_h0_f2 x_4)) (nw := (wd_c_X9_numberWithin h0 h0_0 h0_f1 j37_h0_f2 x_4 h0_0 h0_0k h0_0c)) hP hD [0] [2, 1] 2 rfl hqc (by decide +kernel) rfl hk1 hFc hP1 hD1
    generalize H1 = H at hP hS ⊢
    as_aux_lemma =>
    rcases hw with ⟨h_5, h_6⟩
    have h_6 : x_4 = _ := h_6
    replace hEX := hEX.trans (exc1_eq h_6)
    refine lv_iload_n hx hb dX9_numberWithin_47 rfl (lv_at hl 0 rfl) ?_
    have hK9 := hK.sub (tys' := []) [] rfl
    exact W.iret (v := j37_l3) hx hb hr (fun t ht hW => ⟨⟨j37_l3, (j37_h0_f2, x_4), rfl, (Or.inr ⟨g_j37_l3, g_j37_h0_f2, (RG_w h_5 (by decide +kernel)), g_h0_f1, (by have := r_h0_f2_j37_h0_f2; show h0_f2.toInt + 1 ≤ j37_h0_f2.toInt; omega), (hR.trans hEX).symm⟩), by rw [ht]; exact hP, va_K.moved hW.alike hK9, hD⟩, hS.F ht⟩) hS.2.2 dX9_numberWithin_48
  refine hG _ _ _ ?_
  refine lv_aload_n hx hb dX9_numberWithin_0 rfl (lv_at hl 0 rfl) ?_
  obtain ⟨hPc, hDc, hFc, hqc⟩ := cl_cut (wc := (wd_c_X9_peek h0 h0_0 h0_f1 h0_f2 h0_f3 h0_0 h0_0k h0_0c)) hP hD hS hA [0, 1] (by decide +kernel) rfl
  have hKc := hK.sub (tys' := [(h0_0k, .int)]) [0] rfl
  have hrv := va_recv hKc hPc (ci := 9) (q0 := 0) rfl rfl
  refine va_calli (va_runV (As := []) (rest := []) ⟨hx, hb, hml, hown, hts⟩ (c_X9_peek l dC dI H.size h0 h0_0 h0_f1 h0_f2 h0_f3 h0_0k h0_0c g_h0_f1 g_h0_f2 g_h0_f3 a_h0_0c) (cwV 0 hts gf_c_X9_numberWithin_c_X9_peek rfl rfl rfl mdV_X9_peek ⟨Nat.le_of_ble_eq_true rfl, Nat.le_of_ble_eq_true rfl⟩) ⟨fun a U g mk q => by obtain ⟨q0, q1, qP, qK, qD⟩ := q; exact ⟨q0, q1, qP, va_K.moved (u := U) (U := U.calling g mk a) (Vm.Alike.refl U.vm) qK, qD⟩, hrv, fun U hU hW => ⟨rfl, by rw [hU], by rw [hU]; exact hPc, va_K.moved hW.alike hKc, hDc.weaken (fun _ _ _ _ => trivial)⟩⟩ rfl rfl hl.1 rfl (lv_room (Nat.le_of_ble_eq_true rfl)) dX9_numberWithin_1 ⟨Nat.le_of_ble_eq_true rfl, Nat.le_of_ble_eq_true rfl⟩) hS (fun q _ h => hFc q h) hFc (fun r_7 x_8 t H1 locs ht hvm hw hB hz1 hk1 hS => ?_)
  obtain ⟨hP1, hK1, hD1⟩ := hB
  rw [ht] at hP1
  obtain ⟨hP, hD⟩ := cl_put (w1 := (wd_c_X9_peek h0 h0_0 h0_f1 x_8 h0_f3 h0_0 h0_0k h0_0c)) (nw := (wd_c_X9_numberWithin h0 h0_0 h0_f1 x_8 h0_f3 h0_0 h0_0k h0_0c)) hP hD [0, 1] [2, 3] 2 rfl hqc (by decide +kernel) rfl hk1 hFc hP1 hD1
  generalize H1 = H at hP hS ⊢
  as_aux_lemma =>
  rcases hw with ⟨h_9, h_10, h_11, h_12⟩ | ⟨h_13, h_14, h_15, h_16, h_17⟩
  · have h_12 : (r_7, x_8) = _ := h_12
    replace hEX := hEX.trans (exc2_eq h_12)
    replace hEX := hEX.trans (if_pos (show r_7 = (-1) from h_9))
    rw [h_9]
    refine lv_pop hx hb dX9_numberWithin_4 rfl ?_
    refine lv_aload_n hx hb dX9_numberWithin_5 rfl (lv_at hl 0 rfl) ?_
    refine lv_iconst (v := 2) hx hb dX9_numberWithin_6 kc_iconst_2 ?_
    obtain ⟨hPc, hDc, hFc, hqc⟩ := cl_cut (wc := (wd_c_X9_number h0 h0_0 h0_f1 x_8 h0_f3 h0_0 h0_0k h0_0c)) hP hD hS hA [0, 1] (by decide +kernel) rfl
    have hKc := hK.sub (tys' := [(h0_0k, .int)]) [0] rfl
    have hrv := va_recv hKc hPc (ci := 9) (q0 := 0) rfl rfl
    refine va_calli (va_runV (As := [.int 2]) (rest := []) ⟨hx, hb, hml, hown, hts⟩ (c_X9_number l dC dI H.size h0 h0_0 h0_f1 x_8 h0_f3 h0_0k h0_0c g_h0_f1 h_10 g_h0_f3 a_h0_0c) (cwV 1 hts gf_c_X9_numberWithin_c_X9_number rfl rfl rfl mdV_X9_number ⟨Nat.le_of_ble_eq_true rfl, Nat.le_of_ble_eq_true rfl⟩) ⟨fun a U g mk q => by obtain ⟨q0, q1, qP, qK, qD⟩ := q; exact ⟨q0, q1, qP, va_K.moved (u := U) (U := U.calling g mk a) (Vm.Alike.refl U.vm) qK, qD⟩, hrv, fun U hU hW => ⟨rfl, by rw [hU], by rw [hU]; exact hPc, va_K.moved hW.alike hKc, hDc.weaken (fun _ _ _ _ => trivial)⟩⟩ rfl rfl hl.1 rfl (lv_room (Nat.le_of_ble_eq_true rfl)) dX9_numberWithin_7 ⟨Nat.le_of_ble_eq_true rfl, Nat.le_of_ble_eq_true rfl⟩) hS (fun q _ h => hFc q h) hFc (fun r_18 x_19 t H1 locs ht hvm hw hB hz1 hk1 hS => ?_)
    obtain ⟨hP1, hK1, hD1⟩ := hB
    rw [ht] at hP1
    obtain ⟨hP, hD⟩ := cl_put (w1 := (wd_c_X9_number h0 h0_0 h0_f1 x_19 h0_f3 h0_0 h0_0k h0_0c)) (nw := (wd_c_X9_numberWithin h0 h0_0 h0_f1 x_19 h0_f3 h0_0 h0_0k h0_0c)) hP hD [0, 1] [2, 3] 2 rfl hqc (by decide +kernel) rfl hk1 hFc hP1 hD1
    generalize H1 = H at hP hS ⊢
    as_aux_lemma =>
    rcases hw with ⟨h_20, h_21, h_22, h_23⟩ | ⟨h_24, h_25, h_26, h_27, h_28, h_29⟩
    · have h_23 : (r_18, x_19) = _ := h_23
      replace hEX := hEX.trans (exc2_eq h_23)
      replace hEX := hEX.trans (if_pos (show r_18 = (-1) from h_20))
      rw [h_20]
      refine lv_istore_n (lv' := [(3, .int (-1)), (0, .ref h0), (1, .int p1), (2, .int p2)]) hx hb dX9_numberWithin_10 rfl hl (Nat.le_of_ble_eq_true rfl) rfl (fun ls hl => ?_)
      refine lv_iload_n hx hb dX9_numberWithin_11 rfl (lv_at hl 0 rfl) ?_
      refine lv_iconst (v := (-1)) hx hb dX9_numberWithin_12 kc_iconst_m1 ?_
      refine lv_icmp_ne (tgt := 27) hx hb dX9_numberWithin_13 rfl (fun c_30 => absurd c_30 (by decide +kernel)) (fun c_30 => ?_)
      refine lv_aload_n hx hb dX9_numberWithin_16 rfl (lv_at hl 1 rfl) ?_
      refine lv_aload_n hx hb dX9_numberWithin_17 rfl (lv_at hl 1 rfl) ?_
      refine va_get (D := (dC, dI)) (ci := 9) (v := .int x_19) (C := RX9) (T := TX9) (N := 4) hx hb hts iw_c_X9_numberWithin_X9 hown hK hP 0 rfl rfl 2 (by decide +kernel) (hts (.fieldLink RX9 22 "BuoyVote$Tape" "at" "I") (List.mem_of_getElem? (i := 6) rfl)) (fun _ h9 => h9) rfl dX9_numberWithin_18 ?_
      obtain ⟨hPc, hDc, hFc, hqc⟩ := cl_cut (wc := (wd_c_X9_refuse h0 h0_0 h0_f1 x_19 h0_f3)) hP hD hS hA [0] (by decide +kernel) rfl
      have hKc := hK.sub (tys' := []) [] rfl
      have hrv := va_recv hKc hPc (ci := 9) (q0 := 0) rfl rfl
      refine va_callv (va_runV (As := [.int x_19]) (rest := []) ⟨hx, hb, hml, hown, hts⟩ (c_X9_refuse l dC dI H.size h0 x_19 h0_0 h0_f1 x_19 h0_f3 h_21 g_h0_f1 h_21 g_h0_f3) (cwV 1 hts gf_c_X9_numberWithin_c_X9_refuse rfl rfl rfl mdV_X9_refuse ⟨Nat.le_of_ble_eq_true rfl, Nat.le_of_ble_eq_true rfl⟩) ⟨fun a U g mk q => by obtain ⟨q0, q1, qP, qK, qD⟩ := q; exact ⟨q0, q1, qP, va_K.moved (u := U) (U := U.calling g mk a) (Vm.Alike.refl U.vm) qK, qD⟩, hrv, fun U hU hW => ⟨rfl, by rw [hU], by rw [hU]; exact hPc, va_K.moved hW.alike hKc, hDc.weaken (fun _ _ _ _ => trivial)⟩⟩ rfl rfl hl.1 rfl (lv_room (Nat.le_of_ble_eq_true rfl)) dX9_numberWithin_21 ⟨Nat.le_of_ble_eq_true rfl, Nat.le_of_ble_eq_true rfl⟩) hS (fun q _ h => hFc q h) hFc (fun x_32 t H1 locs ht hvm hw hB hz1 hk1 hS => ?_)
      as_aux_lemma =>
      obtain ⟨hP1, hK1, hD1⟩ := hB
      rw [ht] at hP1
      obtain ⟨hP, hD⟩ := cl_put (w1 := (wd_c_X9_refuse h0 h0_0 h0_f1 x_19 x_32)) (nw := (wd_c_X9_numberWithin h0 h0_0 h0_f1 x_19 x_32 h0_0 h0_0k h0_0c)) hP hD [0] [2, 1] 2 rfl hqc (by decide +kernel) rfl hk1 hFc hP1 hD1
      generalize H1 = H at hP hS ⊢
      as_aux_lemma =>
      rcases hw with ⟨h_33, h_34⟩
      have h_34 : x_32 = _ := h_34
      replace hEX := hEX.trans (exc1_eq h_34)
      refine lv_goto (tgt := 47) hx hb dX9_numberWithin_24 rfl ?_
      refine lv_iload_n hx hb dX9_numberWithin_47 rfl (lv_at hl 0 rfl) ?_
      have hK9 := hK.sub (tys' := []) [] rfl
      exact W.iret (v := (-1)) hx hb hr (fun t ht hW => ⟨⟨(-1), (x_19, x_32), rfl, (Or.inl ⟨rfl, h_21, h_33, (by have := h_11; have := h_22; show h0_f2.toInt + 0 ≤ x_19.toInt; omega), (hR.trans hEX).symm⟩), by rw [ht]; exact hP, va_K.moved hW.alike hK9, hD⟩, hS.F ht⟩) hS.2.2 dX9_numberWithin_48
    · have h_29 : (r_18, x_19) = _ := h_29
      replace hEX := hEX.trans (exc2_eq h_29)
      replace hEX := hEX.trans (if_neg (RG_neq (x := r_18) (c := (-1)) (show RG r_18 0 99 from h_24) (by decide +kernel)))
      refine lv_istore_n (lv' := [(3, .int r_18), (0, .ref h0), (1, .int p1), (2, .int p2)]) hx hb dX9_numberWithin_10 rfl hl (Nat.le_of_ble_eq_true rfl) rfl (fun ls hl => ?_)
      refine lv_iload_n hx hb dX9_numberWithin_11 rfl (lv_at hl 0 rfl) ?_
      refine lv_iconst (v := (-1)) hx hb dX9_numberWithin_12 kc_iconst_m1 ?_
      refine lv_icmp_ne (tgt := 27) hx hb dX9_numberWithin_13 rfl (fun c_35 => ?_) (fun c_35 => ?_)
      · replace hEX := hEX.trans (if_neg c_35)
        refine lv_iload_n hx hb dX9_numberWithin_27 rfl (lv_at hl 0 rfl) ?_
        as_aux_lemma =>
        refine lv_iload_n hx hb dX9_numberWithin_28 rfl (lv_at hl 2 rfl) ?_
        refine lv_icmp_lt (tgt := 37) hx hb dX9_numberWithin_29 rfl (fun c_36 => ?_) (fun c_36 => ?_)
        · replace hEX := hEX.trans (if_pos c_36)
          have g_37 : RG r_18 0 0 := RG_lt1 h_24 g_p1 c_36 (by decide +kernel)
          have g_38 : RG p1 1 1 := RG_lt2 h_24 g_p1 c_36 (by decide +kernel)
          exact hU _ _ _ (J37 r_18 x_19 h_26 g_h0_f2 g_h0_f3 h_25 (RG_w g_37 (by decide +kernel)) (RG_w g_38 (by decide +kernel)) g_p2 (by have := h_11; have := h_28; omega) hEX _ _ _ hP hD hS (lv_sub hl [0, 1] rfl))
        · replace hEX := hEX.trans (if_neg c_36)
          have d_39 := Int32.not_lt.mp c_36
          refine lv_iload_n hx hb dX9_numberWithin_32 rfl (lv_at hl 0 rfl) ?_
          refine lv_iload_n hx hb dX9_numberWithin_33 rfl (lv_at hl 3 rfl) ?_
          refine lv_icmp_le (tgt := 47) hx hb dX9_numberWithin_34 rfl (fun c_40 => ?_) (fun c_40 => ?_)
          · replace hEX := hEX.trans (if_pos c_40)
            have g_41 : RG r_18 0 20 := RG_le1 h_24 g_p2 c_40 (by decide +kernel)
            refine lv_iload_n hx hb dX9_numberWithin_47 rfl (lv_at hl 0 rfl) ?_
            as_aux_lemma =>
            have hK9 := hK.sub (tys' := []) [] rfl
            exact W.iret (v := r_18) hx hb hr (fun t ht hW => ⟨⟨r_18, (x_19, h0_f3), rfl, (Or.inr ⟨(RG_w g_41 (by decide +kernel)), h_25, g_h0_f3, h_26, (by have := h_11; have := h_28; show h0_f2.toInt + 1 ≤ x_19.toInt; omega), (hR.trans hEX).symm⟩), by rw [ht]; exact hP, va_K.moved hW.alike hK9, hD⟩, hS.F ht⟩) hS.2.2 dX9_numberWithin_48
          · replace hEX := hEX.trans (if_neg c_40)
            have d_42 := Int32.not_le.mp c_40
            have g_43 : RG r_18 1 99 := RG_lt2 g_p2 h_24 d_42 (by decide +kernel)
            exact hU _ _ _ (J37 r_18 x_19 h_26 g_h0_f2 g_h0_f3 h_25 (RG_w g_43 (by decide +kernel)) g_p1 g_p2 (by have := h_11; have := h_28; omega) hEX _ _ _ hP hD hS (lv_sub hl [0, 1] rfl))
      · replace hEX := hEX.trans (if_pos c_35)
        exact RG_dead (RG_eq1 h_24 (RG_k (-1) (-1) rfl) c_35 (a' := 0) (b' := (-1)) (by decide +kernel)) (by decide +kernel)
  · have h_17 : (r_7, x_8) = _ := h_17
    replace hEX := hEX.trans (exc2_eq h_17)
    replace hEX := hEX.trans (if_neg (RG_neq (x := r_7) (c := (-1)) (show RG r_7 0 255 from h_13) (by decide +kernel)))
    refine lv_pop hx hb dX9_numberWithin_4 rfl ?_
    refine lv_aload_n hx hb dX9_numberWithin_5 rfl (lv_at hl 0 rfl) ?_
    refine lv_iconst (v := 2) hx hb dX9_numberWithin_6 kc_iconst_2 ?_
    as_aux_lemma =>
    obtain ⟨hPc, hDc, hFc, hqc⟩ := cl_cut (wc := (wd_c_X9_number h0 h0_0 h0_f1 x_8 h0_f3 h0_0 h0_0k h0_0c)) hP hD hS hA [0, 1] (by decide +kernel) rfl
    have hKc := hK.sub (tys' := [(h0_0k, .int)]) [0] rfl
    have hrv := va_recv hKc hPc (ci := 9) (q0 := 0) rfl rfl
    refine va_calli (va_runV (As := [.int 2]) (rest := []) ⟨hx, hb, hml, hown, hts⟩ (c_X9_number l dC dI H.size h0 h0_0 h0_f1 x_8 h0_f3 h0_0k h0_0c (RG_w h_15 (by decide +kernel)) (RG_w h_14 (by decide +kernel)) g_h0_f3 a_h0_0c) (cwV 1 hts gf_c_X9_numberWithin_c_X9_number rfl rfl rfl mdV_X9_number ⟨Nat.le_of_ble_eq_true rfl, Nat.le_of_ble_eq_true rfl⟩) ⟨fun a U g mk q => by obtain ⟨q0, q1, qP, qK, qD⟩ := q; exact ⟨q0, q1, qP, va_K.moved (u := U) (U := U.calling g mk a) (Vm.Alike.refl U.vm) qK, qD⟩, hrv, fun U hU hW => ⟨rfl, by rw [hU], by rw [hU]; exact hPc, va_K.moved hW.alike hKc, hDc.weaken (fun _ _ _ _ => trivial)⟩⟩ rfl rfl hl.1 rfl (lv_room (Nat.le_of_ble_eq_true rfl)) dX9_numberWithin_7 ⟨Nat.le_of_ble_eq_true rfl, Nat.le_of_ble_eq_true rfl⟩) hS (fun q _ h => hFc q h) hFc (fun r_44 x_45 t H1 locs ht hvm hw hB hz1 hk1 hS => ?_)
    obtain ⟨hP1, hK1, hD1⟩ := hB
    rw [ht] at hP1
    obtain ⟨hP, hD⟩ := cl_put (w1 := (wd_c_X9_number h0 h0_0 h0_f1 x_45 h0_f3 h0_0 h0_0k h0_0c)) (nw := (wd_c_X9_numberWithin h0 h0_0 h0_f1 x_45 h0_f3 h0_0 h0_0k h0_0c)) hP hD [0, 1] [2, 3] 2 rfl hqc (by decide +kernel) rfl hk1 hFc hP1 hD1
    generalize H1 = H at hP hS ⊢
    as_aux_lemma =>
    rcases hw with ⟨h_46, h_47, h_48, h_49⟩ | ⟨h_50, h_51, h_52, h_53, h_54, h_55⟩
    · have h_49 : (r_44, x_45) = _ := h_49
      replace hEX := hEX.trans (exc2_eq h_49)
      replace hEX := hEX.trans (if_pos (show r_44 = (-1) from h_46))
      rw [h_46]
      refine lv_istore_n (lv' := [(3, .int (-1)), (0, .ref h0), (1, .int p1), (2, .int p2)]) hx hb dX9_numberWithin_10 rfl hl (Nat.le_of_ble_eq_true rfl) rfl (fun ls hl => ?_)
      refine lv_iload_n hx hb dX9_numberWithin_11 rfl (lv_at hl 0 rfl) ?_
      refine lv_iconst (v := (-1)) hx hb dX9_numberWithin_12 kc_iconst_m1 ?_
      refine lv_icmp_ne (tgt := 27) hx hb dX9_numberWithin_13 rfl (fun c_56 => absurd c_56 (by decide +kernel)) (fun c_56 => ?_)
      refine lv_aload_n hx hb dX9_numberWithin_16 rfl (lv_at hl 1 rfl) ?_
      refine lv_aload_n hx hb dX9_numberWithin_17 rfl (lv_at hl 1 rfl) ?_
      refine va_get (D := (dC, dI)) (ci := 9) (v := .int x_45) (C := RX9) (T := TX9) (N := 4) hx hb hts iw_c_X9_numberWithin_X9 hown hK hP 0 rfl rfl 2 (by decide +kernel) (hts (.fieldLink RX9 22 "BuoyVote$Tape" "at" "I") (List.mem_of_getElem? (i := 6) rfl)) (fun _ h9 => h9) rfl dX9_numberWithin_18 ?_
      obtain ⟨hPc, hDc, hFc, hqc⟩ := cl_cut (wc := (wd_c_X9_refuse h0 h0_0 h0_f1 x_45 h0_f3)) hP hD hS hA [0] (by decide +kernel) rfl
      have hKc := hK.sub (tys' := []) [] rfl
      have hrv := va_recv hKc hPc (ci := 9) (q0 := 0) rfl rfl
      refine va_callv (va_runV (As := [.int x_45]) (rest := []) ⟨hx, hb, hml, hown, hts⟩ (c_X9_refuse l dC dI H.size h0 x_45 h0_0 h0_f1 x_45 h0_f3 h_47 (RG_w h_15 (by decide +kernel)) h_47 g_h0_f3) (cwV 1 hts gf_c_X9_numberWithin_c_X9_refuse rfl rfl rfl mdV_X9_refuse ⟨Nat.le_of_ble_eq_true rfl, Nat.le_of_ble_eq_true rfl⟩) ⟨fun a U g mk q => by obtain ⟨q0, q1, qP, qK, qD⟩ := q; exact ⟨q0, q1, qP, va_K.moved (u := U) (U := U.calling g mk a) (Vm.Alike.refl U.vm) qK, qD⟩, hrv, fun U hU hW => ⟨rfl, by rw [hU], by rw [hU]; exact hPc, va_K.moved hW.alike hKc, hDc.weaken (fun _ _ _ _ => trivial)⟩⟩ rfl rfl hl.1 rfl (lv_room (Nat.le_of_ble_eq_true rfl)) dX9_numberWithin_21 ⟨Nat.le_of_ble_eq_true rfl, Nat.le_of_ble_eq_true rfl⟩) hS (fun q _ h => hFc q h) hFc (fun x_58 t H1 locs ht hvm hw hB hz1 hk1 hS => ?_)
      as_aux_lemma =>
      obtain ⟨hP1, hK1, hD1⟩ := hB
      rw [ht] at hP1
      obtain ⟨hP, hD⟩ := cl_put (w1 := (wd_c_X9_refuse h0 h0_0 h0_f1 x_45 x_58)) (nw := (wd_c_X9_numberWithin h0 h0_0 h0_f1 x_45 x_58 h0_0 h0_0k h0_0c)) hP hD [0] [2, 1] 2 rfl hqc (by decide +kernel) rfl hk1 hFc hP1 hD1
      generalize H1 = H at hP hS ⊢
      as_aux_lemma =>
      rcases hw with ⟨h_59, h_60⟩
      have h_60 : x_58 = _ := h_60
      replace hEX := hEX.trans (exc1_eq h_60)
      refine lv_goto (tgt := 47) hx hb dX9_numberWithin_24 rfl ?_
      refine lv_iload_n hx hb dX9_numberWithin_47 rfl (lv_at hl 0 rfl) ?_
      have hK9 := hK.sub (tys' := []) [] rfl
      exact W.iret (v := (-1)) hx hb hr (fun t ht hW => ⟨⟨(-1), (x_45, x_58), rfl, (Or.inl ⟨rfl, h_47, h_59, (by have := h_16; have := h_48; show h0_f2.toInt + 0 ≤ x_45.toInt; omega), (hR.trans hEX).symm⟩), by rw [ht]; exact hP, va_K.moved hW.alike hK9, hD⟩, hS.F ht⟩) hS.2.2 dX9_numberWithin_48
    · have h_55 : (r_44, x_45) = _ := h_55
      replace hEX := hEX.trans (exc2_eq h_55)
      replace hEX := hEX.trans (if_neg (RG_neq (x := r_44) (c := (-1)) (show RG r_44 0 99 from h_50) (by decide +kernel)))
      refine lv_istore_n (lv' := [(3, .int r_44), (0, .ref h0), (1, .int p1), (2, .int p2)]) hx hb dX9_numberWithin_10 rfl hl (Nat.le_of_ble_eq_true rfl) rfl (fun ls hl => ?_)
      refine lv_iload_n hx hb dX9_numberWithin_11 rfl (lv_at hl 0 rfl) ?_
      refine lv_iconst (v := (-1)) hx hb dX9_numberWithin_12 kc_iconst_m1 ?_
      refine lv_icmp_ne (tgt := 27) hx hb dX9_numberWithin_13 rfl (fun c_61 => ?_) (fun c_61 => ?_)
      · replace hEX := hEX.trans (if_neg c_61)
        refine lv_iload_n hx hb dX9_numberWithin_27 rfl (lv_at hl 0 rfl) ?_
        as_aux_lemma =>
        refine lv_iload_n hx hb dX9_numberWithin_28 rfl (lv_at hl 2 rfl) ?_
        refine lv_icmp_lt (tgt := 37) hx hb dX9_numberWithin_29 rfl (fun c_62 => ?_) (fun c_62 => ?_)
        · replace hEX := hEX.trans (if_pos c_62)
          have g_63 : RG r_44 0 0 := RG_lt1 h_50 g_p1 c_62 (by decide +kernel)
          have g_64 : RG p1 1 1 := RG_lt2 h_50 g_p1 c_62 (by decide +kernel)
          exact hU _ _ _ (J37 r_44 x_45 h_15 g_h0_f2 g_h0_f3 h_51 (RG_w g_63 (by decide +kernel)) (RG_w g_64 (by decide +kernel)) g_p2 (by have := h_16; have := h_54; omega) hEX _ _ _ hP hD hS (lv_sub hl [0, 1] rfl))
        · replace hEX := hEX.trans (if_neg c_62)
          have d_65 := Int32.not_lt.mp c_62
          refine lv_iload_n hx hb dX9_numberWithin_32 rfl (lv_at hl 0 rfl) ?_
          refine lv_iload_n hx hb dX9_numberWithin_33 rfl (lv_at hl 3 rfl) ?_
          refine lv_icmp_le (tgt := 47) hx hb dX9_numberWithin_34 rfl (fun c_66 => ?_) (fun c_66 => ?_)
          · replace hEX := hEX.trans (if_pos c_66)
            have g_67 : RG r_44 0 20 := RG_le1 h_50 g_p2 c_66 (by decide +kernel)
            refine lv_iload_n hx hb dX9_numberWithin_47 rfl (lv_at hl 0 rfl) ?_
            as_aux_lemma =>
            have hK9 := hK.sub (tys' := []) [] rfl
            exact W.iret (v := r_44) hx hb hr (fun t ht hW => ⟨⟨r_44, (x_45, h0_f3), rfl, (Or.inr ⟨(RG_w g_67 (by decide +kernel)), h_51, g_h0_f3, h_15, (by have := h_16; have := h_54; show h0_f2.toInt + 1 ≤ x_45.toInt; omega), (hR.trans hEX).symm⟩), by rw [ht]; exact hP, va_K.moved hW.alike hK9, hD⟩, hS.F ht⟩) hS.2.2 dX9_numberWithin_48
          · replace hEX := hEX.trans (if_neg c_66)
            have d_68 := Int32.not_le.mp c_66
            have g_69 : RG r_44 1 99 := RG_lt2 g_p2 h_50 d_68 (by decide +kernel)
            exact hU _ _ _ (J37 r_44 x_45 h_15 g_h0_f2 g_h0_f3 h_51 (RG_w g_69 (by decide +kernel)) g_p1 g_p2 (by have := h_16; have := h_54; omega) hEX _ _ _ hP hD hS (lv_sub hl [0, 1] rfl))
      · replace hEX := hEX.trans (if_pos c_61)
        exact RG_dead (RG_eq1 h_50 (RG_k (-1) (-1) rfl) c_61 (a' := 0) (b' := (-1)) (by decide +kernel)) (by decide +kernel)
noncomputable def wf_c_X0_placeIn_4 : List Cond := .code yX0_placeIn cX0_placeIn 2 (some .int) :: ([])
set_option maxHeartbeats 4000000 in
set_option maxRecDepth 100000 in
theorem c_X0_placeIn_4 (l : Launch) (dC : Nat → ClassId) (dI : Nat → Nat → Nat) (sz : Nat) (ts2 : Nat) (p1 : Int32) (g_p1 : RG p1 (-1) (-1)) : Met l yX0_placeIn wf_c_X0_placeIn_4 ({ frames := 0, cells := 0, slots := 0, locals := 0 }) (va_Pc [.ref ts2, .int p1] (fun U => U.heap.size = sz ∧ va_P (dC, dI) vwCl [] U.heap ∧ va_K (dC, dI) vwCl [] U ∧ va_D (fun _ => True) [])) (va_Qi (fun (r : Int32) (u : Unit) => (r = (-1) ∧ r = fx_c_X0_placeIn_4 p1)) (fun (u : Unit) t => va_P (dC, dI) vwCl [] t.heap ∧ va_K (dC, dI) vwCl [] t ∧ va_D (va_A [] sz) []) (va_A [] sz)) 0 0 (va_A [] sz) := by
  refine Met.ofW (cc := cX0_placeIn) (maxL := 2) (ret := (some .int)) (by decide +kernel) rfl ?_
  intro p e s m args below meth c s₁ B hml hv
  obtain ⟨rfl, hsz, hP, hK, hD0⟩ := hv
  have hx := B.exec
  have hb := B.bytes
  have hr := B.returns
  have hts := atoms_spec (ws := wf_c_X0_placeIn_4) B.pre
  have hown : s.vm.findClass RX0 = some m.cls := findClass_of_methodNamed B.named
  have hlocks := B.notSynchronized
  subst hsz
  have hD := hD0.self (sz := s.heap.size)
  generalize hAe : va_A [] s.heap.size = A at hD ⊢
  have hA : ∀ q : Nat, s.heap.size ≤ q → A q := fun q h => by rw [← hAe]; exact Or.inr h
  have hP : va_P (dC, dI) vwCl [] s.heap := hP
  have hl := lv_entry ([.ref ts2, .int p1]) (n := 2) (Nat.le_of_ble_eq_true rfl)
  rw [lg_entry_eq]
  generalize (lg_sl ([.ref ts2, .int p1]) ++ List.replicate (2 - (lg_sl ([.ref ts2, .int p1])).length) Slot.unset).toArray = ls at hl ⊢
  have hl : lv_has ls 2 [(0, .ref ts2), (1, .int p1)] := hl
  obtain ⟨H, hHe⟩ : ∃ H : Heap, s.heap = H := ⟨_, rfl⟩
  have hS : va_S A s.heap H [] := by rw [hHe]; exact va_S.rf
  have hP : va_P (dC, dI) vwCl [] H := by rw [← hHe]; exact hP
  rw [hHe]
  obtain ⟨RES, hR⟩ : ∃ z, fx_c_X0_placeIn_4 p1 = z := ⟨_, rfl⟩
  have hEX : RES = fx_c_X0_placeIn_4 p1 := hR.symm
  refine lv_iload_n hx hb dX0_placeIn_0 rfl (lv_at hl 1 rfl) ?_
  as_aux_lemma =>
  refine lv_if_ge (tgt := 8) hx hb dX0_placeIn_1 rfl (fun c_1 => ?_) (fun c_1 => ?_)
  · replace hEX := hEX.trans (if_pos c_1)
    exact RG_dead (RG_le1 (RG_k 0 0 rfl) g_p1 c_1 (b' := (-1)) (by decide +kernel)) (by decide +kernel)
  · replace hEX := hEX.trans (if_neg c_1)
    have d_2 := Int32.not_le.mp c_1
    refine lv_iconst (v := (-1)) hx hb dX0_placeIn_4 kc_iconst_m1 ?_
    refine lv_goto (tgt := 14) hx hb dX0_placeIn_5 rfl ?_
    have hK9 := hK.sub (tys' := []) [] rfl
    exact W.iret (v := (-1)) hx hb hr (fun t ht hW => ⟨⟨(-1), (), rfl, ⟨rfl, (hR.trans hEX).symm⟩, by rw [ht]; exact hP, va_K.moved hW.alike hK9, hD⟩, hS.F ht⟩) hS.2.2 dX0_placeIn_14
noncomputable def wf_c_J0_isLatin1_aae02_2 : List Cond := .code yJ0_isLatin1_aae02 cJ0_isLatin1_aae02 1 (some .boolean) :: ([.fieldLink RJ0 38 "java/lang/String" "COMPACT_STRINGS" "Z", .fieldLink RJ0 15 "java/lang/String" "coder" "B"])
set_option maxHeartbeats 4000000 in
set_option maxRecDepth 100000 in
theorem c_J0_isLatin1_aae02_2 (l : Launch) (dC : Nat → ClassId) (dI : Nat → Nat → Nat) (sz : Nat) (ts2 : Nat) : Met l yJ0_isLatin1_aae02 wf_c_J0_isLatin1_aae02_2 ({ frames := 0, cells := 0, slots := 0, locals := 0 }) (va_Pc [.ref ts2] (fun U => U.heap.size = sz ∧ va_P (dC, dI) vwCl [] U.heap ∧ va_K (dC, dI) vwCl [] U ∧ va_D (fun _ => True) [] ∧ va_Z "java/lang/String" "COMPACT_STRINGS" "Z" (.int 1) (va_A [] sz) U U.heap ∧ va_OF "java/lang/String" "coder" "B" (.int 0) ts2 (va_A [] sz) U U.heap)) (va_Qi (fun (r : Int32) (u : Unit) => (r = 1 ∧ r = fx_c_J0_isLatin1_aae02_2)) (fun (u : Unit) t => va_P (dC, dI) vwCl [] t.heap ∧ va_K (dC, dI) vwCl [] t ∧ va_D (va_A [] sz) []) (va_A [] sz)) 0 0 (va_A [] sz) := by
  refine Met.ofW (cc := cJ0_isLatin1_aae02) (maxL := 1) (ret := (some .boolean)) (by decide +kernel) rfl ?_
  intro p e s m args below meth c s₁ B hml hv
  obtain ⟨rfl, hsz, hP, hK, hD0, hE_10, hE_24⟩ := hv
  have hx := B.exec
  have hb := B.bytes
  have hr := B.returns
  have hts := atoms_spec (ws := wf_c_J0_isLatin1_aae02_2) B.pre
  have hown : s.vm.findClass RJ0 = some m.cls := findClass_of_methodNamed B.named
  have hlocks := B.notSynchronized
  subst hsz
  have hD := hD0.self (sz := s.heap.size)
  generalize hAe : va_A [] s.heap.size = A at hD hE_10 hE_24 ⊢
  have hA : ∀ q : Nat, s.heap.size ≤ q → A q := fun q h => by rw [← hAe]; exact Or.inr h
  have hP : va_P (dC, dI) vwCl [] s.heap := hP
  have hl := lv_entry ([.ref ts2]) (n := 1) (Nat.le_of_ble_eq_true rfl)
  rw [lg_entry_eq]
  generalize (lg_sl ([.ref ts2]) ++ List.replicate (1 - (lg_sl ([.ref ts2])).length) Slot.unset).toArray = ls at hl ⊢
  have hl : lv_has ls 1 [(0, .ref ts2)] := hl
  obtain ⟨H, hHe⟩ : ∃ H : Heap, s.heap = H := ⟨_, rfl⟩
  have hS : va_S A s.heap H [] := by rw [hHe]; exact va_S.rf
  have hP : va_P (dC, dI) vwCl [] H := by rw [← hHe]; exact hP
  rw [hHe]
  obtain ⟨RES, hR⟩ : ∃ z, fx_c_J0_isLatin1_aae02_2 = z := ⟨_, rfl⟩
  have hEX : RES = fx_c_J0_isLatin1_aae02_2 := hR.symm
  refine va_gets hx hb hE_10 hS hown (hts (.fieldLink RJ0 38 "java/lang/String" "COMPACT_STRINGS" "Z") (List.mem_of_getElem? (i := 1) rfl)) (fun _ h9 => h9) dJ0_isLatin1_aae02_0 ?_
  as_aux_lemma =>
  refine lv_if_eq (tgt := 17) hx hb dJ0_isLatin1_aae02_3 rfl (fun c_1 => absurd c_1 (by decide +kernel)) (fun c_1 => ?_)
  refine lv_aload_n hx hb dJ0_isLatin1_aae02_6 rfl (lv_at hl 0 rfl) ?_
  refine vk_getf hx hb hE_24 hS hown (hts (.fieldLink RJ0 15 "java/lang/String" "coder" "B") (List.mem_of_getElem? (i := 2) rfl)) (fun _ h9 => h9) dJ0_isLatin1_aae02_7 ?_
  refine lv_if_ne (tgt := 17) hx hb dJ0_isLatin1_aae02_10 rfl (fun c_2 => absurd c_2 (by decide +kernel)) (fun c_2 => ?_)
  refine lv_iconst (v := 1) hx hb dJ0_isLatin1_aae02_13 kc_iconst_1 ?_
  refine lv_goto (tgt := 18) hx hb dJ0_isLatin1_aae02_14 rfl ?_
  have hK9 := hK.sub (tys' := []) [] rfl
  exact W.zret (v := 1) hx hb hr rfl (fun t ht hW => ⟨⟨1, (), rfl, ⟨rfl, (hR.trans hEX).symm⟩, by rw [ht]; exact hP, va_K.moved hW.alike hK9, hD⟩, hS.F ht⟩) hS.2.2 dJ0_isLatin1_aae02_18
noncomputable def wf_c_J1_indexOfChar_4cfef_2 : List Cond := .code yJ1_indexOfChar_4cfef cJ1_indexOfChar_4cfef 6 (some .int) :: ([])
set_option maxHeartbeats 4000000 in
set_option maxRecDepth 100000 in
theorem c_J1_indexOfChar_4cfef_2 (l : Launch) (dC : Nat → ClassId) (dI : Nat → Nat → Nat) (sz : Nat) (tv2 : Nat) (p1 : Int32) (p2 : Int32) (p3 : Int32) (g_p1 : RG p1 0 255) (g_p2 : RG p2 0 0) (g_p3 : RG p3 8 8) : Met l yJ1_indexOfChar_4cfef wf_c_J1_indexOfChar_4cfef_2 ({ frames := 0, cells := 0, slots := 0, locals := 0 }) (va_Pc [.ref tv2, .int p1, .int p2, .int p3] (fun U => U.heap.size = sz ∧ va_P (dC, dI) vwCl [] U.heap ∧ va_K (dC, dI) vwCl [] U ∧ va_D (fun _ => True) [] ∧ va_T .byte tv2 8 (fun j => .int ([120, 121, 99, 97, 101, 102, 111, 114].getD j 0)) (va_A [] sz) U U.heap)) (va_Qi (fun (r : Int32) (u : Unit) => (r = (-1) ∧ r = fx_c_J1_indexOfChar_4cfef_2 p1 p2 p3) ∨ (RG r 0 7 ∧ r = fx_c_J1_indexOfChar_4cfef_2 p1 p2 p3)) (fun (u : Unit) t => va_P (dC, dI) vwCl [] t.heap ∧ va_K (dC, dI) vwCl [] t ∧ va_D (va_A [] sz) []) (va_A [] sz)) 0 0 (va_A [] sz) := by
  refine Met.ofW (cc := cJ1_indexOfChar_4cfef) (maxL := 6) (ret := (some .int)) (by decide +kernel) rfl ?_
  intro p e s m args below meth c s₁ B hml hv
  obtain ⟨rfl, hsz, hP, hK, hD0, hE_26⟩ := hv
  have hx := B.exec
  have hb := B.bytes
  have hr := B.returns
  have hts := atoms_spec (ws := wf_c_J1_indexOfChar_4cfef_2) B.pre
  have hown : s.vm.findClass RJ1 = some m.cls := findClass_of_methodNamed B.named
  have hlocks := B.notSynchronized
  subst hsz
  have hD := hD0.self (sz := s.heap.size)
  generalize hAe : va_A [] s.heap.size = A at hD hE_26 ⊢
  have hA : ∀ q : Nat, s.heap.size ≤ q → A q := fun q h => by rw [← hAe]; exact Or.inr h
  have hP : va_P (dC, dI) vwCl [] s.heap := hP
  have hl := lv_entry ([.ref tv2, .int p1, .int p2, .int p3]) (n := 6) (Nat.le_of_ble_eq_true rfl)
  rw [lg_entry_eq]
  generalize (lg_sl ([.ref tv2, .int p1, .int p2, .int p3]) ++ List.replicate (6 - (lg_sl ([.ref tv2, .int p1, .int p2, .int p3])).length) Slot.unset).toArray = ls at hl ⊢
  have hl : lv_has ls 6 [(0, .ref tv2), (1, .int p1), (2, .int p2), (3, .int p3)] := hl
  obtain ⟨H, hHe⟩ : ∃ H : Heap, s.heap = H := ⟨_, rfl⟩
  have hS : va_S A s.heap H [] := by rw [hHe]; exact va_S.rf
  have hP : va_P (dC, dI) vwCl [] H := by rw [← hHe]; exact hP
  rw [hHe]
  obtain ⟨RES, hR⟩ : ∃ z, fx_c_J1_indexOfChar_4cfef_2 p1 p2 p3 = z := ⟨_, rfl⟩
  have hEX : RES = fx_c_J1_indexOfChar_4cfef_2 p1 p2 p3 := hR.symm
  refine lv_iload_n hx hb dJ1_indexOfChar_4cfef_0 rfl (lv_at hl 1 rfl) ?_
  as_aux_lemma =>
  refine lv_i2b hx hb dJ1_indexOfChar_4cfef_1 rfl ?_
  refine lv_topi (fun x_1 ex_1 => ?_)
  replace hEX := hEX.trans (exl_eq ex_1)
  refine lv_istore (lv' := [(4, .int x_1), (0, .ref tv2), (1, .int p1), (2, .int p2), (3, .int p3)]) hx hb dJ1_indexOfChar_4cfef_2 hl (Nat.le_of_ble_eq_true rfl) rfl (fun ls hl => ?_)
  refine lv_iload_n hx hb dJ1_indexOfChar_4cfef_4 rfl (lv_at hl 3 rfl) ?_
  refine lv_istore (lv' := [(5, .int p2), (4, .int x_1), (0, .ref tv2), (1, .int p1), (2, .int p2), (3, .int p3)]) hx hb dJ1_indexOfChar_4cfef_5 hl (Nat.le_of_ble_eq_true rfl) rfl (fun ls hl => ?_)
  refine lv_iload hx hb dJ1_indexOfChar_4cfef_7 (lv_at hl 0 rfl) ?_
  refine lv_iload_n hx hb dJ1_indexOfChar_4cfef_9 rfl (lv_at hl 5 rfl) ?_
  refine lv_icmp_ge (tgt := 31) hx hb dJ1_indexOfChar_4cfef_10 rfl (fun c_2 => ?_) (fun c_2 => ?_)
  · replace hEX := hEX.trans (if_pos c_2)
    have g_3 : RG p3 8 0 := RG_le1 g_p3 g_p2 c_2 (by decide +kernel)
    exact RG_dead (RG_le1 g_p3 g_p2 c_2 (b' := 0) (by decide +kernel)) (by decide +kernel)
  · replace hEX := hEX.trans (if_neg c_2)
    have d_4 := Int32.not_le.mp c_2
    refine lv_aload_n hx hb dJ1_indexOfChar_4cfef_13 rfl (lv_at hl 2 rfl) ?_
    as_aux_lemma =>
    refine lv_iload hx hb dJ1_indexOfChar_4cfef_14 (lv_at hl 0 rfl) ?_
    refine va_tb hx hb hE_26 hS (RG_in g_p2 (by decide +kernel)) rfl dJ1_indexOfChar_4cfef_16 ?_
    refine lv_topi (fun x_5 ex_5 => ?_)
    replace hEX := hEX.trans (exl_eq ex_5)
    have g_6 : RG x_5 0 121 := RG_tab ex_5 (by decide +kernel)
    refine lv_iload hx hb dJ1_indexOfChar_4cfef_17 (lv_at hl 1 rfl) ?_
    refine lv_icmp_ne (tgt := 25) hx hb dJ1_indexOfChar_4cfef_19 rfl (fun c_7 => ?_) (fun c_7 => ?_)
    · replace hEX := hEX.trans (if_neg c_7)
      obtain ⟨x_8, ex_8⟩ : ∃ y : Int32, y = p2 + 1 := ⟨_, rfl⟩
      have g_9 : RG x_8 1 1 := RG_add ex_8 g_p2 (RG_k 1 1 rfl) (by decide +kernel)
      replace hEX := hEX.trans (exl_eq ex_8)
      refine lv_iinc (v := x_8) (lv' := [(5, .int x_8), (4, .int x_1), (0, .ref tv2), (1, .int p1), (2, .int p2), (3, .int p3)]) hx hb dJ1_indexOfChar_4cfef_25 hl (k := 0) rfl (by rw [ex_8]; rfl) (Nat.le_of_ble_eq_true rfl) rfl (fun ls hl => ?_)
      refine lv_goto (tgt := 7) hx hb dJ1_indexOfChar_4cfef_28 rfl ?_
      refine lv_iload hx hb dJ1_indexOfChar_4cfef_7 (lv_at hl 0 rfl) ?_
      as_aux_lemma =>
      refine lv_iload_n hx hb dJ1_indexOfChar_4cfef_9 rfl (lv_at hl 5 rfl) ?_
      refine lv_icmp_ge (tgt := 31) hx hb dJ1_indexOfChar_4cfef_10 rfl (fun c_10 => ?_) (fun c_10 => ?_)
      · replace hEX := hEX.trans (if_pos c_10)
        have g_11 : RG p3 8 1 := RG_le1 g_p3 g_9 c_10 (by decide +kernel)
        exact RG_dead (RG_le1 g_p3 g_9 c_10 (b' := 1) (by decide +kernel)) (by decide +kernel)
      · replace hEX := hEX.trans (if_neg c_10)
        have d_12 := Int32.not_le.mp c_10
        refine lv_aload_n hx hb dJ1_indexOfChar_4cfef_13 rfl (lv_at hl 2 rfl) ?_
        refine lv_iload hx hb dJ1_indexOfChar_4cfef_14 (lv_at hl 0 rfl) ?_
        refine va_tb hx hb hE_26 hS (RG_in g_9 (by decide +kernel)) rfl dJ1_indexOfChar_4cfef_16 ?_
        refine lv_topi (fun x_13 ex_13 => ?_)
        replace hEX := hEX.trans (exl_eq ex_13)
        have g_14 : RG x_13 0 121 := RG_tab ex_13 (by decide +kernel)
        refine lv_iload hx hb dJ1_indexOfChar_4cfef_17 (lv_at hl 1 rfl) ?_
        as_aux_lemma =>
        refine lv_icmp_ne (tgt := 25) hx hb dJ1_indexOfChar_4cfef_19 rfl (fun c_15 => ?_) (fun c_15 => ?_)
        · replace hEX := hEX.trans (if_neg c_15)
          obtain ⟨x_16, ex_16⟩ : ∃ y : Int32, y = x_8 + 1 := ⟨_, rfl⟩
          have g_17 : RG x_16 2 2 := RG_add ex_16 g_9 (RG_k 1 1 rfl) (by decide +kernel)
          replace hEX := hEX.trans (exl_eq ex_16)
          refine lv_iinc (v := x_16) (lv' := [(5, .int x_16), (4, .int x_1), (0, .ref tv2), (1, .int p1), (2, .int p2), (3, .int p3)]) hx hb dJ1_indexOfChar_4cfef_25 hl (k := 0) rfl (by rw [ex_16]; rfl) (Nat.le_of_ble_eq_true rfl) rfl (fun ls hl => ?_)
          refine lv_goto (tgt := 7) hx hb dJ1_indexOfChar_4cfef_28 rfl ?_
          refine lv_iload hx hb dJ1_indexOfChar_4cfef_7 (lv_at hl 0 rfl) ?_
          refine lv_iload_n hx hb dJ1_indexOfChar_4cfef_9 rfl (lv_at hl 5 rfl) ?_
          refine lv_icmp_ge (tgt := 31) hx hb dJ1_indexOfChar_4cfef_10 rfl (fun c_18 => ?_) (fun c_18 => ?_)
          · replace hEX := hEX.trans (if_pos c_18)
            have g_19 : RG p3 8 2 := RG_le1 g_p3 g_17 c_18 (by decide +kernel)
            exact RG_dead (RG_le1 g_p3 g_17 c_18 (b' := 2) (by decide +kernel)) (by decide +kernel)
          · replace hEX := hEX.trans (if_neg c_18)
            have d_20 := Int32.not_le.mp c_18
            refine lv_aload_n hx hb dJ1_indexOfChar_4cfef_13 rfl (lv_at hl 2 rfl) ?_
            as_aux_lemma =>
            refine lv_iload hx hb dJ1_indexOfChar_4cfef_14 (lv_at hl 0 rfl) ?_
            refine va_tb hx hb hE_26 hS (RG_in g_17 (by decide +kernel)) rfl dJ1_indexOfChar_4cfef_16 ?_
            refine lv_topi (fun x_21 ex_21 => ?_)
            replace hEX := hEX.trans (exl_eq ex_21)
            have g_22 : RG x_21 0 121 := RG_tab ex_21 (by decide +kernel)
            refine lv_iload hx hb dJ1_indexOfChar_4cfef_17 (lv_at hl 1 rfl) ?_
            refine lv_icmp_ne (tgt := 25) hx hb dJ1_indexOfChar_4cfef_19 rfl (fun c_23 => ?_) (fun c_23 => ?_)
            · replace hEX := hEX.trans (if_neg c_23)
              obtain ⟨x_24, ex_24⟩ : ∃ y : Int32, y = x_16 + 1 := ⟨_, rfl⟩
              have g_25 : RG x_24 3 3 := RG_add ex_24 g_17 (RG_k 1 1 rfl) (by decide +kernel)
              replace hEX := hEX.trans (exl_eq ex_24)
              refine lv_iinc (v := x_24) (lv' := [(5, .int x_24), (4, .int x_1), (0, .ref tv2), (1, .int p1), (2, .int p2), (3, .int p3)]) hx hb dJ1_indexOfChar_4cfef_25 hl (k := 0) rfl (by rw [ex_24]; rfl) (Nat.le_of_ble_eq_true rfl) rfl (fun ls hl => ?_)
              refine lv_goto (tgt := 7) hx hb dJ1_indexOfChar_4cfef_28 rfl ?_
              refine lv_iload hx hb dJ1_indexOfChar_4cfef_7 (lv_at hl 0 rfl) ?_
              as_aux_lemma =>
              refine lv_iload_n hx hb dJ1_indexOfChar_4cfef_9 rfl (lv_at hl 5 rfl) ?_
              refine lv_icmp_ge (tgt := 31) hx hb dJ1_indexOfChar_4cfef_10 rfl (fun c_26 => ?_) (fun c_26 => ?_)
              · replace hEX := hEX.trans (if_pos c_26)
                have g_27 : RG p3 8 3 := RG_le1 g_p3 g_25 c_26 (by decide +kernel)
                exact RG_dead (RG_le1 g_p3 g_25 c_26 (b' := 3) (by decide +kernel)) (by decide +kernel)
              · replace hEX := hEX.trans (if_neg c_26)
                have d_28 := Int32.not_le.mp c_26
                refine lv_aload_n hx hb dJ1_indexOfChar_4cfef_13 rfl (lv_at hl 2 rfl) ?_
                refine lv_iload hx hb dJ1_indexOfChar_4cfef_14 (lv_at hl 0 rfl) ?_
                refine va_tb hx hb hE_26 hS (RG_in g_25 (by decide +kernel)) rfl dJ1_indexOfChar_4cfef_16 ?_
                refine lv_topi (fun x_29 ex_29 => ?_)
                replace hEX := hEX.trans (exl_eq ex_29)
                have g_30 : RG x_29 0 121 := RG_tab ex_29 (by decide +kernel)
                refine lv_iload hx hb dJ1_indexOfChar_4cfef_17 (lv_at hl 1 rfl) ?_
                as_aux_lemma =>
                refine lv_icmp_ne (tgt := 25) hx hb dJ1_indexOfChar_4cfef_19 rfl (fun c_31 => ?_) (fun c_31 => ?_)
                · replace hEX := hEX.trans (if_neg c_31)
                  obtain ⟨x_32, ex_32⟩ : ∃ y : Int32, y = x_24 + 1 := ⟨_, rfl⟩
                  have g_33 : RG x_32 4 4 := RG_add ex_32 g_25 (RG_k 1 1 rfl) (by decide +kernel)
                  replace hEX := hEX.trans (exl_eq ex_32)
                  refine lv_iinc (v := x_32) (lv' := [(5, .int x_32), (4, .int x_1), (0, .ref tv2), (1, .int p1), (2, .int p2), (3, .int p3)]) hx hb dJ1_indexOfChar_4cfef_25 hl (k := 0) rfl (by rw [ex_32]; rfl) (Nat.le_of_ble_eq_true rfl) rfl (fun ls hl => ?_)
                  refine lv_goto (tgt := 7) hx hb dJ1_indexOfChar_4cfef_28 rfl ?_
                  refine lv_iload hx hb dJ1_indexOfChar_4cfef_7 (lv_at hl 0 rfl) ?_
                  refine lv_iload_n hx hb dJ1_indexOfChar_4cfef_9 rfl (lv_at hl 5 rfl) ?_
                  refine lv_icmp_ge (tgt := 31) hx hb dJ1_indexOfChar_4cfef_10 rfl (fun c_34 => ?_) (fun c_34 => ?_)
                  · replace hEX := hEX.trans (if_pos c_34)
                    have g_35 : RG p3 8 4 := RG_le1 g_p3 g_33 c_34 (by decide +kernel)
                    exact RG_dead (RG_le1 g_p3 g_33 c_34 (b' := 4) (by decide +kernel)) (by decide +kernel)
                  · replace hEX := hEX.trans (if_neg c_34)
                    have d_36 := Int32.not_le.mp c_34
                    refine lv_aload_n hx hb dJ1_indexOfChar_4cfef_13 rfl (lv_at hl 2 rfl) ?_
                    as_aux_lemma =>
                    refine lv_iload hx hb dJ1_indexOfChar_4cfef_14 (lv_at hl 0 rfl) ?_
                    refine va_tb hx hb hE_26 hS (RG_in g_33 (by decide +kernel)) rfl dJ1_indexOfChar_4cfef_16 ?_
                    refine lv_topi (fun x_37 ex_37 => ?_)
                    replace hEX := hEX.trans (exl_eq ex_37)
                    have g_38 : RG x_37 0 121 := RG_tab ex_37 (by decide +kernel)
                    refine lv_iload hx hb dJ1_indexOfChar_4cfef_17 (lv_at hl 1 rfl) ?_
                    refine lv_icmp_ne (tgt := 25) hx hb dJ1_indexOfChar_4cfef_19 rfl (fun c_39 => ?_) (fun c_39 => ?_)
                    · replace hEX := hEX.trans (if_neg c_39)
                      obtain ⟨x_40, ex_40⟩ : ∃ y : Int32, y = x_32 + 1 := ⟨_, rfl⟩
                      have g_41 : RG x_40 5 5 := RG_add ex_40 g_33 (RG_k 1 1 rfl) (by decide +kernel)
                      replace hEX := hEX.trans (exl_eq ex_40)
                      refine lv_iinc (v := x_40) (lv' := [(5, .int x_40), (4, .int x_1), (0, .ref tv2), (1, .int p1), (2, .int p2), (3, .int p3)]) hx hb dJ1_indexOfChar_4cfef_25 hl (k := 0) rfl (by rw [ex_40]; rfl) (Nat.le_of_ble_eq_true rfl) rfl (fun ls hl => ?_)
                      refine lv_goto (tgt := 7) hx hb dJ1_indexOfChar_4cfef_28 rfl ?_
                      refine lv_iload hx hb dJ1_indexOfChar_4cfef_7 (lv_at hl 0 rfl) ?_
                      as_aux_lemma =>
                      refine lv_iload_n hx hb dJ1_indexOfChar_4cfef_9 rfl (lv_at hl 5 rfl) ?_
                      refine lv_icmp_ge (tgt := 31) hx hb dJ1_indexOfChar_4cfef_10 rfl (fun c_42 => ?_) (fun c_42 => ?_)
                      · replace hEX := hEX.trans (if_pos c_42)
                        have g_43 : RG p3 8 5 := RG_le1 g_p3 g_41 c_42 (by decide +kernel)
                        exact RG_dead (RG_le1 g_p3 g_41 c_42 (b' := 5) (by decide +kernel)) (by decide +kernel)
                      · replace hEX := hEX.trans (if_neg c_42)
                        have d_44 := Int32.not_le.mp c_42
                        refine lv_aload_n hx hb dJ1_indexOfChar_4cfef_13 rfl (lv_at hl 2 rfl) ?_
                        refine lv_iload hx hb dJ1_indexOfChar_4cfef_14 (lv_at hl 0 rfl) ?_
                        refine va_tb hx hb hE_26 hS (RG_in g_41 (by decide +kernel)) rfl dJ1_indexOfChar_4cfef_16 ?_
                        refine lv_topi (fun x_45 ex_45 => ?_)
                        replace hEX := hEX.trans (exl_eq ex_45)
                        have g_46 : RG x_45 0 121 := RG_tab ex_45 (by decide +kernel)
                        refine lv_iload hx hb dJ1_indexOfChar_4cfef_17 (lv_at hl 1 rfl) ?_
                        as_aux_lemma =>
                        refine lv_icmp_ne (tgt := 25) hx hb dJ1_indexOfChar_4cfef_19 rfl (fun c_47 => ?_) (fun c_47 => ?_)
                        · replace hEX := hEX.trans (if_neg c_47)
                          obtain ⟨x_48, ex_48⟩ : ∃ y : Int32, y = x_40 + 1 := ⟨_, rfl⟩
                          have g_49 : RG x_48 6 6 := RG_add ex_48 g_41 (RG_k 1 1 rfl) (by decide +kernel)
                          replace hEX := hEX.trans (exl_eq ex_48)
                          refine lv_iinc (v := x_48) (lv' := [(5, .int x_48), (4, .int x_1), (0, .ref tv2), (1, .int p1), (2, .int p2), (3, .int p3)]) hx hb dJ1_indexOfChar_4cfef_25 hl (k := 0) rfl (by rw [ex_48]; rfl) (Nat.le_of_ble_eq_true rfl) rfl (fun ls hl => ?_)
                          refine lv_goto (tgt := 7) hx hb dJ1_indexOfChar_4cfef_28 rfl ?_
                          refine lv_iload hx hb dJ1_indexOfChar_4cfef_7 (lv_at hl 0 rfl) ?_
                          refine lv_iload_n hx hb dJ1_indexOfChar_4cfef_9 rfl (lv_at hl 5 rfl) ?_
                          refine lv_icmp_ge (tgt := 31) hx hb dJ1_indexOfChar_4cfef_10 rfl (fun c_50 => ?_) (fun c_50 => ?_)
                          · replace hEX := hEX.trans (if_pos c_50)
                            have g_51 : RG p3 8 6 := RG_le1 g_p3 g_49 c_50 (by decide +kernel)
                            exact RG_dead (RG_le1 g_p3 g_49 c_50 (b' := 6) (by decide +kernel)) (by decide +kernel)
                          · replace hEX := hEX.trans (if_neg c_50)
                            have d_52 := Int32.not_le.mp c_50
                            refine lv_aload_n hx hb dJ1_indexOfChar_4cfef_13 rfl (lv_at hl 2 rfl) ?_
                            as_aux_lemma =>
                            refine lv_iload hx hb dJ1_indexOfChar_4cfef_14 (lv_at hl 0 rfl) ?_
                            refine va_tb hx hb hE_26 hS (RG_in g_49 (by decide +kernel)) rfl dJ1_indexOfChar_4cfef_16 ?_
                            refine lv_topi (fun x_53 ex_53 => ?_)
                            replace hEX := hEX.trans (exl_eq ex_53)
                            have g_54 : RG x_53 0 121 := RG_tab ex_53 (by decide +kernel)
                            refine lv_iload hx hb dJ1_indexOfChar_4cfef_17 (lv_at hl 1 rfl) ?_
                            refine lv_icmp_ne (tgt := 25) hx hb dJ1_indexOfChar_4cfef_19 rfl (fun c_55 => ?_) (fun c_55 => ?_)
                            · replace hEX := hEX.trans (if_neg c_55)
                              obtain ⟨x_56, ex_56⟩ : ∃ y : Int32, y = x_48 + 1 := ⟨_, rfl⟩
                              have g_57 : RG x_56 7 7 := RG_add ex_56 g_49 (RG_k 1 1 rfl) (by decide +kernel)
                              replace hEX := hEX.trans (exl_eq ex_56)
                              refine lv_iinc (v := x_56) (lv' := [(5, .int x_56), (4, .int x_1), (0, .ref tv2), (1, .int p1), (2, .int p2), (3, .int p3)]) hx hb dJ1_indexOfChar_4cfef_25 hl (k := 0) rfl (by rw [ex_56]; rfl) (Nat.le_of_ble_eq_true rfl) rfl (fun ls hl => ?_)
                              refine lv_goto (tgt := 7) hx hb dJ1_indexOfChar_4cfef_28 rfl ?_
                              refine lv_iload hx hb dJ1_indexOfChar_4cfef_7 (lv_at hl 0 rfl) ?_
                              as_aux_lemma =>
                              refine lv_iload_n hx hb dJ1_indexOfChar_4cfef_9 rfl (lv_at hl 5 rfl) ?_
                              refine lv_icmp_ge (tgt := 31) hx hb dJ1_indexOfChar_4cfef_10 rfl (fun c_58 => ?_) (fun c_58 => ?_)
                              · replace hEX := hEX.trans (if_pos c_58)
                                have g_59 : RG p3 8 7 := RG_le1 g_p3 g_57 c_58 (by decide +kernel)
                                exact RG_dead (RG_le1 g_p3 g_57 c_58 (b' := 7) (by decide +kernel)) (by decide +kernel)
                              · replace hEX := hEX.trans (if_neg c_58)
                                have d_60 := Int32.not_le.mp c_58
                                refine lv_aload_n hx hb dJ1_indexOfChar_4cfef_13 rfl (lv_at hl 2 rfl) ?_
                                refine lv_iload hx hb dJ1_indexOfChar_4cfef_14 (lv_at hl 0 rfl) ?_
                                refine va_tb hx hb hE_26 hS (RG_in g_57 (by decide +kernel)) rfl dJ1_indexOfChar_4cfef_16 ?_
                                refine lv_topi (fun x_61 ex_61 => ?_)
                                replace hEX := hEX.trans (exl_eq ex_61)
                                have g_62 : RG x_61 0 121 := RG_tab ex_61 (by decide +kernel)
                                refine lv_iload hx hb dJ1_indexOfChar_4cfef_17 (lv_at hl 1 rfl) ?_
                                as_aux_lemma =>
                                refine lv_icmp_ne (tgt := 25) hx hb dJ1_indexOfChar_4cfef_19 rfl (fun c_63 => ?_) (fun c_63 => ?_)
                                · replace hEX := hEX.trans (if_neg c_63)
                                  obtain ⟨x_64, ex_64⟩ : ∃ y : Int32, y = x_56 + 1 := ⟨_, rfl⟩
                                  have g_65 : RG x_64 8 8 := RG_add ex_64 g_57 (RG_k 1 1 rfl) (by decide +kernel)
                                  replace hEX := hEX.trans (exl_eq ex_64)
                                  refine lv_iinc (v := x_64) (lv' := [(5, .int x_64), (4, .int x_1), (0, .ref tv2), (1, .int p1), (2, .int p2), (3, .int p3)]) hx hb dJ1_indexOfChar_4cfef_25 hl (k := 0) rfl (by rw [ex_64]; rfl) (Nat.le_of_ble_eq_true rfl) rfl (fun ls hl => ?_)
                                  refine lv_goto (tgt := 7) hx hb dJ1_indexOfChar_4cfef_28 rfl ?_
                                  refine lv_iload hx hb dJ1_indexOfChar_4cfef_7 (lv_at hl 0 rfl) ?_
                                  refine lv_iload_n hx hb dJ1_indexOfChar_4cfef_9 rfl (lv_at hl 5 rfl) ?_
                                  refine lv_icmp_ge (tgt := 31) hx hb dJ1_indexOfChar_4cfef_10 rfl (fun c_66 => ?_) (fun c_66 => ?_)
                                  · replace hEX := hEX.trans (if_pos c_66)
                                    refine lv_iconst (v := (-1)) hx hb dJ1_indexOfChar_4cfef_31 kc_iconst_m1 ?_
                                    have hK9 := hK.sub (tys' := []) [] rfl
                                    exact W.iret (v := (-1)) hx hb hr (fun t ht hW => ⟨⟨(-1), (), rfl, (Or.inl ⟨rfl, (hR.trans hEX).symm⟩), by rw [ht]; exact hP, va_K.moved hW.alike hK9, hD⟩, hS.F ht⟩) hS.2.2 dJ1_indexOfChar_4cfef_32
                                  · replace hEX := hEX.trans (if_neg c_66)
                                    have d_67 := Int32.not_le.mp c_66
                                    have g_68 : RG x_64 8 7 := RG_lt1 g_65 g_p3 d_67 (by decide +kernel)
                                    exact RG_dead (RG_lt1 g_65 g_p3 d_67 (b' := 7) (by decide +kernel)) (by decide +kernel)
                                · replace hEX := hEX.trans (if_pos c_63)
                                  have g_69 : RG x_1 0 121 := RG_eq1 (RG_any x_1) g_62 c_63.symm (by decide +kernel)
                                  refine lv_iload hx hb dJ1_indexOfChar_4cfef_22 (lv_at hl 0 rfl) ?_
                                  as_aux_lemma =>
                                  have hK9 := hK.sub (tys' := []) [] rfl
                                  exact W.iret (v := x_56) hx hb hr (fun t ht hW => ⟨⟨x_56, (), rfl, (Or.inr ⟨(RG_w g_57 (by decide +kernel)), (hR.trans hEX).symm⟩), by rw [ht]; exact hP, va_K.moved hW.alike hK9, hD⟩, hS.F ht⟩) hS.2.2 dJ1_indexOfChar_4cfef_24
                            · replace hEX := hEX.trans (if_pos c_55)
                              have g_70 : RG x_1 0 121 := RG_eq1 (RG_any x_1) g_54 c_55.symm (by decide +kernel)
                              refine lv_iload hx hb dJ1_indexOfChar_4cfef_22 (lv_at hl 0 rfl) ?_
                              have hK9 := hK.sub (tys' := []) [] rfl
                              exact W.iret (v := x_48) hx hb hr (fun t ht hW => ⟨⟨x_48, (), rfl, (Or.inr ⟨(RG_w g_49 (by decide +kernel)), (hR.trans hEX).symm⟩), by rw [ht]; exact hP, va_K.moved hW.alike hK9, hD⟩, hS.F ht⟩) hS.2.2 dJ1_indexOfChar_4cfef_24
                        · replace hEX := hEX.trans (if_pos c_47)
                          have g_71 : RG x_1 0 121 := RG_eq1 (RG_any x_1) g_46 c_47.symm (by decide +kernel)
                          refine lv_iload hx hb dJ1_indexOfChar_4cfef_22 (lv_at hl 0 rfl) ?_
                          have hK9 := hK.sub (tys' := []) [] rfl
                          exact W.iret (v := x_40) hx hb hr (fun t ht hW => ⟨⟨x_40, (), rfl, (Or.inr ⟨(RG_w g_41 (by decide +kernel)), (hR.trans hEX).symm⟩), by rw [ht]; exact hP, va_K.moved hW.alike hK9, hD⟩, hS.F ht⟩) hS.2.2 dJ1_indexOfChar_4cfef_24
                    · replace hEX := hEX.trans (if_pos c_39)
                      have g_72 : RG x_1 0 121 := RG_eq1 (RG_any x_1) g_38 c_39.symm (by decide +kernel)
                      refine lv_iload hx hb dJ1_indexOfChar_4cfef_22 (lv_at hl 0 rfl) ?_
                      as_aux_lemma =>
                      have hK9 := hK.sub (tys' := []) [] rfl
                      exact W.iret (v := x_32) hx hb hr (fun t ht hW => ⟨⟨x_32, (), rfl, (Or.inr ⟨(RG_w g_33 (by decide +kernel)), (hR.trans hEX).symm⟩), by rw [ht]; exact hP, va_K.moved hW.alike hK9, hD⟩, hS.F ht⟩) hS.2.2 dJ1_indexOfChar_4cfef_24
                · replace hEX := hEX.trans (if_pos c_31)
                  have g_73 : RG x_1 0 121 := RG_eq1 (RG_any x_1) g_30 c_31.symm (by decide +kernel)
                  refine lv_iload hx hb dJ1_indexOfChar_4cfef_22 (lv_at hl 0 rfl) ?_
                  have hK9 := hK.sub (tys' := []) [] rfl
                  exact W.iret (v := x_24) hx hb hr (fun t ht hW => ⟨⟨x_24, (), rfl, (Or.inr ⟨(RG_w g_25 (by decide +kernel)), (hR.trans hEX).symm⟩), by rw [ht]; exact hP, va_K.moved hW.alike hK9, hD⟩, hS.F ht⟩) hS.2.2 dJ1_indexOfChar_4cfef_24
            · replace hEX := hEX.trans (if_pos c_23)
              have g_74 : RG x_1 0 121 := RG_eq1 (RG_any x_1) g_22 c_23.symm (by decide +kernel)
              refine lv_iload hx hb dJ1_indexOfChar_4cfef_22 (lv_at hl 0 rfl) ?_
              have hK9 := hK.sub (tys' := []) [] rfl
              exact W.iret (v := x_16) hx hb hr (fun t ht hW => ⟨⟨x_16, (), rfl, (Or.inr ⟨(RG_w g_17 (by decide +kernel)), (hR.trans hEX).symm⟩), by rw [ht]; exact hP, va_K.moved hW.alike hK9, hD⟩, hS.F ht⟩) hS.2.2 dJ1_indexOfChar_4cfef_24
        · replace hEX := hEX.trans (if_pos c_15)
          have g_75 : RG x_1 0 121 := RG_eq1 (RG_any x_1) g_14 c_15.symm (by decide +kernel)
          refine lv_iload hx hb dJ1_indexOfChar_4cfef_22 (lv_at hl 0 rfl) ?_
          as_aux_lemma =>
          have hK9 := hK.sub (tys' := []) [] rfl
          exact W.iret (v := x_8) hx hb hr (fun t ht hW => ⟨⟨x_8, (), rfl, (Or.inr ⟨(RG_w g_9 (by decide +kernel)), (hR.trans hEX).symm⟩), by rw [ht]; exact hP, va_K.moved hW.alike hK9, hD⟩, hS.F ht⟩) hS.2.2 dJ1_indexOfChar_4cfef_24
    · replace hEX := hEX.trans (if_pos c_7)
      have g_76 : RG x_1 0 121 := RG_eq1 (RG_any x_1) g_6 c_7.symm (by decide +kernel)
      refine lv_iload hx hb dJ1_indexOfChar_4cfef_22 (lv_at hl 0 rfl) ?_
      have hK9 := hK.sub (tys' := []) [] rfl
      exact W.iret (v := p2) hx hb hr (fun t ht hW => ⟨⟨p2, (), rfl, (Or.inr ⟨(RG_w g_p2 (by decide +kernel)), (hR.trans hEX).symm⟩), by rw [ht]; exact hP, va_K.moved hW.alike hK9, hD⟩, hS.F ht⟩) hS.2.2 dJ1_indexOfChar_4cfef_24
