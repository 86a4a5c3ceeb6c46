def wf_c_X9_bytesIn : List Cond := .code yX9_bytesIn cX9_bytesIn 3 (some .int) :: ([])
set_option maxHeartbeats 4000000 in
set_option maxRecDepth 100000 in
theorem c_X9_bytesIn (l : Launch) (dC : Nat → ClassId) (dI : Nat → Nat → Nat) (sz : Nat) (p0 : Int32) : Met l yX9_bytesIn wf_c_X9_bytesIn ({ frames := 0, cells := 0, slots := 0, locals := 0 }) (va_Pc [.int p0] (fun U => U.heap.size = sz ∧ va_P (dC, dI) vwCl [] U.heap ∧ va_K (dC, dI) vwCl [] U ∧ va_D (fun _ => True) [])) (va_Qi (fun (r : Int32) (u : Unit) => (RG r (-2147483648) 2147483647)) (fun (u : Unit) t => va_P (dC, dI) vwCl [] t.heap ∧ va_K (dC, dI) vwCl [] t ∧ va_D (va_A [] sz) []) (va_A [] sz)) 0 0 (va_A [] sz) := by
  refine Met.ofW (cc := cX9_bytesIn) (maxL := 3) (ret := (some .int)) (by decide) rfl ?_
  intro p e s m args below meth c s₁ B hml hv
  obtain ⟨rfl, hsz, hP, hK, hD0⟩ := hv
  have hx := B.exec
  have hb := B.bytes
  have hr := B.returns
  have hts := atoms_spec (ws := wf_c_X9_bytesIn) B.pre
  have hown : s.vm.findClass RX9 = some m.cls := findClass_of_methodNamed B.named
  have hlocks := B.notSynchronized
  subst hsz
  have hD := hD0.self (sz := s.heap.size)
  generalize hAe : va_A [] s.heap.size = A at hD ⊢
  have hA : ∀ q : Nat, s.heap.size ≤ q → A q := fun q h => by rw [← hAe]; exact Or.inr h
  have hP : va_P (dC, dI) vwCl [] s.heap := hP
  have hl := lv_entry ([.int p0]) (n := 3) (Nat.le_of_ble_eq_true rfl)
  rw [lg_entry_eq]
  generalize (lg_sl ([.int p0]) ++ List.replicate (3 - (lg_sl ([.int p0])).length) Slot.unset).toArray = ls at hl ⊢
  have hl : lv_has ls 3 [(0, .int p0)] := hl
  obtain ⟨H, hHe⟩ : ∃ H : Heap, s.heap = H := ⟨_, rfl⟩
  have hS : va_S A s.heap H [] := by rw [hHe]; exact va_S.rf
  have hP : va_P (dC, dI) vwCl [] H := by rw [← hHe]; exact hP
  rw [hHe]
  refine wj (fun G hG hU => ?_)
  have J4 : ∀ (n4 : Nat) (j4_l2 : Int32) (j4_l1 : Int32) (hM4 : MU j4_l2 < n4) (g_j4_l2 : RG j4_l2 0 39) (H : Heap) (locs : List Loc) (ls : Array Slot) (hP : va_P (dC, dI) vwCl [] H) (hD : va_D A []) (hS : va_S A s.heap H locs) (hl : lv_has ls 3 [(2, .int j4_l2), (1, .int j4_l1), (0, .int p0)]), G H locs (F0 m 4 ls []) := by
    intro n4
    induction n4 with
    | zero => intros; exact absurd (by assumption) (Nat.not_lt_zero _)
    | succ n4 ih4 =>
      intro j4_l2 j4_l1 hM4 g_j4_l2 H locs ls hP hD hS hl
      have J23 : ∀ (j23_l1 : Int32) (g_j4_l2 : RG j4_l2 0 31) (H : Heap) (locs : List Loc) (ls : Array Slot) (hP : va_P (dC, dI) vwCl [] H) (hD : va_D A []) (hS : va_S A s.heap H locs) (hl : lv_has ls 3 [(2, .int j4_l2), (1, .int j23_l1), (0, .int p0)]), G H locs (F0 m 23 ls []) := by
        intro j23_l1 g_j4_l2 H locs ls hP hD hS hl
        refine hG _ _ _ ?_
        obtain ⟨x_1, ex_1⟩ : ∃ y : Int32, y = j4_l2 + 8 := ⟨_, rfl⟩
        have g_2 : RG x_1 8 39 := RG_add ex_1 g_j4_l2 (RG_k 8 8 rfl) (by decide)
        refine lv_iinc (v := x_1) (lv' := [(2, .int x_1), (1, .int j23_l1), (0, .int p0)]) hx hb dX9_bytesIn_23 hl (k := 0) rfl (by rw [ex_1]; rfl) (Nat.le_of_ble_eq_true rfl) rfl (fun ls hl => ?_)
        refine lv_goto (tgt := 4) hx hb dX9_bytesIn_26 rfl ?_
        exact hU _ _ _ (ih4 x_1 j23_l1 (mu_s (MU_add ex_1 g_j4_l2 (q := 8) rfl (by decide)) hM4) (RG_w g_2 (by decide)) _ _ _ hP hD hS (lv_sub hl [0, 1, 2] rfl))
      refine hG _ _ _ ?_
      refine lv_iload_n hx hb dX9_bytesIn_4 rfl (lv_at hl 0 rfl) ?_
      refine lv_bipush (v := 32) hx hb dX9_bytesIn_5 kc_bipush_32 ?_
      refine lv_icmp_ge (tgt := 29) hx hb dX9_bytesIn_7 rfl (fun c_3 => ?_) (fun c_3 => ?_)
      · have g_4 : RG j4_l2 32 39 := RG_le2 (RG_k 32 32 rfl) g_j4_l2 c_3 (by decide)
        refine lv_iload_n hx hb dX9_bytesIn_29 rfl (lv_at hl 1 rfl) ?_
        have hK9 := hK.sub (tys' := []) [] rfl
        exact W.iret (v := j4_l1) hx hb hr (fun t ht hW => ⟨⟨j4_l1, (), rfl, (RG_any j4_l1), by rw [ht]; exact hP, va_K.moved hW.alike hK9, hD⟩, hS.F ht⟩) hS.2.2 dX9_bytesIn_30
      · have d_5 := Int32.not_le.mp c_3
        have g_6 : RG j4_l2 0 31 := RG_lt1 g_j4_l2 (RG_k 32 32 rfl) d_5 (by decide)
        refine lv_iload_n hx hb dX9_bytesIn_10 rfl (lv_at hl 2 rfl) ?_
        refine lv_iload_n hx hb dX9_bytesIn_11 rfl (lv_at hl 0 rfl) ?_
        refine lv_iushr hx hb dX9_bytesIn_12 rfl ?_
        refine lv_topi (fun x_7 ex_7 => ?_)
        refine lv_sipush (v := 255) hx hb dX9_bytesIn_13 kc_sipush_255 ?_
        refine lv_iand hx hb dX9_bytesIn_16 ?_
        refine lv_topi (fun x_8 ex_8 => ?_)
        have g_9 : RG x_8 0 255 := RG_andr ex_8 (RG_k 255 255 rfl) (by decide)
        refine lv_if_eq (tgt := 23) hx hb dX9_bytesIn_17 rfl (fun c_10 => ?_) (fun c_10 => ?_)
        · have g_11 : RG x_8 0 0 := RG_eq1 g_9 (RG_k 0 0 rfl) c_10 (by decide)
          exact hU _ _ _ (J23 j4_l1 g_6 _ _ _ hP hD hS (lv_sub hl [0, 1, 2] rfl))
        · have g_12 : RG x_8 1 255 := RG_ne1 g_9 (q := 0) rfl c_10 (by decide)
          obtain ⟨x_13, ex_13⟩ : ∃ y : Int32, y = j4_l1 + 1 := ⟨_, rfl⟩
          refine lv_iinc (v := x_13) (lv' := [(1, .int x_13), (2, .int j4_l2), (0, .int p0)]) hx hb dX9_bytesIn_20 hl (k := 1) rfl (by rw [ex_13]; rfl) (Nat.le_of_ble_eq_true rfl) rfl (fun ls hl => ?_)
          exact hU _ _ _ (J23 x_13 g_6 _ _ _ hP hD hS (lv_sub hl [1, 0, 2] rfl))
  refine hG _ _ _ ?_
  refine lv_iconst (v := 0) hx hb dX9_bytesIn_0 kc_iconst_0 ?_
  refine lv_istore_n (lv' := [(1, .int 0), (0, .int p0)]) hx hb dX9_bytesIn_1 rfl hl (Nat.le_of_ble_eq_true rfl) rfl (fun ls hl => ?_)
  refine lv_iconst (v := 0) hx hb dX9_bytesIn_2 kc_iconst_0 ?_
  refine lv_istore_n (lv' := [(2, .int 0), (1, .int 0), (0, .int p0)]) hx hb dX9_bytesIn_3 rfl hl (Nat.le_of_ble_eq_true rfl) rfl (fun ls hl => ?_)
  exact hU _ _ _ (J4 _ 0 0 (Nat.lt_succ_self _) (RG_w (RG_k 0 0 rfl) (by decide)) _ _ _ hP hD hS (lv_sub hl [0, 1, 2] rfl))
def wd_c_X9_append (a0 : Nat) (a1 : Nat) (a2 : Int32) (a3 : Int32) (a4 : Int32) (a5 : Nat) (a6 : ClassId) (a7 : Nat → Int32) : va_W := [(a0, .inr (9, [.ref a1, .int a2, .int a3, .int a4])), (a5, .inl (a6, 240, .inl a7))]
def wf_c_X9_append : List Cond := .code yX9_append cX9_append 4 none :: ([.fieldLink RX9 19 "BuoyVote$Tape" "length" "I", .fieldLink RX9 11 "BuoyVote$Tape" "bytes" "[I"] ++ wsX90)
theorem iw_c_X9_append_X9 : ∀ w ∈ wsX90, w ∈ wf_c_X9_append := fun w h => List.mem_cons_of_mem _ (List.mem_append_right _ h)
set_option maxHeartbeats 4000000 in
set_option maxRecDepth 100000 in
theorem c_X9_append (l : Launch) (dC : Nat → ClassId) (dI : Nat → Nat → Nat) (sz : Nat) (h0 : Nat) (p1 : Int32) (h0_0 : Nat) (h0_f1 : Int32) (h0_f2 : Int32) (h0_f3 : Int32) (h0_0k : ClassId) (h0_0c : Nat → Int32) (g_h0_f1 : RG h0_f1 0 240) (g_h0_f2 : RG h0_f2 0 240) (g_h0_f3 : RG h0_f3 (-1) 240) (a_h0_0c : AI h0_0c 0 255) : Met l yX9_append wf_c_X9_append ({ frames := 0, cells := 0, slots := 0, locals := 0 }) (va_Pc [.ref h0, .int p1] (fun U => U.heap.size = sz ∧ va_P (dC, dI) vwCl (wd_c_X9_append h0 h0_0 h0_f1 h0_f2 h0_f3 h0_0 h0_0k h0_0c) U.heap ∧ va_K (dC, dI) vwCl [(h0_0k, .int)] U ∧ va_D (fun _ => True) (wd_c_X9_append h0 h0_0 h0_f1 h0_f2 h0_f3 h0_0 h0_0k h0_0c))) (va_Qv (fun (u : (Int32) × (Nat → Int32)) => (RG u.1 0 240 ∧ AI (u.2) 0 255)) (fun (u : (Int32) × (Nat → Int32)) t => va_P (dC, dI) vwCl (wd_c_X9_append h0 h0_0 (u.1) h0_f2 h0_f3 h0_0 h0_0k (u.2)) t.heap ∧ va_K (dC, dI) vwCl [] t ∧ va_D (va_A (wd_c_X9_append h0 h0_0 h0_f1 h0_f2 h0_f3 h0_0 h0_0k h0_0c) sz) (wd_c_X9_append h0 h0_0 (u.1) h0_f2 h0_f3 h0_0 h0_0k (u.2))) (va_A (wd_c_X9_append h0 h0_0 h0_f1 h0_f2 h0_f3 h0_0 h0_0k h0_0c) sz)) 0 0 (va_A (wd_c_X9_append h0 h0_0 h0_f1 h0_f2 h0_f3 h0_0 h0_0k h0_0c) sz) := by
  refine Met.ofW (cc := cX9_append) (maxL := 4) (ret := none) (by decide) rfl ?_
  intro p e s m args below meth c s₁ B hml hv
  obtain ⟨rfl, hsz, hP, hK, hD0⟩ := hv
  have hx := B.exec
  have hb := B.bytes
  have hr := B.returns
  have hts := atoms_spec (ws := wf_c_X9_append) B.pre
  have hown : s.vm.findClass RX9 = some m.cls := findClass_of_methodNamed B.named
  have hlocks := B.notSynchronized
  subst hsz
  have hD := hD0.self (sz := s.heap.size)
  generalize hAe : va_A (wd_c_X9_append h0 h0_0 h0_f1 h0_f2 h0_f3 h0_0 h0_0k h0_0c) s.heap.size = A at hD ⊢
  have hA : ∀ q : Nat, s.heap.size ≤ q → A q := fun q h => by rw [← hAe]; exact Or.inr h
  have hP : va_P (dC, dI) vwCl (wd_c_X9_append h0 h0_0 h0_f1 h0_f2 h0_f3 h0_0 h0_0k h0_0c) s.heap := hP
  have hl := lv_entry ([.ref h0, .int p1]) (n := 4) (Nat.le_of_ble_eq_true rfl)
  rw [lg_entry_eq]
  generalize (lg_sl ([.ref h0, .int p1]) ++ List.replicate (4 - (lg_sl ([.ref h0, .int p1])).length) Slot.unset).toArray = ls at hl ⊢
  have hl : lv_has ls 4 [(0, .ref h0), (1, .int p1)] := hl
  obtain ⟨H, hHe⟩ : ∃ H : Heap, s.heap = H := ⟨_, rfl⟩
  have hS : va_S A s.heap H [] := by rw [hHe]; exact va_S.rf
  have hP : va_P (dC, dI) vwCl (wd_c_X9_append h0 h0_0 h0_f1 h0_f2 h0_f3 h0_0 h0_0k h0_0c) H := by rw [← hHe]; exact hP
  rw [hHe]
  refine wj (fun G hG hU => ?_)
  have J3 : ∀ (n3 : Nat) (j3_l2 : Int32) (j3_h0_f1 : Int32) (j3_h0_0c : Nat → Int32) (hM3 : MD j3_l2 < n3) (g_h0_f1 : RG h0_f1 0 240) (g_h0_f2 : RG h0_f2 0 240) (g_h0_f3 : RG h0_f3 (-1) 240) (g_j3_h0_f1 : RG j3_h0_f1 0 240) (g_j3_l2 : RG j3_l2 (-8) 24) (a_j3_h0_0c : AI j3_h0_0c 0 255) (H : Heap) (locs : List Loc) (ls : Array Slot) (hP : va_P (dC, dI) vwCl (wd_c_X9_append h0 h0_0 j3_h0_f1 h0_f2 h0_f3 h0_0 h0_0k j3_h0_0c) H) (hD : va_D A (wd_c_X9_append h0 h0_0 j3_h0_f1 h0_f2 h0_f3 h0_0 h0_0k j3_h0_0c)) (hS : va_S A s.heap H locs) (hl : lv_has ls 4 [(2, .int j3_l2), (0, .ref h0), (1, .int p1)]), G H locs (F0 m 3 ls []) := by
    intro n3
    induction n3 with
    | zero => intros; exact absurd (by assumption) (Nat.not_lt_zero _)
    | succ n3 ih3 =>
      intro j3_l2 j3_h0_f1 j3_h0_0c hM3 g_h0_f1 g_h0_f2 g_h0_f3 g_j3_h0_f1 g_j3_l2 a_j3_h0_0c H locs ls hP hD hS hl
      have J49 : ∀ (j49_h0_f1 : Int32) (j49_h0_0c : Nat → Int32) (g_h0_f1 : RG h0_f1 0 240) (g_h0_f2 : RG h0_f2 0 240) (g_h0_f3 : RG h0_f3 (-1) 240) (g_j3_h0_f1 : RG j3_h0_f1 0 240) (g_j3_l2 : RG j3_l2 0 24) (g_j49_h0_f1 : RG j49_h0_f1 0 240) (a_j49_h0_0c : AI j49_h0_0c 0 255) (H : Heap) (locs : List Loc) (ls : Array Slot) (hP : va_P (dC, dI) vwCl (wd_c_X9_append h0 h0_0 j49_h0_f1 h0_f2 h0_f3 h0_0 h0_0k j49_h0_0c) H) (hD : va_D A (wd_c_X9_append h0 h0_0 j49_h0_f1 h0_f2 h0_f3 h0_0 h0_0k j49_h0_0c)) (hS : va_S A s.heap H locs) (hl : lv_has ls 4 [(2, .int j3_l2), (0, .ref h0), (1, .int p1)]), G H locs (F0 m 49 ls []) := by
        intro j49_h0_f1 j49_h0_0c g_h0_f1 g_h0_f2 g_h0_f3 g_j3_h0_f1 g_j3_l2 g_j49_h0_f1 a_j49_h0_0c H locs ls hP hD hS hl
        refine hG _ _ _ ?_
        obtain ⟨x_1, ex_1⟩ : ∃ y : Int32, y = j3_l2 + (-8) := ⟨_, rfl⟩
        have g_2 : RG x_1 (-8) 16 := RG_add ex_1 g_j3_l2 (RG_k (-8) (-8) rfl) (by decide)
        refine lv_iinc (v := x_1) (lv' := [(2, .int x_1), (0, .ref h0), (1, .int p1)]) hx hb dX9_append_49 hl (k := 0) rfl (by rw [ex_1]; rfl) (Nat.le_of_ble_eq_true rfl) rfl (fun ls hl => ?_)
        refine lv_goto (tgt := 3) hx hb dX9_append_52 rfl ?_
        exact hU _ _ _ (ih3 x_1 j49_h0_f1 j49_h0_0c (mu_s (MD_add ex_1 g_j3_l2 (q := (-8)) rfl (by decide)) hM3) g_h0_f1 g_h0_f2 g_h0_f3 g_j49_h0_f1 (RG_w g_2 (by decide)) a_j49_h0_0c _ _ _ hP hD hS (lv_sub hl [0, 1, 2] rfl))
      refine hG _ _ _ ?_
      refine lv_iload_n hx hb dX9_append_3 rfl (lv_at hl 0 rfl) ?_
      refine lv_if_lt (tgt := 55) hx hb dX9_append_4 rfl (fun c_3 => ?_) (fun c_3 => ?_)
      · have g_4 : RG j3_l2 (-8) (-1) := RG_lt1 g_j3_l2 (RG_k 0 0 rfl) c_3 (by decide)
        have hK9 := hK.sub (tys' := []) [] rfl
        exact W.vret hx hb hr (fun t ht hW => ⟨⟨(j3_h0_f1, j3_h0_0c), rfl, ⟨g_j3_h0_f1, a_j3_h0_0c⟩, by rw [ht]; exact hP, va_K.moved hW.alike hK9, hD⟩, hS.F ht⟩) hS.2.2 dX9_append_55
      · have d_5 := Int32.not_lt.mp c_3
        have g_6 : RG j3_l2 0 24 := RG_le2 (RG_k 0 0 rfl) g_j3_l2 d_5 (by decide)
        refine lv_iload_n hx hb dX9_append_7 rfl (lv_at hl 2 rfl) ?_
        refine lv_iload_n hx hb dX9_append_8 rfl (lv_at hl 0 rfl) ?_
        refine lv_iushr hx hb dX9_append_9 rfl ?_
        refine lv_topi (fun x_7 ex_7 => ?_)
        refine lv_sipush (v := 255) hx hb dX9_append_10 kc_sipush_255 ?_
        refine lv_iand hx hb dX9_append_13 ?_
        refine lv_topi (fun x_8 ex_8 => ?_)
        have g_9 : RG x_8 0 255 := RG_andr ex_8 (RG_k 255 255 rfl) (by decide)
        refine lv_istore_n (lv' := [(3, .int x_8), (2, .int j3_l2), (0, .ref h0), (1, .int p1)]) hx hb dX9_append_14 rfl hl (Nat.le_of_ble_eq_true rfl) rfl (fun ls hl => ?_)
        refine lv_iload_n hx hb dX9_append_15 rfl (lv_at hl 0 rfl) ?_
        refine lv_if_eq (tgt := 49) hx hb dX9_append_16 rfl (fun c_10 => ?_) (fun c_10 => ?_)
        · have g_11 : RG x_8 0 0 := RG_eq1 g_9 (RG_k 0 0 rfl) c_10 (by decide)
          exact hU _ _ _ (J49 j3_h0_f1 j3_h0_0c g_h0_f1 g_h0_f2 g_h0_f3 g_j3_h0_f1 g_6 g_j3_h0_f1 a_j3_h0_0c _ _ _ hP hD hS (lv_sub hl [1, 2, 3] rfl))
        · have g_12 : RG x_8 1 255 := RG_ne1 g_9 (q := 0) rfl c_10 (by decide)
          refine lv_aload_n hx hb dX9_append_19 rfl (lv_at hl 2 rfl) ?_
          refine va_get (D := (dC, dI)) (ci := 9) (v := .int j3_h0_f1) (C := RX9) (T := TX9) (N := 4) hx hb hts iw_c_X9_append_X9 hown hK hP 0 rfl rfl 1 (by decide) (hts (.fieldLink RX9 19 "BuoyVote$Tape" "length" "I") (List.mem_of_getElem? (i := 1) rfl)) (fun _ h9 => h9) rfl dX9_append_20 ?_
          refine lv_sipush (v := 240) hx hb dX9_append_23 kc_sipush_240 ?_
          refine lv_icmp_ge (tgt := 49) hx hb dX9_append_26 rfl (fun c_13 => ?_) (fun c_13 => ?_)
          · have g_14 : RG j3_h0_f1 240 240 := RG_le2 (RG_k 240 240 rfl) g_j3_h0_f1 c_13 (by decide)
            exact hU _ _ _ (J49 j3_h0_f1 j3_h0_0c g_h0_f1 g_h0_f2 g_h0_f3 (RG_w g_14 (by decide)) g_6 (RG_w g_14 (by decide)) a_j3_h0_0c _ _ _ hP hD hS (lv_sub hl [1, 2, 3] rfl))
          · have d_15 := Int32.not_le.mp c_13
            have g_16 : RG j3_h0_f1 0 239 := RG_lt1 g_j3_h0_f1 (RG_k 240 240 rfl) d_15 (by decide)
            refine lv_aload_n hx hb dX9_append_29 rfl (lv_at hl 2 rfl) ?_
            refine va_get (D := (dC, dI)) (ci := 9) (v := .ref h0_0) (C := RX9) (T := TX9) (N := 4) hx hb hts iw_c_X9_append_X9 hown hK hP 0 rfl rfl 0 (by decide) (hts (.fieldLink RX9 11 "BuoyVote$Tape" "bytes" "[I") (List.mem_of_getElem? (i := 2) rfl)) (fun _ h9 => h9) rfl dX9_append_30 ?_
            refine lv_aload_n hx hb dX9_append_33 rfl (lv_at hl 2 rfl) ?_
            refine va_get (D := (dC, dI)) (ci := 9) (v := .int j3_h0_f1) (C := RX9) (T := TX9) (N := 4) hx hb hts iw_c_X9_append_X9 hown hK hP 0 rfl rfl 1 (by decide) (hts (.fieldLink RX9 19 "BuoyVote$Tape" "length" "I") (List.mem_of_getElem? (i := 1) rfl)) (fun _ h9 => h9) rfl dX9_append_34 ?_
            refine lv_iload_n hx hb dX9_append_37 rfl (lv_at hl 0 rfl) ?_
            refine va_iast hx hb hK hP hD hS 1 0 rfl rfl (RG_in g_16 (by decide)) dX9_append_38 (fun H locs hP hD hS => ?_)
            have hP : va_P (dC, dI) vwCl (wd_c_X9_append h0 h0_0 j3_h0_f1 h0_f2 h0_f3 h0_0 h0_0k (upd j3_h0_0c (j3_h0_f1 : Int32).toNatClampNeg x_8)) H := hP
            have hD : va_D A (wd_c_X9_append h0 h0_0 j3_h0_f1 h0_f2 h0_f3 h0_0 h0_0k (upd j3_h0_0c (j3_h0_f1 : Int32).toNatClampNeg x_8)) := hD
            have l_18 : (upd j3_h0_0c (j3_h0_f1 : Int32).toNatClampNeg x_8) (j3_h0_f1 : Int32).toNatClampNeg = x_8 := pk_us
            have a_19 : AI (upd j3_h0_0c (j3_h0_f1 : Int32).toNatClampNeg x_8) 0 255 := AI_up a_j3_h0_0c g_12 (by decide)
            generalize (upd j3_h0_0c (j3_h0_f1 : Int32).toNatClampNeg x_8) = w_17 at hP hD a_19 l_18
            have hP : va_P (dC, dI) vwCl (wd_c_X9_append h0 h0_0 j3_h0_f1 h0_f2 h0_f3 h0_0 h0_0k w_17) H := hP
            have hD : va_D A (wd_c_X9_append h0 h0_0 j3_h0_f1 h0_f2 h0_f3 h0_0 h0_0k w_17) := hD
            refine lv_aload_n hx hb dX9_append_39 rfl (lv_at hl 2 rfl) ?_
            refine lv_dup hx hb dX9_append_40 rfl ?_
            refine va_get (D := (dC, dI)) (ci := 9) (v := .int j3_h0_f1) (C := RX9) (T := TX9) (N := 4) hx hb hts iw_c_X9_append_X9 hown hK hP 0 rfl rfl 1 (by decide) (hts (.fieldLink RX9 19 "BuoyVote$Tape" "length" "I") (List.mem_of_getElem? (i := 1) rfl)) (fun _ h9 => h9) rfl dX9_append_41 ?_
            refine lv_iconst (v := 1) hx hb dX9_append_44 kc_iconst_1 ?_
            refine lv_iadd hx hb dX9_append_45 ?_
            refine lv_topi (fun x_20 ex_20 => ?_)
            have g_21 : RG x_20 1 240 := RG_add ex_20 g_16 (RG_k 1 1 rfl) (by decide)
            refine va_put (D := (dC, dI)) (ci := 9) (v := .int x_20) (ty := .int) (C := RX9) (T := TX9) (N := 4) hx hb hts iw_c_X9_append_X9 tyX9 tyX9_ok nmX9 hown hK hP hD hS 0 rfl rfl 1 (by decide) (hts (.fieldLink RX9 19 "BuoyVote$Tape" "length" "I") (List.mem_of_getElem? (i := 1) rfl)) (fun _ h9 => h9) rfl (by decide +kernel) rfl rfl (Nat.le_of_ble_eq_true rfl) dX9_append_46 (fun H locs hP hD hS => ?_)
            have hP : va_P (dC, dI) vwCl (wd_c_X9_append h0 h0_0 x_20 h0_f2 h0_f3 h0_0 h0_0k w_17) H := hP
            have hD : va_D A (wd_c_X9_append h0 h0_0 x_20 h0_f2 h0_f3 h0_0 h0_0k w_17) := hD
            exact hU _ _ _ (J49 x_20 w_17 g_h0_f1 g_h0_f2 g_h0_f3 (RG_w g_16 (by decide)) g_6 (RG_w g_21 (by decide)) a_19 _ _ _ hP hD hS (lv_sub hl [1, 2, 3] rfl))
  refine hG _ _ _ ?_
  refine lv_bipush (v := 24) hx hb dX9_append_0 kc_bipush_24 ?_
  refine lv_istore_n (lv' := [(2, .int 24), (0, .ref h0), (1, .int p1)]) hx hb dX9_append_2 rfl hl (Nat.le_of_ble_eq_true rfl) rfl (fun ls hl => ?_)
  exact hU _ _ _ (J3 _ 24 h0_f1 h0_0c (Nat.lt_succ_self _) g_h0_f1 g_h0_f2 g_h0_f3 g_h0_f1 (RG_w (RG_k 24 24 rfl) (by decide)) a_h0_0c _ _ _ hP hD hS (lv_sub hl [0, 1, 2] rfl))
def wd_c_X11_feed (a0 : Nat) (a1 : Nat) (a2 : Nat) (a3 : Nat) (a4 : Nat) (a5 : Nat) (a6 : Int32) (a7 : Nat) (a8 : Nat) (a9 : Nat) (a10 : Nat) (a11 : Nat) (a12 : Nat) (a13 : Nat) (a14 : Nat) (a15 : Nat) (a16 : Int64) (a17 : Nat) (a18 : Nat) (a19 : Int32) (a20 : Int32) (a21 : Int32) (a22 : Nat) (a23 : ClassId) (a24 : Nat → Int32) : va_W := [(a0, .inr (11, [.ref a1, .ref a2, .ref a3, .ref a4, .ref a5, .int a6, .ref a7, .ref a8, .ref a9, .ref a10, .ref a11, .ref a12, .ref a13, .ref a14, .ref a15, .long a16])), (a17, .inr (9, [.ref a18, .int a19, .int a20, .int a21])), (a22, .inl (a23, 240, .inl a24))]
def wf_c_X11_feed : List Cond := .code yX11_feed cX11_feed 7 (some .int) :: ([.methodLink RX11 99 yX9_bytesIn, .static yX9_bytesIn, .initialized RX9, .code yX9_bytesIn cX9_bytesIn 3 (some .int), .fieldLink RX11 10 "BuoyVote" "tape" "LBuoyVote$Tape;", .fieldLink RX11 103 "BuoyVote$Tape" "length" "I", .methodLink RX11 107 yX9_append, .instanceMethod yX9_append, .selects RX9 yX9_append yX9_append, .code yX9_append cX9_append 4 none, .fieldLink RX9 19 "BuoyVote$Tape" "length" "I", .fieldLink RX9 11 "BuoyVote$Tape" "bytes" "[I"] ++ wsX110 ++ wsX90)
theorem iw_c_X11_feed_X11 : ∀ w ∈ wsX110, w ∈ wf_c_X11_feed := fun w h => List.mem_cons_of_mem _ (List.mem_append_left _ (List.mem_append_right _ h))
theorem iw_c_X11_feed_X9 : ∀ w ∈ wsX90, w ∈ wf_c_X11_feed := fun w h => List.mem_cons_of_mem _ (List.mem_append_right _ h)
set_option maxRecDepth 20000 in
theorem gf_c_X11_feed_c_X9_bytesIn : GoodIn wf_c_X11_feed (va_wsS RX11 99 yX9_bytesIn wf_c_X9_bytesIn) := goodIn_app (gi_cons (j := 1) rfl rfl (gi_cons (j := 2) rfl rfl (gi_cons (j := 3) rfl rfl (gi_nil)))) (gi_cons (j := 4) rfl rfl (gi_nil))
set_option maxRecDepth 20000 in
theorem gf_c_X11_feed_c_X9_append : GoodIn wf_c_X11_feed (wsV RX11 107 RX9 yX9_append wf_c_X9_append) := goodIn_app (gi_cons (j := 7) rfl rfl (gi_cons (j := 8) rfl rfl (gi_cons (j := 9) rfl rfl (gi_cons (j := 3) rfl rfl (gi_nil))))) (gi_cons (j := 10) rfl rfl (goodIn_app (gi_cons (j := 11) rfl rfl (gi_cons (j := 12) rfl rfl (gi_nil))) (goodIn_sub iw_c_X11_feed_X9 gw_X9)))
set_option maxHeartbeats 4000000 in
set_option maxRecDepth 100000 in
theorem c_X11_feed (l : Launch) (dC : Nat → ClassId) (dI : Nat → Nat → Nat) (sz : Nat) (h0 : Nat) (p1 : Int32) (p2 : Int32) (p3 : Int32) (p4 : Int32) (p5 : Int32) (h0_0 : Nat) (h0_1 : Nat) (h0_2 : Nat) (h0_3 : Nat) (h0_4 : Nat) (h0_f5 : Int32) (h0_6 : Nat) (h0_7 : Nat) (h0_8 : Nat) (h0_9 : Nat) (h0_10 : Nat) (h0_11 : Nat) (h0_12 : Nat) (h0_13 : Nat) (h0_14 : Nat) (h0_f15 : Int64) (h0_0_0 : Nat) (h0_0_f1 : Int32) (h0_0_f2 : Int32) (h0_0_f3 : Int32) (h0_0_0k : ClassId) (h0_0_0c : Nat → Int32) (g_h0_f5 : RG h0_f5 0 4) (g_h0_0_f1 : RG h0_0_f1 0 240) (g_h0_0_f2 : RG h0_0_f2 0 240) (g_h0_0_f3 : RG h0_0_f3 (-1) 240) (a_h0_0_0c : AI h0_0_0c 0 255) : Met l yX11_feed wf_c_X11_feed ({ frames := 1, cells := 0, slots := 0, locals := 23 }) (va_Pc [.ref h0, .int p1, .int p2, .int p3, .int p4, .int p5] (fun U => U.heap.size = sz ∧ va_P (dC, dI) vwCl (wd_c_X11_feed h0 h0_0 h0_1 h0_2 h0_3 h0_4 h0_f5 h0_6 h0_7 h0_8 h0_9 h0_10 h0_11 h0_12 h0_13 h0_14 h0_f15 h0_0 h0_0_0 h0_0_f1 h0_0_f2 h0_0_f3 h0_0_0 h0_0_0k h0_0_0c) U.heap ∧ va_K (dC, dI) vwCl [(h0_0_0k, .int)] U ∧ va_D (fun _ => True) (wd_c_X11_feed h0 h0_0 h0_1 h0_2 h0_3 h0_4 h0_f5 h0_6 h0_7 h0_8 h0_9 h0_10 h0_11 h0_12 h0_13 h0_14 h0_f15 h0_0 h0_0_0 h0_0_f1 h0_0_f2 h0_0_f3 h0_0_0 h0_0_0k h0_0_0c))) (va_Qi (fun (r : Int32) (u : (Int32) × (Nat → Int32)) => (RG r 0 240 ∧ RG u.1 0 240 ∧ AI (u.2) 0 255) ∨ (r = (-1) ∧ RG u.1 0 240 ∧ AI (u.2) 0 255)) (fun (u : (Int32) × (Nat → Int32)) t => va_P (dC, dI) vwCl (wd_c_X11_feed h0 h0_0 h0_1 h0_2 h0_3 h0_4 h0_f5 h0_6 h0_7 h0_8 h0_9 h0_10 h0_11 h0_12 h0_13 h0_14 h0_f15 h0_0 h0_0_0 (u.1) h0_0_f2 h0_0_f3 h0_0_0 h0_0_0k (u.2)) t.heap ∧ va_K (dC, dI) vwCl [] t ∧ va_D (va_A (wd_c_X11_feed h0 h0_0 h0_1 h0_2 h0_3 h0_4 h0_f5 h0_6 h0_7 h0_8 h0_9 h0_10 h0_11 h0_12 h0_13 h0_14 h0_f15 h0_0 h0_0_0 h0_0_f1 h0_0_f2 h0_0_f3 h0_0_0 h0_0_0k h0_0_0c) sz) (wd_c_X11_feed h0 h0_0 h0_1 h0_2 h0_3 h0_4 h0_f5 h0_6 h0_7 h0_8 h0_9 h0_10 h0_11 h0_12 h0_13 h0_14 h0_f15 h0_0 h0_0_0 (u.1) h0_0_f2 h0_0_f3 h0_0_0 h0_0_0k (u.2))) (va_A (wd_c_X11_feed h0 h0_0 h0_1 h0_2 h0_3 h0_4 h0_f5 h0_6 h0_7 h0_8 h0_9 h0_10 h0_11 h0_12 h0_13 h0_14 h0_f15 h0_0 h0_0_0 h0_0_f1 h0_0_f2 h0_0_f3 h0_0_0 h0_0_0k h0_0_0c) sz)) 0 0 (va_A (wd_c_X11_feed h0 h0_0 h0_1 h0_2 h0_3 h0_4 h0_f5 h0_6 h0_7 h0_8 h0_9 h0_10 h0_11 h0_12 h0_13 h0_14 h0_f15 h0_0 h0_0_0 h0_0_f1 h0_0_f2 h0_0_f3 h0_0_0 h0_0_0k h0_0_0c) sz) := by
  refine Met.ofW (cc := cX11_feed) (maxL := 7) (ret := (some .int)) (by decide) rfl ?_
  intro p e s m args below meth c s₁ B hml hv
  obtain ⟨rfl, hsz, hP, hK, hD0⟩ := hv
  have hx := B.exec
  have hb := B.bytes
  have hr := B.returns
  have hts := atoms_spec (ws := wf_c_X11_feed) B.pre
  have hown : s.vm.findClass RX11 = some m.cls := findClass_of_methodNamed B.named
  have hlocks := B.notSynchronized
  subst hsz
  have hD := hD0.self (sz := s.heap.size)
  generalize hAe : va_A (wd_c_X11_feed h0 h0_0 h0_1 h0_2 h0_3 h0_4 h0_f5 h0_6 h0_7 h0_8 h0_9 h0_10 h0_11 h0_12 h0_13 h0_14 h0_f15 h0_0 h0_0_0 h0_0_f1 h0_0_f2 h0_0_f3 h0_0_0 h0_0_0k h0_0_0c) s.heap.size = A at hD ⊢
  have hA : ∀ q : Nat, s.heap.size ≤ q → A q := fun q h => by rw [← hAe]; exact Or.inr h
  have hP : va_P (dC, dI) vwCl (wd_c_X11_feed h0 h0_0 h0_1 h0_2 h0_3 h0_4 h0_f5 h0_6 h0_7 h0_8 h0_9 h0_10 h0_11 h0_12 h0_13 h0_14 h0_f15 h0_0 h0_0_0 h0_0_f1 h0_0_f2 h0_0_f3 h0_0_0 h0_0_0k h0_0_0c) s.heap := hP
  have hl := lv_entry ([.ref h0, .int p1, .int p2, .int p3, .int p4, .int p5]) (n := 7) (Nat.le_of_ble_eq_true rfl)
  rw [lg_entry_eq]
  generalize (lg_sl ([.ref h0, .int p1, .int p2, .int p3, .int p4, .int p5]) ++ List.replicate (7 - (lg_sl ([.ref h0, .int p1, .int p2, .int p3, .int p4, .int p5])).length) Slot.unset).toArray = ls at hl ⊢
  have hl : lv_has ls 7 [(0, .ref h0), (1, .int p1), (2, .int p2), (3, .int p3), (4, .int p4), (5, .int p5)] := hl
  obtain ⟨H, hHe⟩ : ∃ H : Heap, s.heap = H := ⟨_, rfl⟩
  have hS : va_S A s.heap H [] := by rw [hHe]; exact va_S.rf
  have hP : va_P (dC, dI) vwCl (wd_c_X11_feed h0 h0_0 h0_1 h0_2 h0_3 h0_4 h0_f5 h0_6 h0_7 h0_8 h0_9 h0_10 h0_11 h0_12 h0_13 h0_14 h0_f15 h0_0 h0_0_0 h0_0_f1 h0_0_f2 h0_0_f3 h0_0_0 h0_0_0k h0_0_0c) H := by rw [← hHe]; exact hP
  rw [hHe]
  refine lv_iload_n hx hb dX11_feed_0 rfl (lv_at hl 1 rfl) ?_
  have hPc := hP.sub (ws' := []) [] rfl
  have hDc := hD.sub (ws' := []) [] (by decide) rfl
  have hKc := hK.sub (tys' := []) [] rfl
  have hFc := va_free (wc := []) hD hS hA [] rfl
  refine va_calli (va_runS (As := [.int p1]) (rest := []) ⟨hx, hb, hml, hown, hts⟩ (c_X9_bytesIn l dC dI H.size p1) (va_cwS 1 hts gf_c_X11_feed_c_X9_bytesIn rfl rfl rfl (by decide +kernel) ⟨Nat.le_of_ble_eq_true rfl, Nat.le_of_ble_eq_true rfl⟩) ⟨fun a U g mk q => by obtain ⟨q0, q1, qP, qK, qD⟩ := q; exact ⟨q0, q1, qP, va_K.moved (u := U) (U := U.calling g mk a) (Vm.Alike.refl U.vm) qK, qD⟩, fun U hU hW => ⟨rfl, by rw [hU], by rw [hU]; exact hPc, va_K.moved hW.alike hKc, hDc.weaken (fun _ _ _ _ => trivial)⟩⟩ rfl rfl hl.1 rfl (lv_room (Nat.le_of_ble_eq_true rfl)) dX11_feed_1 ⟨Nat.le_of_ble_eq_true rfl, Nat.le_of_ble_eq_true rfl⟩) hS (fun q _ h => hFc q h) hFc (fun r_1 u t H1 locs ht hvm hw hB hz1 hk1 hS => ?_)
  obtain ⟨hP1, hK1, hD1⟩ := hB
  rw [ht] at hP1
  have hP := bv_still hP hk1
  generalize H1 = H at hP hS ⊢
  have h_2 := hw
  refine lv_iload_n hx hb dX11_feed_4 rfl (lv_at hl 2 rfl) ?_
  have hPc := hP.sub (ws' := []) [] rfl
  have hDc := hD.sub (ws' := []) [] (by decide) rfl
  have hKc := hK.sub (tys' := []) [] rfl
  have hFc := va_free (wc := []) hD hS hA [] rfl
  refine va_calli (va_runS (As := [.int p2]) (rest := [.int r_1]) ⟨hx, hb, hml, hown, hts⟩ (c_X9_bytesIn l dC dI H.size p2) (va_cwS 1 hts gf_c_X11_feed_c_X9_bytesIn rfl rfl rfl (by decide +kernel) ⟨Nat.le_of_ble_eq_true rfl, Nat.le_of_ble_eq_true rfl⟩) ⟨fun a U g mk q => by obtain ⟨q0, q1, qP, qK, qD⟩ := q; exact ⟨q0, q1, qP, va_K.moved (u := U) (U := U.calling g mk a) (Vm.Alike.refl U.vm) qK, qD⟩, fun U hU hW => ⟨rfl, by rw [hU], by rw [hU]; exact hPc, va_K.moved hW.alike hKc, hDc.weaken (fun _ _ _ _ => trivial)⟩⟩ rfl rfl hl.1 rfl (lv_room (Nat.le_of_ble_eq_true rfl)) dX11_feed_5 ⟨Nat.le_of_ble_eq_true rfl, Nat.le_of_ble_eq_true rfl⟩) hS (fun q _ h => hFc q h) hFc (fun r_3 u t H1 locs ht hvm hw hB hz1 hk1 hS => ?_)
  obtain ⟨hP1, hK1, hD1⟩ := hB
  rw [ht] at hP1
  have hP := bv_still hP hk1
  generalize H1 = H at hP hS ⊢
  have h_4 := hw
  refine lv_iadd hx hb dX11_feed_8 ?_
  refine lv_topi (fun x_5 ex_5 => ?_)
  refine lv_iload_n hx hb dX11_feed_9 rfl (lv_at hl 3 rfl) ?_
  have hPc := hP.sub (ws' := []) [] rfl
  have hDc := hD.sub (ws' := []) [] (by decide) rfl
  have hKc := hK.sub (tys' := []) [] rfl
  have hFc := va_free (wc := []) hD hS hA [] rfl
  refine va_calli (va_runS (As := [.int p3]) (rest := [.int x_5]) ⟨hx, hb, hml, hown, hts⟩ (c_X9_bytesIn l dC dI H.size p3) (va_cwS 1 hts gf_c_X11_feed_c_X9_bytesIn rfl rfl rfl (by decide +kernel) ⟨Nat.le_of_ble_eq_true rfl, Nat.le_of_ble_eq_true rfl⟩) ⟨fun a U g mk q => by obtain ⟨q0, q1, qP, qK, qD⟩ := q; exact ⟨q0, q1, qP, va_K.moved (u := U) (U := U.calling g mk a) (Vm.Alike.refl U.vm) qK, qD⟩, fun U hU hW => ⟨rfl, by rw [hU], by rw [hU]; exact hPc, va_K.moved hW.alike hKc, hDc.weaken (fun _ _ _ _ => trivial)⟩⟩ rfl rfl hl.1 rfl (lv_room (Nat.le_of_ble_eq_true rfl)) dX11_feed_10 ⟨Nat.le_of_ble_eq_true rfl, Nat.le_of_ble_eq_true rfl⟩) hS (fun q _ h => hFc q h) hFc (fun r_6 u t H1 locs ht hvm hw hB hz1 hk1 hS => ?_)
  obtain ⟨hP1, hK1, hD1⟩ := hB
  rw [ht] at hP1
  have hP := bv_still hP hk1
  generalize H1 = H at hP hS ⊢
  have h_7 := hw
  refine lv_iadd hx hb dX11_feed_13 ?_
  refine lv_topi (fun x_8 ex_8 => ?_)
  refine lv_iload hx hb dX11_feed_14 (lv_at hl 4 rfl) ?_
  have hPc := hP.sub (ws' := []) [] rfl
  have hDc := hD.sub (ws' := []) [] (by decide) rfl
  have hKc := hK.sub (tys' := []) [] rfl
  have hFc := va_free (wc := []) hD hS hA [] rfl
  refine va_calli (va_runS (As := [.int p4]) (rest := [.int x_8]) ⟨hx, hb, hml, hown, hts⟩ (c_X9_bytesIn l dC dI H.size p4) (va_cwS 1 hts gf_c_X11_feed_c_X9_bytesIn rfl rfl rfl (by decide +kernel) ⟨Nat.le_of_ble_eq_true rfl, Nat.le_of_ble_eq_true rfl⟩) ⟨fun a U g mk q => by obtain ⟨q0, q1, qP, qK, qD⟩ := q; exact ⟨q0, q1, qP, va_K.moved (u := U) (U := U.calling g mk a) (Vm.Alike.refl U.vm) qK, qD⟩, fun U hU hW => ⟨rfl, by rw [hU], by rw [hU]; exact hPc, va_K.moved hW.alike hKc, hDc.weaken (fun _ _ _ _ => trivial)⟩⟩ rfl rfl hl.1 rfl (lv_room (Nat.le_of_ble_eq_true rfl)) dX11_feed_16 ⟨Nat.le_of_ble_eq_true rfl, Nat.le_of_ble_eq_true rfl⟩) hS (fun q _ h => hFc q h) hFc (fun r_9 u t H1 locs ht hvm hw hB hz1 hk1 hS => ?_)
  obtain ⟨hP1, hK1, hD1⟩ := hB
  rw [ht] at hP1
  have hP := bv_still hP hk1
  generalize H1 = H at hP hS ⊢
  have h_10 := hw
  refine lv_iadd hx hb dX11_feed_19 ?_
  refine lv_topi (fun x_11 ex_11 => ?_)
  refine lv_iload hx hb dX11_feed_20 (lv_at hl 5 rfl) ?_
  have hPc := hP.sub (ws' := []) [] rfl
  have hDc := hD.sub (ws' := []) [] (by decide) rfl
  have hKc := hK.sub (tys' := []) [] rfl
  have hFc := va_free (wc := []) hD hS hA [] rfl
  refine va_calli (va_runS (As := [.int p5]) (rest := [.int x_11]) ⟨hx, hb, hml, hown, hts⟩ (c_X9_bytesIn l dC dI H.size p5) (va_cwS 1 hts gf_c_X11_feed_c_X9_bytesIn rfl rfl rfl (by decide +kernel) ⟨Nat.le_of_ble_eq_true rfl, Nat.le_of_ble_eq_true rfl⟩) ⟨fun a U g mk q => by obtain ⟨q0, q1, qP, qK, qD⟩ := q; exact ⟨q0, q1, qP, va_K.moved (u := U) (U := U.calling g mk a) (Vm.Alike.refl U.vm) qK, qD⟩, fun U hU hW => ⟨rfl, by rw [hU], by rw [hU]; exact hPc, va_K.moved hW.alike hKc, hDc.weaken (fun _ _ _ _ => trivial)⟩⟩ rfl rfl hl.1 rfl (lv_room (Nat.le_of_ble_eq_true rfl)) dX11_feed_22 ⟨Nat.le_of_ble_eq_true rfl, Nat.le_of_ble_eq_true rfl⟩) hS (fun q _ h => hFc q h) hFc (fun r_12 u t H1 locs ht hvm hw hB hz1 hk1 hS => ?_)
  obtain ⟨hP1, hK1, hD1⟩ := hB
  rw [ht] at hP1
  have hP := bv_still hP hk1
  generalize H1 = H at hP hS ⊢
  have h_13 := hw
  refine lv_iadd hx hb dX11_feed_25 ?_
  refine lv_topi (fun x_14 ex_14 => ?_)
  refine lv_istore (lv' := [(6, .int x_14), (0, .ref h0), (1, .int p1), (2, .int p2), (3, .int p3), (4, .int p4), (5, .int p5)]) hx hb dX11_feed_26 hl (Nat.le_of_ble_eq_true rfl) rfl (fun ls hl => ?_)
  refine lv_aload_n hx hb dX11_feed_28 rfl (lv_at hl 1 rfl) ?_
  refine va_get (D := (dC, dI)) (ci := 11) (v := .ref h0_0) (C := RX11) (T := TX11) (N := 16) hx hb hts iw_c_X11_feed_X11 hown hK hP 0 rfl rfl 0 (by decide) (hts (.fieldLink RX11 10 "BuoyVote" "tape" "LBuoyVote$Tape;") (List.mem_of_getElem? (i := 5) rfl)) (fun _ h9 => h9) rfl dX11_feed_29 ?_
  refine va_get (D := (dC, dI)) (ci := 9) (v := .int h0_0_f1) (C := RX9) (T := TX9) (N := 4) hx hb hts iw_c_X11_feed_X9 hown hK hP 1 rfl rfl 1 (by decide) (hts (.fieldLink RX11 103 "BuoyVote$Tape" "length" "I") (List.mem_of_getElem? (i := 6) rfl)) (fun _ h9 => h9) rfl dX11_feed_32 ?_
  refine lv_iload hx hb dX11_feed_35 (lv_at hl 0 rfl) ?_
  refine lv_iadd hx hb dX11_feed_37 ?_
  refine lv_topi (fun x_15 ex_15 => ?_)
  refine lv_sipush (v := 240) hx hb dX11_feed_38 kc_sipush_240 ?_
  refine lv_icmp_le (tgt := 46) hx hb dX11_feed_41 rfl (fun c_16 => ?_) (fun c_16 => ?_)
  · have g_17 : RG x_15 (-2147483648) 240 := RG_le1 (RG_any x_15) (RG_k 240 240 rfl) c_16 (by decide)
    refine lv_aload_n hx hb dX11_feed_46 rfl (lv_at hl 1 rfl) ?_
    refine va_get (D := (dC, dI)) (ci := 11) (v := .ref h0_0) (C := RX11) (T := TX11) (N := 16) hx hb hts iw_c_X11_feed_X11 hown hK hP 0 rfl rfl 0 (by decide) (hts (.fieldLink RX11 10 "BuoyVote" "tape" "LBuoyVote$Tape;") (List.mem_of_getElem? (i := 5) rfl)) (fun _ h9 => h9) rfl dX11_feed_47 ?_
    refine lv_iload_n hx hb dX11_feed_50 rfl (lv_at hl 2 rfl) ?_
    have hPc := hP.sub (ws' := (wd_c_X9_append h0_0 h0_0_0 h0_0_f1 h0_0_f2 h0_0_f3 h0_0_0 h0_0_0k h0_0_0c)) [1, 2] rfl
    have hDc := hD.sub (ws' := (wd_c_X9_append h0_0 h0_0_0 h0_0_f1 h0_0_f2 h0_0_f3 h0_0_0 h0_0_0k h0_0_0c)) [1, 2] (by decide) rfl
    have hKc := hK.sub (tys' := [(h0_0_0k, .int)]) [0] rfl
    have hFc := va_free (wc := (wd_c_X9_append h0_0 h0_0_0 h0_0_f1 h0_0_f2 h0_0_f3 h0_0_0 h0_0_0k h0_0_0c)) hD hS hA [1, 2] rfl
    refine va_callv (va_runV (As := [.int p1]) (rest := []) ⟨hx, hb, hml, hown, hts⟩ (c_X9_append l dC dI H.size h0_0 p1 h0_0_0 h0_0_f1 h0_0_f2 h0_0_f3 h0_0_0k h0_0_0c g_h0_0_f1 g_h0_0_f2 g_h0_0_f3 a_h0_0_0c) (cwV 1 hts gf_c_X11_feed_c_X9_append rfl rfl rfl (by decide +kernel) ⟨Nat.le_of_ble_eq_true rfl, Nat.le_of_ble_eq_true rfl⟩) ⟨fun a U g mk q => by obtain ⟨q0, q1, qP, qK, qD⟩ := q; exact ⟨q0, q1, qP, va_K.moved (u := U) (U := U.calling g mk a) (Vm.Alike.refl U.vm) qK, qD⟩, va_recv hKc hPc (ci := 9) (q0 := 0) rfl rfl, fun U hU hW => ⟨rfl, by rw [hU], by rw [hU]; exact hPc, va_K.moved hW.alike hKc, hDc.weaken (fun _ _ _ _ => trivial)⟩⟩ rfl rfl hl.1 rfl (lv_room (Nat.le_of_ble_eq_true rfl)) dX11_feed_51 ⟨Nat.le_of_ble_eq_true rfl, Nat.le_of_ble_eq_true rfl⟩) hS (fun q _ h => hFc q h) hFc (fun u t H1 locs ht hvm hw hB hz1 hk1 hS => ?_)
    obtain ⟨x_19, w_20⟩ := u
    obtain ⟨hP1, hK1, hD1⟩ := hB
    rw [ht] at hP1
    obtain ⟨hP, hD⟩ := va_join (wr := [(h0, .inr (11, [.ref h0_0, .ref h0_1, .ref h0_2, .ref h0_3, .ref h0_4, .int h0_f5, .ref h0_6, .ref h0_7, .ref h0_8, .ref h0_9, .ref h0_10, .ref h0_11, .ref h0_12, .ref h0_13, .ref h0_14, .long h0_f15]))]) (w1 := (wd_c_X9_append h0_0 h0_0_0 x_19 h0_0_f2 h0_0_f3 h0_0_0 h0_0_0k w_20)) hP hD [1, 2] [0] rfl rfl (by decide) (by decide) hk1 hFc hP1 hD1
    have hP := hP.sub (ws' := (wd_c_X11_feed h0 h0_0 h0_1 h0_2 h0_3 h0_4 h0_f5 h0_6 h0_7 h0_8 h0_9 h0_10 h0_11 h0_12 h0_13 h0_14 h0_f15 h0_0 h0_0_0 x_19 h0_0_f2 h0_0_f3 h0_0_0 h0_0_0k w_20)) [0, 1, 2] rfl
    have hD := hD.sub (ws' := (wd_c_X11_feed h0 h0_0 h0_1 h0_2 h0_3 h0_4 h0_f5 h0_6 h0_7 h0_8 h0_9 h0_10 h0_11 h0_12 h0_13 h0_14 h0_f15 h0_0 h0_0_0 x_19 h0_0_f2 h0_0_f3 h0_0_0 h0_0_0k w_20)) [0, 1, 2] (by decide) rfl
    generalize H1 = H at hP hS ⊢
    rcases hw with ⟨h_21, h_22⟩
    refine lv_aload_n hx hb dX11_feed_54 rfl (lv_at hl 1 rfl) ?_
    refine va_get (D := (dC, dI)) (ci := 11) (v := .ref h0_0) (C := RX11) (T := TX11) (N := 16) hx hb hts iw_c_X11_feed_X11 hown hK hP 0 rfl rfl 0 (by decide) (hts (.fieldLink RX11 10 "BuoyVote" "tape" "LBuoyVote$Tape;") (List.mem_of_getElem? (i := 5) rfl)) (fun _ h9 => h9) rfl dX11_feed_55 ?_
    refine lv_iload_n hx hb dX11_feed_58 rfl (lv_at hl 3 rfl) ?_
    have hPc := hP.sub (ws' := (wd_c_X9_append h0_0 h0_0_0 x_19 h0_0_f2 h0_0_f3 h0_0_0 h0_0_0k w_20)) [1, 2] rfl
    have hDc := hD.sub (ws' := (wd_c_X9_append h0_0 h0_0_0 x_19 h0_0_f2 h0_0_f3 h0_0_0 h0_0_0k w_20)) [1, 2] (by decide) rfl
    have hKc := hK.sub (tys' := [(h0_0_0k, .int)]) [0] rfl
    have hFc := va_free (wc := (wd_c_X9_append h0_0 h0_0_0 x_19 h0_0_f2 h0_0_f3 h0_0_0 h0_0_0k w_20)) hD hS hA [1, 2] rfl
    refine va_callv (va_runV (As := [.int p2]) (rest := []) ⟨hx, hb, hml, hown, hts⟩ (c_X9_append l dC dI H.size h0_0 p2 h0_0_0 x_19 h0_0_f2 h0_0_f3 h0_0_0k w_20 h_21 g_h0_0_f2 g_h0_0_f3 h_22) (cwV 1 hts gf_c_X11_feed_c_X9_append rfl rfl rfl (by decide +kernel) ⟨Nat.le_of_ble_eq_true rfl, Nat.le_of_ble_eq_true rfl⟩) ⟨fun a U g mk q => by obtain ⟨q0, q1, qP, qK, qD⟩ := q; exact ⟨q0, q1, qP, va_K.moved (u := U) (U := U.calling g mk a) (Vm.Alike.refl U.vm) qK, qD⟩, va_recv hKc hPc (ci := 9) (q0 := 0) rfl rfl, fun U hU hW => ⟨rfl, by rw [hU], by rw [hU]; exact hPc, va_K.moved hW.alike hKc, hDc.weaken (fun _ _ _ _ => trivial)⟩⟩ rfl rfl hl.1 rfl (lv_room (Nat.le_of_ble_eq_true rfl)) dX11_feed_59 ⟨Nat.le_of_ble_eq_true rfl, Nat.le_of_ble_eq_true rfl⟩) hS (fun q _ h => hFc q h) hFc (fun u t H1 locs ht hvm hw hB hz1 hk1 hS => ?_)
    obtain ⟨x_24, w_25⟩ := u
    obtain ⟨hP1, hK1, hD1⟩ := hB
    rw [ht] at hP1
    obtain ⟨hP, hD⟩ := va_join (wr := [(h0, .inr (11, [.ref h0_0, .ref h0_1, .ref h0_2, .ref h0_3, .ref h0_4, .int h0_f5, .ref h0_6, .ref h0_7, .ref h0_8, .ref h0_9, .ref h0_10, .ref h0_11, .ref h0_12, .ref h0_13, .ref h0_14, .long h0_f15]))]) (w1 := (wd_c_X9_append h0_0 h0_0_0 x_24 h0_0_f2 h0_0_f3 h0_0_0 h0_0_0k w_25)) hP hD [1, 2] [0] rfl rfl (by decide) (by decide) hk1 hFc hP1 hD1
    have hP := hP.sub (ws' := (wd_c_X11_feed h0 h0_0 h0_1 h0_2 h0_3 h0_4 h0_f5 h0_6 h0_7 h0_8 h0_9 h0_10 h0_11 h0_12 h0_13 h0_14 h0_f15 h0_0 h0_0_0 x_24 h0_0_f2 h0_0_f3 h0_0_0 h0_0_0k w_25)) [0, 1, 2] rfl
    have hD := hD.sub (ws' := (wd_c_X11_feed h0 h0_0 h0_1 h0_2 h0_3 h0_4 h0_f5 h0_6 h0_7 h0_8 h0_9 h0_10 h0_11 h0_12 h0_13 h0_14 h0_f15 h0_0 h0_0_0 x_24 h0_0_f2 h0_0_f3 h0_0_0 h0_0_0k w_25)) [0, 1, 2] (by decide) rfl
    generalize H1 = H at hP hS ⊢
    rcases hw with ⟨h_26, h_27⟩
    refine lv_aload_n hx hb dX11_feed_62 rfl (lv_at hl 1 rfl) ?_
    refine va_get (D := (dC, dI)) (ci := 11) (v := .ref h0_0) (C := RX11) (T := TX11) (N := 16) hx hb hts iw_c_X11_feed_X11 hown hK hP 0 rfl rfl 0 (by decide) (hts (.fieldLink RX11 10 "BuoyVote" "tape" "LBuoyVote$Tape;") (List.mem_of_getElem? (i := 5) rfl)) (fun _ h9 => h9) rfl dX11_feed_63 ?_
    refine lv_iload_n hx hb dX11_feed_66 rfl (lv_at hl 4 rfl) ?_
    have hPc := hP.sub (ws' := (wd_c_X9_append h0_0 h0_0_0 x_24 h0_0_f2 h0_0_f3 h0_0_0 h0_0_0k w_25)) [1, 2] rfl
    have hDc := hD.sub (ws' := (wd_c_X9_append h0_0 h0_0_0 x_24 h0_0_f2 h0_0_f3 h0_0_0 h0_0_0k w_25)) [1, 2] (by decide) rfl
    have hKc := hK.sub (tys' := [(h0_0_0k, .int)]) [0] rfl
    have hFc := va_free (wc := (wd_c_X9_append h0_0 h0_0_0 x_24 h0_0_f2 h0_0_f3 h0_0_0 h0_0_0k w_25)) hD hS hA [1, 2] rfl
    refine va_callv (va_runV (As := [.int p3]) (rest := []) ⟨hx, hb, hml, hown, hts⟩ (c_X9_append l dC dI H.size h0_0 p3 h0_0_0 x_24 h0_0_f2 h0_0_f3 h0_0_0k w_25 h_26 g_h0_0_f2 g_h0_0_f3 h_27) (cwV 1 hts gf_c_X11_feed_c_X9_append rfl rfl rfl (by decide +kernel) ⟨Nat.le_of_ble_eq_true rfl, Nat.le_of_ble_eq_true rfl⟩) ⟨fun a U g mk q => by obtain ⟨q0, q1, qP, qK, qD⟩ := q; exact ⟨q0, q1, qP, va_K.moved (u := U) (U := U.calling g mk a) (Vm.Alike.refl U.vm) qK, qD⟩, va_recv hKc hPc (ci := 9) (q0 := 0) rfl rfl, fun U hU hW => ⟨rfl, by rw [hU], by rw [hU]; exact hPc, va_K.moved hW.alike hKc, hDc.weaken (fun _ _ _ _ => trivial)⟩⟩ rfl rfl hl.1 rfl (lv_room (Nat.le_of_ble_eq_true rfl)) dX11_feed_67 ⟨Nat.le_of_ble_eq_true rfl, Nat.le_of_ble_eq_true rfl⟩) hS (fun q _ h => hFc q h) hFc (fun u t H1 locs ht hvm hw hB hz1 hk1 hS => ?_)
    obtain ⟨x_29, w_30⟩ := u
    obtain ⟨hP1, hK1, hD1⟩ := hB
    rw [ht] at hP1
    obtain ⟨hP, hD⟩ := va_join (wr := [(h0, .inr (11, [.ref h0_0, .ref h0_1, .ref h0_2, .ref h0_3, .ref h0_4, .int h0_f5, .ref h0_6, .ref h0_7, .ref h0_8, .ref h0_9, .ref h0_10, .ref h0_11, .ref h0_12, .ref h0_13, .ref h0_14, .long h0_f15]))]) (w1 := (wd_c_X9_append h0_0 h0_0_0 x_29 h0_0_f2 h0_0_f3 h0_0_0 h0_0_0k w_30)) hP hD [1, 2] [0] rfl rfl (by decide) (by decide) hk1 hFc hP1 hD1
    have hP := hP.sub (ws' := (wd_c_X11_feed h0 h0_0 h0_1 h0_2 h0_3 h0_4 h0_f5 h0_6 h0_7 h0_8 h0_9 h0_10 h0_11 h0_12 h0_13 h0_14 h0_f15 h0_0 h0_0_0 x_29 h0_0_f2 h0_0_f3 h0_0_0 h0_0_0k w_30)) [0, 1, 2] rfl
    have hD := hD.sub (ws' := (wd_c_X11_feed h0 h0_0 h0_1 h0_2 h0_3 h0_4 h0_f5 h0_6 h0_7 h0_8 h0_9 h0_10 h0_11 h0_12 h0_13 h0_14 h0_f15 h0_0 h0_0_0 x_29 h0_0_f2 h0_0_f3 h0_0_0 h0_0_0k w_30)) [0, 1, 2] (by decide) rfl
    generalize H1 = H at hP hS ⊢
    rcases hw with ⟨h_31, h_32⟩
    refine lv_aload_n hx hb dX11_feed_70 rfl (lv_at hl 1 rfl) ?_
    refine va_get (D := (dC, dI)) (ci := 11) (v := .ref h0_0) (C := RX11) (T := TX11) (N := 16) hx hb hts iw_c_X11_feed_X11 hown hK hP 0 rfl rfl 0 (by decide) (hts (.fieldLink RX11 10 "BuoyVote" "tape" "LBuoyVote$Tape;") (List.mem_of_getElem? (i := 5) rfl)) (fun _ h9 => h9) rfl dX11_feed_71 ?_
    refine lv_iload hx hb dX11_feed_74 (lv_at hl 5 rfl) ?_
    have hPc := hP.sub (ws' := (wd_c_X9_append h0_0 h0_0_0 x_29 h0_0_f2 h0_0_f3 h0_0_0 h0_0_0k w_30)) [1, 2] rfl
    have hDc := hD.sub (ws' := (wd_c_X9_append h0_0 h0_0_0 x_29 h0_0_f2 h0_0_f3 h0_0_0 h0_0_0k w_30)) [1, 2] (by decide) rfl
    have hKc := hK.sub (tys' := [(h0_0_0k, .int)]) [0] rfl
    have hFc := va_free (wc := (wd_c_X9_append h0_0 h0_0_0 x_29 h0_0_f2 h0_0_f3 h0_0_0 h0_0_0k w_30)) hD hS hA [1, 2] rfl
    refine va_callv (va_runV (As := [.int p4]) (rest := []) ⟨hx, hb, hml, hown, hts⟩ (c_X9_append l dC dI H.size h0_0 p4 h0_0_0 x_29 h0_0_f2 h0_0_f3 h0_0_0k w_30 h_31 g_h0_0_f2 g_h0_0_f3 h_32) (cwV 1 hts gf_c_X11_feed_c_X9_append rfl rfl rfl (by decide +kernel) ⟨Nat.le_of_ble_eq_true rfl, Nat.le_of_ble_eq_true rfl⟩) ⟨fun a U g mk q => by obtain ⟨q0, q1, qP, qK, qD⟩ := q; exact ⟨q0, q1, qP, va_K.moved (u := U) (U := U.calling g mk a) (Vm.Alike.refl U.vm) qK, qD⟩, va_recv hKc hPc (ci := 9) (q0 := 0) rfl rfl, fun U hU hW => ⟨rfl, by rw [hU], by rw [hU]; exact hPc, va_K.moved hW.alike hKc, hDc.weaken (fun _ _ _ _ => trivial)⟩⟩ rfl rfl hl.1 rfl (lv_room (Nat.le_of_ble_eq_true rfl)) dX11_feed_76 ⟨Nat.le_of_ble_eq_true rfl, Nat.le_of_ble_eq_true rfl⟩) hS (fun q _ h => hFc q h) hFc (fun u t H1 locs ht hvm hw hB hz1 hk1 hS => ?_)
    obtain ⟨x_34, w_35⟩ := u
    obtain ⟨hP1, hK1, hD1⟩ := hB
    rw [ht] at hP1
    obtain ⟨hP, hD⟩ := va_join (wr := [(h0, .inr (11, [.ref h0_0, .ref h0_1, .ref h0_2, .ref h0_3, .ref h0_4, .int h0_f5, .ref h0_6, .ref h0_7, .ref h0_8, .ref h0_9, .ref h0_10, .ref h0_11, .ref h0_12, .ref h0_13, .ref h0_14, .long h0_f15]))]) (w1 := (wd_c_X9_append h0_0 h0_0_0 x_34 h0_0_f2 h0_0_f3 h0_0_0 h0_0_0k w_35)) hP hD [1, 2] [0] rfl rfl (by decide) (by decide) hk1 hFc hP1 hD1
    have hP := hP.sub (ws' := (wd_c_X11_feed h0 h0_0 h0_1 h0_2 h0_3 h0_4 h0_f5 h0_6 h0_7 h0_8 h0_9 h0_10 h0_11 h0_12 h0_13 h0_14 h0_f15 h0_0 h0_0_0 x_34 h0_0_f2 h0_0_f3 h0_0_0 h0_0_0k w_35)) [0, 1, 2] rfl
    have hD := hD.sub (ws' := (wd_c_X11_feed h0 h0_0 h0_1 h0_2 h0_3 h0_4 h0_f5 h0_6 h0_7 h0_8 h0_9 h0_10 h0_11 h0_12 h0_13 h0_14 h0_f15 h0_0 h0_0_0 x_34 h0_0_f2 h0_0_f3 h0_0_0 h0_0_0k w_35)) [0, 1, 2] (by decide) rfl
    generalize H1 = H at hP hS ⊢
    rcases hw with ⟨h_36, h_37⟩
    refine lv_aload_n hx hb dX11_feed_79 rfl (lv_at hl 1 rfl) ?_
    refine va_get (D := (dC, dI)) (ci := 11) (v := .ref h0_0) (C := RX11) (T := TX11) (N := 16) hx hb hts iw_c_X11_feed_X11 hown hK hP 0 rfl rfl 0 (by decide) (hts (.fieldLink RX11 10 "BuoyVote" "tape" "LBuoyVote$Tape;") (List.mem_of_getElem? (i := 5) rfl)) (fun _ h9 => h9) rfl dX11_feed_80 ?_
    refine lv_iload hx hb dX11_feed_83 (lv_at hl 6 rfl) ?_
    have hPc := hP.sub (ws' := (wd_c_X9_append h0_0 h0_0_0 x_34 h0_0_f2 h0_0_f3 h0_0_0 h0_0_0k w_35)) [1, 2] rfl
    have hDc := hD.sub (ws' := (wd_c_X9_append h0_0 h0_0_0 x_34 h0_0_f2 h0_0_f3 h0_0_0 h0_0_0k w_35)) [1, 2] (by decide) rfl
    have hKc := hK.sub (tys' := [(h0_0_0k, .int)]) [0] rfl
    have hFc := va_free (wc := (wd_c_X9_append h0_0 h0_0_0 x_34 h0_0_f2 h0_0_f3 h0_0_0 h0_0_0k w_35)) hD hS hA [1, 2] rfl
    refine va_callv (va_runV (As := [.int p5]) (rest := []) ⟨hx, hb, hml, hown, hts⟩ (c_X9_append l dC dI H.size h0_0 p5 h0_0_0 x_34 h0_0_f2 h0_0_f3 h0_0_0k w_35 h_36 g_h0_0_f2 g_h0_0_f3 h_37) (cwV 1 hts gf_c_X11_feed_c_X9_append rfl rfl rfl (by decide +kernel) ⟨Nat.le_of_ble_eq_true rfl, Nat.le_of_ble_eq_true rfl⟩) ⟨fun a U g mk q => by obtain ⟨q0, q1, qP, qK, qD⟩ := q; exact ⟨q0, q1, qP, va_K.moved (u := U) (U := U.calling g mk a) (Vm.Alike.refl U.vm) qK, qD⟩, va_recv hKc hPc (ci := 9) (q0 := 0) rfl rfl, fun U hU hW => ⟨rfl, by rw [hU], by rw [hU]; exact hPc, va_K.moved hW.alike hKc, hDc.weaken (fun _ _ _ _ => trivial)⟩⟩ rfl rfl hl.1 rfl (lv_room (Nat.le_of_ble_eq_true rfl)) dX11_feed_85 ⟨Nat.le_of_ble_eq_true rfl, Nat.le_of_ble_eq_true rfl⟩) hS (fun q _ h => hFc q h) hFc (fun u t H1 locs ht hvm hw hB hz1 hk1 hS => ?_)
    obtain ⟨x_39, w_40⟩ := u
    obtain ⟨hP1, hK1, hD1⟩ := hB
    rw [ht] at hP1
    obtain ⟨hP, hD⟩ := va_join (wr := [(h0, .inr (11, [.ref h0_0, .ref h0_1, .ref h0_2, .ref h0_3, .ref h0_4, .int h0_f5, .ref h0_6, .ref h0_7, .ref h0_8, .ref h0_9, .ref h0_10, .ref h0_11, .ref h0_12, .ref h0_13, .ref h0_14, .long h0_f15]))]) (w1 := (wd_c_X9_append h0_0 h0_0_0 x_39 h0_0_f2 h0_0_f3 h0_0_0 h0_0_0k w_40)) hP hD [1, 2] [0] rfl rfl (by decide) (by decide) hk1 hFc hP1 hD1
    have hP := hP.sub (ws' := (wd_c_X11_feed h0 h0_0 h0_1 h0_2 h0_3 h0_4 h0_f5 h0_6 h0_7 h0_8 h0_9 h0_10 h0_11 h0_12 h0_13 h0_14 h0_f15 h0_0 h0_0_0 x_39 h0_0_f2 h0_0_f3 h0_0_0 h0_0_0k w_40)) [0, 1, 2] rfl
    have hD := hD.sub (ws' := (wd_c_X11_feed h0 h0_0 h0_1 h0_2 h0_3 h0_4 h0_f5 h0_6 h0_7 h0_8 h0_9 h0_10 h0_11 h0_12 h0_13 h0_14 h0_f15 h0_0 h0_0_0 x_39 h0_0_f2 h0_0_f3 h0_0_0 h0_0_0k w_40)) [0, 1, 2] (by decide) rfl
    generalize H1 = H at hP hS ⊢
    rcases hw with ⟨h_41, h_42⟩
    refine lv_aload_n hx hb dX11_feed_88 rfl (lv_at hl 1 rfl) ?_
    refine va_get (D := (dC, dI)) (ci := 11) (v := .ref h0_0) (C := RX11) (T := TX11) (N := 16) hx hb hts iw_c_X11_feed_X11 hown hK hP 0 rfl rfl 0 (by decide) (hts (.fieldLink RX11 10 "BuoyVote" "tape" "LBuoyVote$Tape;") (List.mem_of_getElem? (i := 5) rfl)) (fun _ h9 => h9) rfl dX11_feed_89 ?_
    refine va_get (D := (dC, dI)) (ci := 9) (v := .int x_39) (C := RX9) (T := TX9) (N := 4) hx hb hts iw_c_X11_feed_X9 hown hK hP 1 rfl rfl 1 (by decide) (hts (.fieldLink RX11 103 "BuoyVote$Tape" "length" "I") (List.mem_of_getElem? (i := 6) rfl)) (fun _ h9 => h9) rfl dX11_feed_92 ?_
    have hK9 := hK.sub (tys' := []) [] rfl
    exact W.iret (v := x_39) hx hb hr (fun t ht hW => ⟨⟨x_39, (x_39, w_40), rfl, (Or.inl ⟨h_41, h_41, h_42⟩), by rw [ht]; exact hP, va_K.moved hW.alike hK9, hD⟩, hS.F ht⟩) hS.2.2 dX11_feed_95
  · have d_43 := Int32.not_le.mp c_16
    have g_44 : RG x_15 241 2147483647 := RG_lt2 (RG_k 240 240 rfl) (RG_any x_15) d_43 (by decide)
    refine lv_iconst (v := (-1)) hx hb dX11_feed_44 kc_iconst_m1 ?_
    have hK9 := hK.sub (tys' := []) [] rfl
    exact W.iret (v := (-1)) hx hb hr (fun t ht hW => ⟨⟨(-1), (h0_0_f1, h0_0_0c), rfl, (Or.inr ⟨rfl, g_h0_0_f1, a_h0_0_0c⟩), by rw [ht]; exact hP, va_K.moved hW.alike hK9, hD⟩, hS.F ht⟩) hS.2.2 dX11_feed_45
def wf_c_X11_isWithin : List Cond := .code yX11_isWithin cX11_isWithin 3 (some .boolean) :: ([])
set_option maxHeartbeats 4000000 in
set_option maxRecDepth 100000 in
theorem c_X11_isWithin (l : Launch) (dC : Nat → ClassId) (dI : Nat → Nat → Nat) (sz : Nat) (p0 : Int32) (p2 : Int32) (g_p2 : RG p2 0 240) : Met l yX11_isWithin wf_c_X11_isWithin ({ frames := 0, cells := 0, slots := 0, locals := 0 }) (va_Pc [.int p0, .int 0, .int p2] (fun U => U.heap.size = sz ∧ va_P (dC, dI) vwCl [] U.heap ∧ va_K (dC, dI) vwCl [] U ∧ va_D (fun _ => True) [])) (va_Qi (fun (r : Int32) (u : Unit) => (r = 0 ∧ RG p0 (-2147483648) 2147483647) ∨ (r = 1 ∧ RG p0 0 240 ∧ p0.toInt ≤ p2.toInt + 0)) (fun (u : Unit) t => va_P (dC, dI) vwCl [] t.heap ∧ va_K (dC, dI) vwCl [] t ∧ va_D (va_A [] sz) []) (va_A [] sz)) 0 0 (va_A [] sz) := by
  refine Met.ofW (cc := cX11_isWithin) (maxL := 3) (ret := (some .boolean)) (by decide) rfl ?_
  intro p e s m args below meth c s₁ B hml hv
  obtain ⟨rfl, hsz, hP, hK, hD0⟩ := hv
  have hx := B.exec
  have hb := B.bytes
  have hr := B.returns
  have hts := atoms_spec (ws := wf_c_X11_isWithin) B.pre
  have hown : s.vm.findClass RX11 = some m.cls := findClass_of_methodNamed B.named
  have hlocks := B.notSynchronized
  subst hsz
  have hD := hD0.self (sz := s.heap.size)
  generalize hAe : va_A [] s.heap.size = A at hD ⊢
  have hA : ∀ q : Nat, s.heap.size ≤ q → A q := fun q h => by rw [← hAe]; exact Or.inr h
  have hP : va_P (dC, dI) vwCl [] s.heap := hP
  have hl := lv_entry ([.int p0, .int 0, .int p2]) (n := 3) (Nat.le_of_ble_eq_true rfl)
  rw [lg_entry_eq]
  generalize (lg_sl ([.int p0, .int 0, .int p2]) ++ List.replicate (3 - (lg_sl ([.int p0, .int 0, .int p2])).length) Slot.unset).toArray = ls at hl ⊢
  have hl : lv_has ls 3 [(0, .int p0), (1, .int 0), (2, .int p2)] := hl
  obtain ⟨H, hHe⟩ : ∃ H : Heap, s.heap = H := ⟨_, rfl⟩
  have hS : va_S A s.heap H [] := by rw [hHe]; exact va_S.rf
  have hP : va_P (dC, dI) vwCl [] H := by rw [← hHe]; exact hP
  rw [hHe]
  refine lv_iload_n hx hb dX11_isWithin_0 rfl (lv_at hl 0 rfl) ?_
  refine lv_iload_n hx hb dX11_isWithin_1 rfl (lv_at hl 1 rfl) ?_
  refine lv_icmp_lt (tgt := 14) hx hb dX11_isWithin_2 rfl (fun c_1 => ?_) (fun c_1 => ?_)
  · have g_2 : RG p0 (-2147483648) (-1) := RG_lt1 (RG_any p0) (RG_k 0 0 rfl) c_1 (by decide)
    refine lv_iconst (v := 0) hx hb dX11_isWithin_14 kc_iconst_0 ?_
    have hK9 := hK.sub (tys' := []) [] rfl
    exact W.zret (v := 0) hx hb hr rfl (fun t ht hW => ⟨⟨0, (), rfl, (Or.inl ⟨rfl, (RG_w g_2 (by decide))⟩), by rw [ht]; exact hP, va_K.moved hW.alike hK9, hD⟩, hS.F ht⟩) hS.2.2 dX11_isWithin_15
  · have d_3 := Int32.not_lt.mp c_1
    have g_4 : RG p0 0 2147483647 := RG_le2 (RG_k 0 0 rfl) (RG_any p0) d_3 (by decide)
    refine lv_iload_n hx hb dX11_isWithin_5 rfl (lv_at hl 0 rfl) ?_
    refine lv_iload_n hx hb dX11_isWithin_6 rfl (lv_at hl 2 rfl) ?_
    refine lv_icmp_gt (tgt := 14) hx hb dX11_isWithin_7 rfl (fun c_5 => ?_) (fun c_5 => ?_)
    · have b_6 : p2.toInt ≤ p0.toInt + (-1) := by have := Int32.lt_iff_toInt_lt.mp c_5; omega
      have g_7 : RG p0 1 2147483647 := RG_lt2 g_p2 g_4 c_5 (by decide)
      refine lv_iconst (v := 0) hx hb dX11_isWithin_14 kc_iconst_0 ?_
      have hK9 := hK.sub (tys' := []) [] rfl
      exact W.zret (v := 0) hx hb hr rfl (fun t ht hW => ⟨⟨0, (), rfl, (Or.inl ⟨rfl, (RG_w g_7 (by decide))⟩), by rw [ht]; exact hP, va_K.moved hW.alike hK9, hD⟩, hS.F ht⟩) hS.2.2 dX11_isWithin_15
    · have d_8 := Int32.not_lt.mp c_5
      have b_9 : p0.toInt ≤ p2.toInt + 0 := by have := Int32.le_iff_toInt_le.mp d_8; omega
      have g_10 : RG p0 0 240 := RG_le1 g_4 g_p2 d_8 (by decide)
      refine lv_iconst (v := 1) hx hb dX11_isWithin_10 kc_iconst_1 ?_
      refine lv_goto (tgt := 15) hx hb dX11_isWithin_11 rfl ?_
      have hK9 := hK.sub (tys' := []) [] rfl
      exact W.zret (v := 1) hx hb hr rfl (fun t ht hW => ⟨⟨1, (), rfl, (Or.inr ⟨rfl, g_10, (by have := b_9; have := (g_10).2; have := (g_p2).1; show p0.toInt ≤ p2.toInt + 0; omega)⟩), by rw [ht]; exact hP, va_K.moved hW.alike hK9, hD⟩, hS.F ht⟩) hS.2.2 dX11_isWithin_15
def wd_c_X11_end (a0 : Nat) (a1 : Nat) (a2 : Nat) (a3 : Nat) (a4 : Nat) (a5 : Nat) (a6 : Int32) (a7 : Nat) (a8 : Nat) (a9 : Nat) (a10 : Nat) (a11 : Nat) (a12 : Nat) (a13 : Nat) (a14 : Nat) (a15 : Nat) (a16 : Int64) (a17 : Nat) (a18 : Nat) (a19 : Int32) (a20 : Int32) (a21 : Int32) : va_W := [(a0, .inr (11, [.ref a1, .ref a2, .ref a3, .ref a4, .ref a5, .int a6, .ref a7, .ref a8, .ref a9, .ref a10, .ref a11, .ref a12, .ref a13, .ref a14, .ref a15, .long a16])), (a17, .inr (9, [.ref a18, .int a19, .int a20, .int a21]))]
def wf_c_X11_end : List Cond := .code yX11_end cX11_end 2 (some .boolean) :: ([.fieldLink RX11 10 "BuoyVote" "tape" "LBuoyVote$Tape;", .fieldLink RX11 103 "BuoyVote$Tape" "length" "I", .methodLink RX11 111 yX11_isWithin, .static yX11_isWithin, .initialized RX11, .code yX11_isWithin cX11_isWithin 3 (some .boolean)] ++ wsX110 ++ wsX90)
theorem iw_c_X11_end_X11 : ∀ w ∈ wsX110, w ∈ wf_c_X11_end := fun w h => List.mem_cons_of_mem _ (List.mem_append_left _ (List.mem_append_right _ h))
theorem iw_c_X11_end_X9 : ∀ w ∈ wsX90, w ∈ wf_c_X11_end := fun w h => List.mem_cons_of_mem _ (List.mem_append_right _ h)
set_option maxRecDepth 20000 in
theorem gf_c_X11_end_c_X11_isWithin : GoodIn wf_c_X11_end (va_wsS RX11 111 yX11_isWithin wf_c_X11_isWithin) := goodIn_app (gi_cons (j := 3) rfl rfl (gi_cons (j := 4) rfl rfl (gi_cons (j := 5) rfl rfl (gi_nil)))) (gi_cons (j := 6) rfl rfl (gi_nil))
set_option maxHeartbeats 4000000 in
set_option maxRecDepth 100000 in
theorem c_X11_end (l : Launch) (dC : Nat → ClassId) (dI : Nat → Nat → Nat) (sz : Nat) (h0 : Nat) (p1 : Int32) (h0_0 : Nat) (h0_1 : Nat) (h0_2 : Nat) (h0_3 : Nat) (h0_4 : Nat) (h0_f5 : Int32) (h0_6 : Nat) (h0_7 : Nat) (h0_8 : Nat) (h0_9 : Nat) (h0_10 : Nat) (h0_11 : Nat) (h0_12 : Nat) (h0_13 : Nat) (h0_14 : Nat) (h0_f15 : Int64) (h0_0_0 : Nat) (h0_0_f1 : Int32) (h0_0_f2 : Int32) (h0_0_f3 : Int32) (g_h0_f5 : RG h0_f5 0 4) (g_h0_0_f1 : RG h0_0_f1 0 240) (g_h0_0_f2 : RG h0_0_f2 0 240) (g_h0_0_f3 : RG h0_0_f3 (-1) 240) : Met l yX11_end wf_c_X11_end ({ frames := 1, cells := 0, slots := 0, locals := 22 }) (va_Pc [.ref h0, .int p1] (fun U => U.heap.size = sz ∧ va_P (dC, dI) vwCl (wd_c_X11_end h0 h0_0 h0_1 h0_2 h0_3 h0_4 h0_f5 h0_6 h0_7 h0_8 h0_9 h0_10 h0_11 h0_12 h0_13 h0_14 h0_f15 h0_0 h0_0_0 h0_0_f1 h0_0_f2 h0_0_f3) U.heap ∧ va_K (dC, dI) vwCl [] U ∧ va_D (fun _ => True) (wd_c_X11_end h0 h0_0 h0_1 h0_2 h0_3 h0_4 h0_f5 h0_6 h0_7 h0_8 h0_9 h0_10 h0_11 h0_12 h0_13 h0_14 h0_f15 h0_0 h0_0_0 h0_0_f1 h0_0_f2 h0_0_f3))) (va_Qi (fun (r : Int32) (u : (Int32)) => (r = 0 ∧ RG u 0 240) ∨ (r = 1 ∧ RG u 0 240 ∧ RG p1 0 240)) (fun (u : (Int32)) t => va_P (dC, dI) vwCl (wd_c_X11_end h0 h0_0 h0_1 h0_2 h0_3 h0_4 h0_f5 h0_6 h0_7 h0_8 h0_9 h0_10 h0_11 h0_12 h0_13 h0_14 h0_f15 h0_0 h0_0_0 u h0_0_f2 h0_0_f3) t.heap ∧ va_K (dC, dI) vwCl [] t ∧ va_D (va_A (wd_c_X11_end h0 h0_0 h0_1 h0_2 h0_3 h0_4 h0_f5 h0_6 h0_7 h0_8 h0_9 h0_10 h0_11 h0_12 h0_13 h0_14 h0_f15 h0_0 h0_0_0 h0_0_f1 h0_0_f2 h0_0_f3) sz) (wd_c_X11_end h0 h0_0 h0_1 h0_2 h0_3 h0_4 h0_f5 h0_6 h0_7 h0_8 h0_9 h0_10 h0_11 h0_12 h0_13 h0_14 h0_f15 h0_0 h0_0_0 u h0_0_f2 h0_0_f3)) (va_A (wd_c_X11_end h0 h0_0 h0_1 h0_2 h0_3 h0_4 h0_f5 h0_6 h0_7 h0_8 h0_9 h0_10 h0_11 h0_12 h0_13 h0_14 h0_f15 h0_0 h0_0_0 h0_0_f1 h0_0_f2 h0_0_f3) sz)) 0 0 (va_A (wd_c_X11_end h0 h0_0 h0_1 h0_2 h0_3 h0_4 h0_f5 h0_6 h0_7 h0_8 h0_9 h0_10 h0_11 h0_12 h0_13 h0_14 h0_f15 h0_0 h0_0_0 h0_0_f1 h0_0_f2 h0_0_f3) sz) := by
  refine Met.ofW (cc := cX11_end) (maxL := 2) (ret := (some .boolean)) (by decide) rfl ?_
  intro p e s m args below meth c s₁ B hml hv
  obtain ⟨rfl, hsz, hP, hK, hD0⟩ := hv
  have hx := B.exec
  have hb := B.bytes
  have hr := B.returns
  have hts := atoms_spec (ws := wf_c_X11_end) B.pre
  have hown : s.vm.findClass RX11 = some m.cls := findClass_of_methodNamed B.named
  have hlocks := B.notSynchronized
  subst hsz
  have hD := hD0.self (sz := s.heap.size)
  generalize hAe : va_A (wd_c_X11_end h0 h0_0 h0_1 h0_2 h0_3 h0_4 h0_f5 h0_6 h0_7 h0_8 h0_9 h0_10 h0_11 h0_12 h0_13 h0_14 h0_f15 h0_0 h0_0_0 h0_0_f1 h0_0_f2 h0_0_f3) s.heap.size = A at hD ⊢
  have hA : ∀ q : Nat, s.heap.size ≤ q → A q := fun q h => by rw [← hAe]; exact Or.inr h
  have hP : va_P (dC, dI) vwCl (wd_c_X11_end h0 h0_0 h0_1 h0_2 h0_3 h0_4 h0_f5 h0_6 h0_7 h0_8 h0_9 h0_10 h0_11 h0_12 h0_13 h0_14 h0_f15 h0_0 h0_0_0 h0_0_f1 h0_0_f2 h0_0_f3) s.heap := hP
  have hl := lv_entry ([.ref h0, .int p1]) (n := 2) (Nat.le_of_ble_eq_true rfl)
  rw [lg_entry_eq]
  generalize (lg_sl ([.ref h0, .int p1]) ++ List.replicate (2 - (lg_sl ([.ref h0, .int p1])).length) Slot.unset).toArray = ls at hl ⊢
  have hl : lv_has ls 2 [(0, .ref h0), (1, .int p1)] := hl
  obtain ⟨H, hHe⟩ : ∃ H : Heap, s.heap = H := ⟨_, rfl⟩
  have hS : va_S A s.heap H [] := by rw [hHe]; exact va_S.rf
  have hP : va_P (dC, dI) vwCl (wd_c_X11_end h0 h0_0 h0_1 h0_2 h0_3 h0_4 h0_f5 h0_6 h0_7 h0_8 h0_9 h0_10 h0_11 h0_12 h0_13 h0_14 h0_f15 h0_0 h0_0_0 h0_0_f1 h0_0_f2 h0_0_f3) H := by rw [← hHe]; exact hP
  rw [hHe]
  refine lv_iload_n hx hb dX11_end_0 rfl (lv_at hl 1 rfl) ?_
  refine lv_iconst (v := 0) hx hb dX11_end_1 kc_iconst_0 ?_
  refine lv_aload_n hx hb dX11_end_2 rfl (lv_at hl 0 rfl) ?_
  refine va_get (D := (dC, dI)) (ci := 11) (v := .ref h0_0) (C := RX11) (T := TX11) (N := 16) hx hb hts iw_c_X11_end_X11 hown hK hP 0 rfl rfl 0 (by decide) (hts (.fieldLink RX11 10 "BuoyVote" "tape" "LBuoyVote$Tape;") (List.mem_of_getElem? (i := 1) rfl)) (fun _ h9 => h9) rfl dX11_end_3 ?_
  refine va_get (D := (dC, dI)) (ci := 9) (v := .int h0_0_f1) (C := RX9) (T := TX9) (N := 4) hx hb hts iw_c_X11_end_X9 hown hK hP 1 rfl rfl 1 (by decide) (hts (.fieldLink RX11 103 "BuoyVote$Tape" "length" "I") (List.mem_of_getElem? (i := 2) rfl)) (fun _ h9 => h9) rfl dX11_end_6 ?_
  have hPc := hP.sub (ws' := []) [] rfl
  have hDc := hD.sub (ws' := []) [] (by decide) rfl
  have hKc := hK.sub (tys' := []) [] rfl
  have hFc := va_free (wc := []) hD hS hA [] rfl
  refine va_calli (va_runS (As := [.int p1, .int 0, .int h0_0_f1]) (rest := []) ⟨hx, hb, hml, hown, hts⟩ (c_X11_isWithin l dC dI H.size p1 h0_0_f1 g_h0_0_f1) (va_cwS 3 hts gf_c_X11_end_c_X11_isWithin rfl rfl rfl (by decide +kernel) ⟨Nat.le_of_ble_eq_true rfl, Nat.le_of_ble_eq_true rfl⟩) ⟨fun a U g mk q => by obtain ⟨q0, q1, qP, qK, qD⟩ := q; exact ⟨q0, q1, qP, va_K.moved (u := U) (U := U.calling g mk a) (Vm.Alike.refl U.vm) qK, qD⟩, fun U hU hW => ⟨rfl, by rw [hU], by rw [hU]; exact hPc, va_K.moved hW.alike hKc, hDc.weaken (fun _ _ _ _ => trivial)⟩⟩ rfl rfl hl.1 rfl (lv_room (Nat.le_of_ble_eq_true rfl)) dX11_end_9 ⟨Nat.le_of_ble_eq_true rfl, Nat.le_of_ble_eq_true rfl⟩) hS (fun q _ h => hFc q h) hFc (fun r_1 u t H1 locs ht hvm hw hB hz1 hk1 hS => ?_)
  obtain ⟨hP1, hK1, hD1⟩ := hB
  rw [ht] at hP1
  have hP := bv_still hP hk1
  generalize H1 = H at hP hS ⊢
  rcases hw with ⟨h_2, h_3⟩ | ⟨h_4, h_5, h_6⟩
  · rw [h_2]
    refine lv_if_ne (tgt := 17) hx hb dX11_end_12 rfl (fun c_7 => absurd c_7 (by decide)) (fun c_7 => ?_)
    refine lv_iconst (v := 0) hx hb dX11_end_15 kc_iconst_0 ?_
    have hK9 := hK.sub (tys' := []) [] rfl
    exact W.zret (v := 0) hx hb hr rfl (fun t ht hW => ⟨⟨0, h0_0_f1, rfl, (Or.inl ⟨rfl, g_h0_0_f1⟩), by rw [ht]; exact hP, va_K.moved hW.alike hK9, hD⟩, hS.F ht⟩) hS.2.2 dX11_end_16
  · rw [h_4]
    refine lv_if_ne (tgt := 17) hx hb dX11_end_12 rfl (fun c_8 => ?_) (fun c_8 => absurd c_8 (by decide))
    refine lv_aload_n hx hb dX11_end_17 rfl (lv_at hl 0 rfl) ?_
    refine va_get (D := (dC, dI)) (ci := 11) (v := .ref h0_0) (C := RX11) (T := TX11) (N := 16) hx hb hts iw_c_X11_end_X11 hown hK hP 0 rfl rfl 0 (by decide) (hts (.fieldLink RX11 10 "BuoyVote" "tape" "LBuoyVote$Tape;") (List.mem_of_getElem? (i := 1) rfl)) (fun _ h9 => h9) rfl dX11_end_18 ?_
    refine lv_iload_n hx hb dX11_end_21 rfl (lv_at hl 1 rfl) ?_
    refine va_put (D := (dC, dI)) (ci := 9) (v := .int p1) (ty := .int) (C := RX9) (T := TX9) (N := 4) hx hb hts iw_c_X11_end_X9 tyX9 tyX9_ok nmX9 hown hK hP hD hS 1 rfl rfl 1 (by decide) (hts (.fieldLink RX11 103 "BuoyVote$Tape" "length" "I") (List.mem_of_getElem? (i := 2) rfl)) (fun _ h9 => h9) rfl (by decide +kernel) rfl rfl (Nat.le_of_ble_eq_true rfl) dX11_end_22 (fun H locs hP hD hS => ?_)
    have hP : va_P (dC, dI) vwCl (wd_c_X11_end h0 h0_0 h0_1 h0_2 h0_3 h0_4 h0_f5 h0_6 h0_7 h0_8 h0_9 h0_10 h0_11 h0_12 h0_13 h0_14 h0_f15 h0_0 h0_0_0 p1 h0_0_f2 h0_0_f3) H := hP
    have hD : va_D A (wd_c_X11_end h0 h0_0 h0_1 h0_2 h0_3 h0_4 h0_f5 h0_6 h0_7 h0_8 h0_9 h0_10 h0_11 h0_12 h0_13 h0_14 h0_f15 h0_0 h0_0_0 p1 h0_0_f2 h0_0_f3) := hD
    refine lv_iconst (v := 1) hx hb dX11_end_25 kc_iconst_1 ?_
    have hK9 := hK.sub (tys' := []) [] rfl
    exact W.zret (v := 1) hx hb hr rfl (fun t ht hW => ⟨⟨1, p1, rfl, (Or.inr ⟨rfl, h_5, h_5⟩), by rw [ht]; exact hP, va_K.moved hW.alike hK9, hD⟩, hS.F ht⟩) hS.2.2 dX11_end_26
def wd_c_X11_hasBorough (a0 : Nat) (a1 : Nat) (a2 : Nat) (a3 : Nat) (a4 : Nat) (a5 : Nat) (a6 : Int32) (a7 : Nat) (a8 : Nat) (a9 : Nat) (a10 : Nat) (a11 : Nat) (a12 : Nat) (a13 : Nat) (a14 : Nat) (a15 : Nat) (a16 : Int64) (a17 : Nat) (a18 : Nat) (a19 : Int32) (a20 : Int32) (a21 : Int32) : va_W := [(a0, .inr (11, [.ref a1, .ref a2, .ref a3, .ref a4, .ref a5, .int a6, .ref a7, .ref a8, .ref a9, .ref a10, .ref a11, .ref a12, .ref a13, .ref a14, .ref a15, .long a16])), (a17, .inr (0, [.ref a18, .int a19, .int a20, .int a21]))]
def wf_c_X11_hasBorough : List Cond := .code yX11_hasBorough cX11_hasBorough 1 (some .boolean) :: ([.fieldLink RX11 19 "BuoyVote" "told" "LBuoyVote$Borough;", .fieldLink RX11 275 "BuoyVote$Borough" "buoys" "I"] ++ wsX110 ++ wsX00)
theorem iw_c_X11_hasBorough_X11 : ∀ w ∈ wsX110, w ∈ wf_c_X11_hasBorough := fun w h => List.mem_cons_of_mem _ (List.mem_append_left _ (List.mem_append_right _ h))
theorem iw_c_X11_hasBorough_X0 : ∀ w ∈ wsX00, w ∈ wf_c_X11_hasBorough := fun w h => List.mem_cons_of_mem _ (List.mem_append_right _ h)
set_option maxHeartbeats 4000000 in
set_option maxRecDepth 100000 in
theorem c_X11_hasBorough (l : Launch) (dC : Nat → ClassId) (dI : Nat → Nat → Nat) (sz : Nat) (h0 : Nat) (h0_0 : Nat) (h0_1 : Nat) (h0_2 : Nat) (h0_3 : Nat) (h0_4 : Nat) (h0_f5 : Int32) (h0_6 : Nat) (h0_7 : Nat) (h0_8 : Nat) (h0_9 : Nat) (h0_10 : Nat) (h0_11 : Nat) (h0_12 : Nat) (h0_13 : Nat) (h0_14 : Nat) (h0_f15 : Int64) (h0_1_0 : Nat) (h0_1_f1 : Int32) (h0_1_f2 : Int32) (h0_1_f3 : Int32) (g_h0_f5 : RG h0_f5 0 4) (g_h0_1_f1 : RG h0_1_f1 0 8) (g_h0_1_f2 : RG h0_1_f2 0 3) (g_h0_1_f3 : RG h0_1_f3 0 1) : Met l yX11_hasBorough wf_c_X11_hasBorough ({ frames := 0, cells := 0, slots := 0, locals := 0 }) (va_Pc [.ref h0] (fun U => U.heap.size = sz ∧ va_P (dC, dI) vwCl (wd_c_X11_hasBorough h0 h0_0 h0_1 h0_2 h0_3 h0_4 h0_f5 h0_6 h0_7 h0_8 h0_9 h0_10 h0_11 h0_12 h0_13 h0_14 h0_f15 h0_1 h0_1_0 h0_1_f1 h0_1_f2 h0_1_f3) U.heap ∧ va_K (dC, dI) vwCl [] U ∧ va_D (fun _ => True) (wd_c_X11_hasBorough h0 h0_0 h0_1 h0_2 h0_3 h0_4 h0_f5 h0_6 h0_7 h0_8 h0_9 h0_10 h0_11 h0_12 h0_13 h0_14 h0_f15 h0_1 h0_1_0 h0_1_f1 h0_1_f2 h0_1_f3))) (va_Qi (fun (r : Int32) (u : Unit) => (r = 0 ∧ RG h0_1_f1 0 0) ∨ (r = 1 ∧ RG h0_1_f1 1 8)) (fun (u : Unit) t => va_P (dC, dI) vwCl (wd_c_X11_hasBorough h0 h0_0 h0_1 h0_2 h0_3 h0_4 h0_f5 h0_6 h0_7 h0_8 h0_9 h0_10 h0_11 h0_12 h0_13 h0_14 h0_f15 h0_1 h0_1_0 h0_1_f1 h0_1_f2 h0_1_f3) t.heap ∧ va_K (dC, dI) vwCl [] t ∧ va_D (va_A (wd_c_X11_hasBorough h0 h0_0 h0_1 h0_2 h0_3 h0_4 h0_f5 h0_6 h0_7 h0_8 h0_9 h0_10 h0_11 h0_12 h0_13 h0_14 h0_f15 h0_1 h0_1_0 h0_1_f1 h0_1_f2 h0_1_f3) sz) (wd_c_X11_hasBorough h0 h0_0 h0_1 h0_2 h0_3 h0_4 h0_f5 h0_6 h0_7 h0_8 h0_9 h0_10 h0_11 h0_12 h0_13 h0_14 h0_f15 h0_1 h0_1_0 h0_1_f1 h0_1_f2 h0_1_f3)) (va_A (wd_c_X11_hasBorough h0 h0_0 h0_1 h0_2 h0_3 h0_4 h0_f5 h0_6 h0_7 h0_8 h0_9 h0_10 h0_11 h0_12 h0_13 h0_14 h0_f15 h0_1 h0_1_0 h0_1_f1 h0_1_f2 h0_1_f3) sz)) 0 0 (va_A (wd_c_X11_hasBorough h0 h0_0 h0_1 h0_2 h0_3 h0_4 h0_f5 h0_6 h0_7 h0_8 h0_9 h0_10 h0_11 h0_12 h0_13 h0_14 h0_f15 h0_1 h0_1_0 h0_1_f1 h0_1_f2 h0_1_f3) sz) := by
  refine Met.ofW (cc := cX11_hasBorough) (maxL := 1) (ret := (some .boolean)) (by decide) rfl ?_
  intro p e s m args below meth c s₁ B hml hv
  obtain ⟨rfl, hsz, hP, hK, hD0⟩ := hv
  have hx := B.exec
  have hb := B.bytes
  have hr := B.returns
  have hts := atoms_spec (ws := wf_c_X11_hasBorough) B.pre
  have hown : s.vm.findClass RX11 = some m.cls := findClass_of_methodNamed B.named
  have hlocks := B.notSynchronized
  subst hsz
  have hD := hD0.self (sz := s.heap.size)
  generalize hAe : va_A (wd_c_X11_hasBorough h0 h0_0 h0_1 h0_2 h0_3 h0_4 h0_f5 h0_6 h0_7 h0_8 h0_9 h0_10 h0_11 h0_12 h0_13 h0_14 h0_f15 h0_1 h0_1_0 h0_1_f1 h0_1_f2 h0_1_f3) s.heap.size = A at hD ⊢
  have hA : ∀ q : Nat, s.heap.size ≤ q → A q := fun q h => by rw [← hAe]; exact Or.inr h
  have hP : va_P (dC, dI) vwCl (wd_c_X11_hasBorough h0 h0_0 h0_1 h0_2 h0_3 h0_4 h0_f5 h0_6 h0_7 h0_8 h0_9 h0_10 h0_11 h0_12 h0_13 h0_14 h0_f15 h0_1 h0_1_0 h0_1_f1 h0_1_f2 h0_1_f3) s.heap := hP
  have hl := lv_entry ([.ref h0]) (n := 1) (Nat.le_of_ble_eq_true rfl)
  rw [lg_entry_eq]
  generalize (lg_sl ([.ref h0]) ++ List.replicate (1 - (lg_sl ([.ref h0])).length) Slot.unset).toArray = ls at hl ⊢
  have hl : lv_has ls 1 [(0, .ref h0)] := hl
  obtain ⟨H, hHe⟩ : ∃ H : Heap, s.heap = H := ⟨_, rfl⟩
  have hS : va_S A s.heap H [] := by rw [hHe]; exact va_S.rf
  have hP : va_P (dC, dI) vwCl (wd_c_X11_hasBorough h0 h0_0 h0_1 h0_2 h0_3 h0_4 h0_f5 h0_6 h0_7 h0_8 h0_9 h0_10 h0_11 h0_12 h0_13 h0_14 h0_f15 h0_1 h0_1_0 h0_1_f1 h0_1_f2 h0_1_f3) H := by rw [← hHe]; exact hP
  rw [hHe]
  refine lv_aload_n hx hb dX11_hasBorough_0 rfl (lv_at hl 0 rfl) ?_
  refine va_get (D := (dC, dI)) (ci := 11) (v := .ref h0_1) (C := RX11) (T := TX11) (N := 16) hx hb hts iw_c_X11_hasBorough_X11 hown hK hP 0 rfl rfl 1 (by decide) (hts (.fieldLink RX11 19 "BuoyVote" "told" "LBuoyVote$Borough;") (List.mem_of_getElem? (i := 1) rfl)) (fun _ h9 => h9) rfl dX11_hasBorough_1 ?_
  refine va_get (D := (dC, dI)) (ci := 0) (v := .int h0_1_f1) (C := RX0) (T := TX0) (N := 4) hx hb hts iw_c_X11_hasBorough_X0 hown hK hP 1 rfl rfl 1 (by decide) (hts (.fieldLink RX11 275 "BuoyVote$Borough" "buoys" "I") (List.mem_of_getElem? (i := 2) rfl)) (fun _ h9 => h9) rfl dX11_hasBorough_4 ?_
  refine lv_if_le (tgt := 14) hx hb dX11_hasBorough_7 rfl (fun c_1 => ?_) (fun c_1 => ?_)
  · have g_2 : RG h0_1_f1 0 0 := RG_le1 g_h0_1_f1 (RG_k 0 0 rfl) c_1 (by decide)
    refine lv_iconst (v := 0) hx hb dX11_hasBorough_14 kc_iconst_0 ?_
    have hK9 := hK.sub (tys' := []) [] rfl
    exact W.zret (v := 0) hx hb hr rfl (fun t ht hW => ⟨⟨0, (), rfl, (Or.inl ⟨rfl, g_2⟩), by rw [ht]; exact hP, va_K.moved hW.alike hK9, hD⟩, hS.F ht⟩) hS.2.2 dX11_hasBorough_15
  · have d_3 := Int32.not_le.mp c_1
    have g_4 : RG h0_1_f1 1 8 := RG_lt2 (RG_k 0 0 rfl) g_h0_1_f1 d_3 (by decide)
    refine lv_iconst (v := 1) hx hb dX11_hasBorough_10 kc_iconst_1 ?_
    refine lv_goto (tgt := 15) hx hb dX11_hasBorough_11 rfl ?_
    have hK9 := hK.sub (tys' := []) [] rfl
    exact W.zret (v := 1) hx hb hr rfl (fun t ht hW => ⟨⟨1, (), rfl, (Or.inr ⟨rfl, g_4⟩), by rw [ht]; exact hP, va_K.moved hW.alike hK9, hD⟩, hS.F ht⟩) hS.2.2 dX11_hasBorough_15
def wd_c_X0_tideHours (a0 : Nat) (a1 : Nat) (a2 : Int32) (a3 : Int32) (a4 : Int32) (a5 : Nat) (a6 : ClassId) (a7 : Nat → Int32) : va_W := [(a0, .inr (0, [.ref a1, .int a2, .int a3, .int a4])), (a5, .inl (a6, 80, .inl a7))]
def wf_c_X0_tideHours : List Cond := .code yX0_tideHours cX0_tideHours 1 (some .int) :: ([.fieldLink RX0 11 "BuoyVote$Borough" "values" "[I"] ++ wsX00)
theorem iw_c_X0_tideHours_X0 : ∀ w ∈ wsX00, w ∈ wf_c_X0_tideHours := fun w h => List.mem_cons_of_mem _ (List.mem_append_right _ h)
set_option maxHeartbeats 4000000 in
set_option maxRecDepth 100000 in
theorem c_X0_tideHours (l : Launch) (dC : Nat → ClassId) (dI : Nat → Nat → Nat) (sz : Nat) (h0 : Nat) (h0_0 : Nat) (h0_f1 : Int32) (h0_f2 : Int32) (h0_f3 : Int32) (h0_0k : ClassId) (h0_0c : Nat → Int32) (g_h0_f1 : RG h0_f1 0 8) (g_h0_f2 : RG h0_f2 0 3) (g_h0_f3 : RG h0_f3 0 1) (a_h0_0c : AI h0_0c (-1) 99) : Met l yX0_tideHours wf_c_X0_tideHours ({ frames := 0, cells := 0, slots := 0, locals := 0 }) (va_Pc [.ref h0] (fun U => U.heap.size = sz ∧ va_P (dC, dI) vwCl (wd_c_X0_tideHours h0 h0_0 h0_f1 h0_f2 h0_f3 h0_0 h0_0k h0_0c) U.heap ∧ va_K (dC, dI) vwCl [(h0_0k, .int)] U ∧ va_D (fun _ => True) (wd_c_X0_tideHours h0 h0_0 h0_f1 h0_f2 h0_f3 h0_0 h0_0k h0_0c))) (va_Qi (fun (r : Int32) (u : Unit) => (RG r (-1) 99)) (fun (u : Unit) t => va_P (dC, dI) vwCl (wd_c_X0_tideHours h0 h0_0 h0_f1 h0_f2 h0_f3 h0_0 h0_0k h0_0c) t.heap ∧ va_K (dC, dI) vwCl [] t ∧ va_D (va_A (wd_c_X0_tideHours h0 h0_0 h0_f1 h0_f2 h0_f3 h0_0 h0_0k h0_0c) sz) (wd_c_X0_tideHours h0 h0_0 h0_f1 h0_f2 h0_f3 h0_0 h0_0k h0_0c)) (va_A (wd_c_X0_tideHours h0 h0_0 h0_f1 h0_f2 h0_f3 h0_0 h0_0k h0_0c) sz)) 0 0 (va_A (wd_c_X0_tideHours h0 h0_0 h0_f1 h0_f2 h0_f3 h0_0 h0_0k h0_0c) sz) := by
  refine Met.ofW (cc := cX0_tideHours) (maxL := 1) (ret := (some .int)) (by decide) rfl ?_
  intro p e s m args below meth c s₁ B hml hv
  obtain ⟨rfl, hsz, hP, hK, hD0⟩ := hv
  have hx := B.exec
  have hb := B.bytes
  have hr := B.returns
  have hts := atoms_spec (ws := wf_c_X0_tideHours) B.pre
  have hown : s.vm.findClass RX0 = some m.cls := findClass_of_methodNamed B.named
  have hlocks := B.notSynchronized
  subst hsz
  have hD := hD0.self (sz := s.heap.size)
  generalize hAe : va_A (wd_c_X0_tideHours h0 h0_0 h0_f1 h0_f2 h0_f3 h0_0 h0_0k h0_0c) s.heap.size = A at hD ⊢
  have hA : ∀ q : Nat, s.heap.size ≤ q → A q := fun q h => by rw [← hAe]; exact Or.inr h
  have hP : va_P (dC, dI) vwCl (wd_c_X0_tideHours h0 h0_0 h0_f1 h0_f2 h0_f3 h0_0 h0_0k h0_0c) s.heap := hP
  have hl := lv_entry ([.ref h0]) (n := 1) (Nat.le_of_ble_eq_true rfl)
  rw [lg_entry_eq]
  generalize (lg_sl ([.ref h0]) ++ List.replicate (1 - (lg_sl ([.ref h0])).length) Slot.unset).toArray = ls at hl ⊢
  have hl : lv_has ls 1 [(0, .ref h0)] := hl
  obtain ⟨H, hHe⟩ : ∃ H : Heap, s.heap = H := ⟨_, rfl⟩
  have hS : va_S A s.heap H [] := by rw [hHe]; exact va_S.rf
  have hP : va_P (dC, dI) vwCl (wd_c_X0_tideHours h0 h0_0 h0_f1 h0_f2 h0_f3 h0_0 h0_0k h0_0c) H := by rw [← hHe]; exact hP
  rw [hHe]
  refine lv_aload_n hx hb dX0_tideHours_0 rfl (lv_at hl 0 rfl) ?_
  refine va_get (D := (dC, dI)) (ci := 0) (v := .ref h0_0) (C := RX0) (T := TX0) (N := 4) hx hb hts iw_c_X0_tideHours_X0 hown hK hP 0 rfl rfl 0 (by decide) (hts (.fieldLink RX0 11 "BuoyVote$Borough" "values" "[I") (List.mem_of_getElem? (i := 1) rfl)) (fun _ h9 => h9) rfl dX0_tideHours_1 ?_
  refine lv_iconst (v := 2) hx hb dX0_tideHours_4 kc_iconst_2 ?_
  refine va_iald hx hb hK hP 1 0 rfl rfl (RG_in (RG_k 2 2 rfl) (by decide)) dX0_tideHours_5 ?_
  refine lv_topi (fun x_1 ex_1 => ?_)
  have g_2 : RG x_1 (-1) 99 := AI_rd a_h0_0c ex_1
  have hK9 := hK.sub (tys' := []) [] rfl
  exact W.iret (v := x_1) hx hb hr (fun t ht hW => ⟨⟨x_1, (), rfl, g_2, by rw [ht]; exact hP, va_K.moved hW.alike hK9, hD⟩, hS.F ht⟩) hS.2.2 dX0_tideHours_6
def wd_c_X0_countHours (a0 : Nat) (a1 : Nat) (a2 : Int32) (a3 : Int32) (a4 : Int32) (a5 : Nat) (a6 : ClassId) (a7 : Nat → Int32) : va_W := [(a0, .inr (0, [.ref a1, .int a2, .int a3, .int a4])), (a5, .inl (a6, 80, .inl a7))]
def wf_c_X0_countHours : List Cond := .code yX0_countHours cX0_countHours 1 (some .int) :: ([.fieldLink RX0 11 "BuoyVote$Borough" "values" "[I"] ++ wsX00)
theorem iw_c_X0_countHours_X0 : ∀ w ∈ wsX00, w ∈ wf_c_X0_countHours := fun w h => List.mem_cons_of_mem _ (List.mem_append_right _ h)
set_option maxHeartbeats 4000000 in
set_option maxRecDepth 100000 in
theorem c_X0_countHours (l : Launch) (dC : Nat → ClassId) (dI : Nat → Nat → Nat) (sz : Nat) (h0 : Nat) (h0_0 : Nat) (h0_f1 : Int32) (h0_f2 : Int32) (h0_f3 : Int32) (h0_0k : ClassId) (h0_0c : Nat → Int32) (g_h0_f1 : RG h0_f1 0 8) (g_h0_f2 : RG h0_f2 0 3) (g_h0_f3 : RG h0_f3 0 1) (a_h0_0c : AI h0_0c (-1) 99) : Met l yX0_countHours wf_c_X0_countHours ({ frames := 0, cells := 0, slots := 0, locals := 0 }) (va_Pc [.ref h0] (fun U => U.heap.size = sz ∧ va_P (dC, dI) vwCl (wd_c_X0_countHours h0 h0_0 h0_f1 h0_f2 h0_f3 h0_0 h0_0k h0_0c) U.heap ∧ va_K (dC, dI) vwCl [(h0_0k, .int)] U ∧ va_D (fun _ => True) (wd_c_X0_countHours h0 h0_0 h0_f1 h0_f2 h0_f3 h0_0 h0_0k h0_0c))) (va_Qi (fun (r : Int32) (u : Unit) => (RG r (-1) 99)) (fun (u : Unit) t => va_P (dC, dI) vwCl (wd_c_X0_countHours h0 h0_0 h0_f1 h0_f2 h0_f3 h0_0 h0_0k h0_0c) t.heap ∧ va_K (dC, dI) vwCl [] t ∧ va_D (va_A (wd_c_X0_countHours h0 h0_0 h0_f1 h0_f2 h0_f3 h0_0 h0_0k h0_0c) sz) (wd_c_X0_countHours h0 h0_0 h0_f1 h0_f2 h0_f3 h0_0 h0_0k h0_0c)) (va_A (wd_c_X0_countHours h0 h0_0 h0_f1 h0_f2 h0_f3 h0_0 h0_0k h0_0c) sz)) 0 0 (va_A (wd_c_X0_countHours h0 h0_0 h0_f1 h0_f2 h0_f3 h0_0 h0_0k h0_0c) sz) := by
  refine Met.ofW (cc := cX0_countHours) (maxL := 1) (ret := (some .int)) (by decide) rfl ?_
  intro p e s m args below meth c s₁ B hml hv
  obtain ⟨rfl, hsz, hP, hK, hD0⟩ := hv
  have hx := B.exec
  have hb := B.bytes
  have hr := B.returns
  have hts := atoms_spec (ws := wf_c_X0_countHours) B.pre
  have hown : s.vm.findClass RX0 = some m.cls := findClass_of_methodNamed B.named
  have hlocks := B.notSynchronized
  subst hsz
  have hD := hD0.self (sz := s.heap.size)
  generalize hAe : va_A (wd_c_X0_countHours h0 h0_0 h0_f1 h0_f2 h0_f3 h0_0 h0_0k h0_0c) s.heap.size = A at hD ⊢
  have hA : ∀ q : Nat, s.heap.size ≤ q → A q := fun q h => by rw [← hAe]; exact Or.inr h
  have hP : va_P (dC, dI) vwCl (wd_c_X0_countHours h0 h0_0 h0_f1 h0_f2 h0_f3 h0_0 h0_0k h0_0c) s.heap := hP
  have hl := lv_entry ([.ref h0]) (n := 1) (Nat.le_of_ble_eq_true rfl)
  rw [lg_entry_eq]
  generalize (lg_sl ([.ref h0]) ++ List.replicate (1 - (lg_sl ([.ref h0])).length) Slot.unset).toArray = ls at hl ⊢
  have hl : lv_has ls 1 [(0, .ref h0)] := hl
  obtain ⟨H, hHe⟩ : ∃ H : Heap, s.heap = H := ⟨_, rfl⟩
  have hS : va_S A s.heap H [] := by rw [hHe]; exact va_S.rf
  have hP : va_P (dC, dI) vwCl (wd_c_X0_countHours h0 h0_0 h0_f1 h0_f2 h0_f3 h0_0 h0_0k h0_0c) H := by rw [← hHe]; exact hP
  rw [hHe]
  refine lv_aload_n hx hb dX0_countHours_0 rfl (lv_at hl 0 rfl) ?_
  refine va_get (D := (dC, dI)) (ci := 0) (v := .ref h0_0) (C := RX0) (T := TX0) (N := 4) hx hb hts iw_c_X0_countHours_X0 hown hK hP 0 rfl rfl 0 (by decide) (hts (.fieldLink RX0 11 "BuoyVote$Borough" "values" "[I") (List.mem_of_getElem? (i := 1) rfl)) (fun _ h9 => h9) rfl dX0_countHours_1 ?_
  refine lv_iconst (v := 3) hx hb dX0_countHours_4 kc_iconst_3 ?_
  refine va_iald hx hb hK hP 1 0 rfl rfl (RG_in (RG_k 3 3 rfl) (by decide)) dX0_countHours_5 ?_
  refine lv_topi (fun x_1 ex_1 => ?_)
  have g_2 : RG x_1 (-1) 99 := AI_rd a_h0_0c ex_1
  have hK9 := hK.sub (tys' := []) [] rfl
  exact W.iret (v := x_1) hx hb hr (fun t ht hW => ⟨⟨x_1, (), rfl, g_2, by rw [ht]; exact hP, va_K.moved hW.alike hK9, hD⟩, hS.F ht⟩) hS.2.2 dX0_countHours_6
def wd_c_X10_isRising (a0 : Nat) (a1 : Nat) (a2 : Nat) (a3 : Nat) (a4 : Nat) (a5 : Nat) (a6 : Nat) (a7 : Nat) (a8 : Nat) (a9 : Int32) (a10 : Int32) (a11 : Int32) (a12 : Nat) (a13 : ClassId) (a14 : Nat → Int32) : va_W := [(a0, .inr (10, [.ref a1, .ref a2, .ref a3, .ref a4, .ref a5, .ref a6])), (a7, .inr (0, [.ref a8, .int a9, .int a10, .int a11])), (a12, .inl (a13, 80, .inl a14))]
def wf_c_X10_isRising : List Cond := .code yX10_isRising cX10_isRising 3 (some .boolean) :: ([.fieldLink RX10 9 "BuoyVote$Waters" "told" "LBuoyVote$Borough;", .methodLink RX10 32 yX0_tideHours, .instanceMethod yX0_tideHours, .selects RX0 yX0_tideHours yX0_tideHours, .initialized RX0, .code yX0_tideHours cX0_tideHours 1 (some .int), .fieldLink RX0 11 "BuoyVote$Borough" "values" "[I"] ++ wsX100 ++ wsX00)
theorem iw_c_X10_isRising_X10 : ∀ w ∈ wsX100, w ∈ wf_c_X10_isRising := fun w h => List.mem_cons_of_mem _ (List.mem_append_left _ (List.mem_append_right _ h))
theorem iw_c_X10_isRising_X0 : ∀ w ∈ wsX00, w ∈ wf_c_X10_isRising := fun w h => List.mem_cons_of_mem _ (List.mem_append_right _ h)
set_option maxRecDepth 20000 in
theorem gf_c_X10_isRising_c_X0_tideHours : GoodIn wf_c_X10_isRising (wsV RX10 32 RX0 yX0_tideHours wf_c_X0_tideHours) := goodIn_app (gi_cons (j := 2) rfl rfl (gi_cons (j := 3) rfl rfl (gi_cons (j := 4) rfl rfl (gi_cons (j := 5) rfl rfl (gi_nil))))) (gi_cons (j := 6) rfl rfl (goodIn_app (gi_cons (j := 7) rfl rfl (gi_nil)) (goodIn_sub iw_c_X10_isRising_X0 gw_X0)))
set_option maxHeartbeats 4000000 in
set_option maxRecDepth 100000 in
theorem c_X10_isRising (l : Launch) (dC : Nat → ClassId) (dI : Nat → Nat → Nat) (sz : Nat) (h0 : Nat) (p1 : Int32) (h0_0 : Nat) (h0_1 : Nat) (h0_2 : Nat) (h0_3 : Nat) (h0_4 : Nat) (h0_5 : Nat) (h0_0_0 : Nat) (h0_0_f1 : Int32) (h0_0_f2 : Int32) (h0_0_f3 : Int32) (h0_0_0k : ClassId) (h0_0_0c : Nat → Int32) (g_p1 : RG p1 0 2147483647) (g_h0_0_f1 : RG h0_0_f1 0 8) (g_h0_0_f2 : RG h0_0_f2 0 3) (g_h0_0_f3 : RG h0_0_f3 0 1) (a_h0_0_0c : AI h0_0_0c (-1) 99) : Met l yX10_isRising wf_c_X10_isRising ({ frames := 1, cells := 0, slots := 0, locals := 20 }) (va_Pc [.ref h0, .int p1] (fun U => U.heap.size = sz ∧ va_P (dC, dI) vwCl (wd_c_X10_isRising h0 h0_0 h0_1 h0_2 h0_3 h0_4 h0_5 h0_0 h0_0_0 h0_0_f1 h0_0_f2 h0_0_f3 h0_0_0 h0_0_0k h0_0_0c) U.heap ∧ va_K (dC, dI) vwCl [(h0_0_0k, .int)] U ∧ va_D (fun _ => True) (wd_c_X10_isRising h0 h0_0 h0_1 h0_2 h0_3 h0_4 h0_5 h0_0 h0_0_0 h0_0_f1 h0_0_f2 h0_0_f3 h0_0_0 h0_0_0k h0_0_0c))) (va_Qi (fun (r : Int32) (u : Unit) => (r = 0) ∨ (r = 1)) (fun (u : Unit) t => va_P (dC, dI) vwCl (wd_c_X10_isRising h0 h0_0 h0_1 h0_2 h0_3 h0_4 h0_5 h0_0 h0_0_0 h0_0_f1 h0_0_f2 h0_0_f3 h0_0_0 h0_0_0k h0_0_0c) t.heap ∧ va_K (dC, dI) vwCl [] t ∧ va_D (va_A (wd_c_X10_isRising h0 h0_0 h0_1 h0_2 h0_3 h0_4 h0_5 h0_0 h0_0_0 h0_0_f1 h0_0_f2 h0_0_f3 h0_0_0 h0_0_0k h0_0_0c) sz) (wd_c_X10_isRising h0 h0_0 h0_1 h0_2 h0_3 h0_4 h0_5 h0_0 h0_0_0 h0_0_f1 h0_0_f2 h0_0_f3 h0_0_0 h0_0_0k h0_0_0c)) (va_A (wd_c_X10_isRising h0 h0_0 h0_1 h0_2 h0_3 h0_4 h0_5 h0_0 h0_0_0 h0_0_f1 h0_0_f2 h0_0_f3 h0_0_0 h0_0_0k h0_0_0c) sz)) 0 0 (va_A (wd_c_X10_isRising h0 h0_0 h0_1 h0_2 h0_3 h0_4 h0_5 h0_0 h0_0_0 h0_0_f1 h0_0_f2 h0_0_f3 h0_0_0 h0_0_0k h0_0_0c) sz) := by
  refine Met.ofW (cc := cX10_isRising) (maxL := 3) (ret := (some .boolean)) (by decide) rfl ?_
  intro p e s m args below meth c s₁ B hml hv
  obtain ⟨rfl, hsz, hP, hK, hD0⟩ := hv
  have hx := B.exec
  have hb := B.bytes
  have hr := B.returns
  have hts := atoms_spec (ws := wf_c_X10_isRising) B.pre
  have hown : s.vm.findClass RX10 = some m.cls := findClass_of_methodNamed B.named
  have hlocks := B.notSynchronized
  subst hsz
  have hD := hD0.self (sz := s.heap.size)
  generalize hAe : va_A (wd_c_X10_isRising h0 h0_0 h0_1 h0_2 h0_3 h0_4 h0_5 h0_0 h0_0_0 h0_0_f1 h0_0_f2 h0_0_f3 h0_0_0 h0_0_0k h0_0_0c) s.heap.size = A at hD ⊢
  have hA : ∀ q : Nat, s.heap.size ≤ q → A q := fun q h => by rw [← hAe]; exact Or.inr h
  have hP : va_P (dC, dI) vwCl (wd_c_X10_isRising h0 h0_0 h0_1 h0_2 h0_3 h0_4 h0_5 h0_0 h0_0_0 h0_0_f1 h0_0_f2 h0_0_f3 h0_0_0 h0_0_0k h0_0_0c) s.heap := hP
  have hl := lv_entry ([.ref h0, .int p1]) (n := 3) (Nat.le_of_ble_eq_true rfl)
  rw [lg_entry_eq]
  generalize (lg_sl ([.ref h0, .int p1]) ++ List.replicate (3 - (lg_sl ([.ref h0, .int p1])).length) Slot.unset).toArray = ls at hl ⊢
  have hl : lv_has ls 3 [(0, .ref h0), (1, .int p1)] := hl
  obtain ⟨H, hHe⟩ : ∃ H : Heap, s.heap = H := ⟨_, rfl⟩
  have hS : va_S A s.heap H [] := by rw [hHe]; exact va_S.rf
  have hP : va_P (dC, dI) vwCl (wd_c_X10_isRising h0 h0_0 h0_1 h0_2 h0_3 h0_4 h0_5 h0_0 h0_0_0 h0_0_f1 h0_0_f2 h0_0_f3 h0_0_0 h0_0_0k h0_0_0c) H := by rw [← hHe]; exact hP
  rw [hHe]
  refine lv_aload_n hx hb dX10_isRising_0 rfl (lv_at hl 0 rfl) ?_
  refine va_get (D := (dC, dI)) (ci := 10) (v := .ref h0_0) (C := RX10) (T := TX10) (N := 6) hx hb hts iw_c_X10_isRising_X10 hown hK hP 0 rfl rfl 0 (by decide) (hts (.fieldLink RX10 9 "BuoyVote$Waters" "told" "LBuoyVote$Borough;") (List.mem_of_getElem? (i := 1) rfl)) (fun _ h9 => h9) rfl dX10_isRising_1 ?_
  have hPc := hP.sub (ws' := (wd_c_X0_tideHours h0_0 h0_0_0 h0_0_f1 h0_0_f2 h0_0_f3 h0_0_0 h0_0_0k h0_0_0c)) [1, 2] rfl
  have hDc := hD.sub (ws' := (wd_c_X0_tideHours h0_0 h0_0_0 h0_0_f1 h0_0_f2 h0_0_f3 h0_0_0 h0_0_0k h0_0_0c)) [1, 2] (by decide) rfl
  have hKc := hK.sub (tys' := [(h0_0_0k, .int)]) [0] rfl
  have hFc := va_free (wc := (wd_c_X0_tideHours h0_0 h0_0_0 h0_0_f1 h0_0_f2 h0_0_f3 h0_0_0 h0_0_0k h0_0_0c)) hD hS hA [1, 2] rfl
  refine va_calli (va_runV (As := []) (rest := []) ⟨hx, hb, hml, hown, hts⟩ (c_X0_tideHours l dC dI H.size h0_0 h0_0_0 h0_0_f1 h0_0_f2 h0_0_f3 h0_0_0k h0_0_0c g_h0_0_f1 g_h0_0_f2 g_h0_0_f3 a_h0_0_0c) (cwV 0 hts gf_c_X10_isRising_c_X0_tideHours rfl rfl rfl (by decide +kernel) ⟨Nat.le_of_ble_eq_true rfl, Nat.le_of_ble_eq_true rfl⟩) ⟨fun a U g mk q => by obtain ⟨q0, q1, qP, qK, qD⟩ := q; exact ⟨q0, q1, qP, va_K.moved (u := U) (U := U.calling g mk a) (Vm.Alike.refl U.vm) qK, qD⟩, va_recv hKc hPc (ci := 0) (q0 := 0) rfl rfl, fun U hU hW => ⟨rfl, by rw [hU], by rw [hU]; exact hPc, va_K.moved hW.alike hKc, hDc.weaken (fun _ _ _ _ => trivial)⟩⟩ rfl rfl hl.1 rfl (lv_room (Nat.le_of_ble_eq_true rfl)) dX10_isRising_4 ⟨Nat.le_of_ble_eq_true rfl, Nat.le_of_ble_eq_true rfl⟩) hS (fun q _ h => hFc q h) hFc (fun r_1 u t H1 locs ht hvm hw hB hz1 hk1 hS => ?_)
  obtain ⟨hP1, hK1, hD1⟩ := hB
  rw [ht] at hP1
  obtain ⟨hP, hD⟩ := va_join (wr := [(h0, .inr (10, [.ref h0_0, .ref h0_1, .ref h0_2, .ref h0_3, .ref h0_4, .ref h0_5]))]) (w1 := (wd_c_X0_tideHours h0_0 h0_0_0 h0_0_f1 h0_0_f2 h0_0_f3 h0_0_0 h0_0_0k h0_0_0c)) hP hD [1, 2] [0] rfl rfl (by decide) (by decide) hk1 hFc hP1 hD1
  have hP := hP.sub (ws' := (wd_c_X10_isRising h0 h0_0 h0_1 h0_2 h0_3 h0_4 h0_5 h0_0 h0_0_0 h0_0_f1 h0_0_f2 h0_0_f3 h0_0_0 h0_0_0k h0_0_0c)) [0, 1, 2] rfl
  have hD := hD.sub (ws' := (wd_c_X10_isRising h0 h0_0 h0_1 h0_2 h0_3 h0_4 h0_5 h0_0 h0_0_0 h0_0_f1 h0_0_f2 h0_0_f3 h0_0_0 h0_0_0k h0_0_0c)) [0, 1, 2] (by decide) rfl
  generalize H1 = H at hP hS ⊢
  have h_2 := hw
  refine lv_istore_n (lv' := [(2, .int r_1), (0, .ref h0), (1, .int p1)]) hx hb dX10_isRising_7 rfl hl (Nat.le_of_ble_eq_true rfl) rfl (fun ls hl => ?_)
  refine lv_iload_n hx hb dX10_isRising_8 rfl (lv_at hl 0 rfl) ?_
  refine lv_if_le (tgt := 25) hx hb dX10_isRising_9 rfl (fun c_3 => ?_) (fun c_3 => ?_)
  · have g_4 : RG r_1 (-1) 0 := RG_le1 h_2 (RG_k 0 0 rfl) c_3 (by decide)
    refine lv_iconst (v := 0) hx hb dX10_isRising_25 kc_iconst_0 ?_
    have hK9 := hK.sub (tys' := []) [] rfl
    exact W.zret (v := 0) hx hb hr rfl (fun t ht hW => ⟨⟨0, (), rfl, (Or.inl rfl), by rw [ht]; exact hP, va_K.moved hW.alike hK9, hD⟩, hS.F ht⟩) hS.2.2 dX10_isRising_26
  · have d_5 := Int32.not_le.mp c_3
    have g_6 : RG r_1 1 99 := RG_lt2 (RG_k 0 0 rfl) h_2 d_5 (by decide)
    refine lv_iload_n hx hb dX10_isRising_12 rfl (lv_at hl 2 rfl) ?_
    refine lv_iconst (v := 2) hx hb dX10_isRising_13 kc_iconst_2 ?_
    refine lv_iload_n hx hb dX10_isRising_14 rfl (lv_at hl 0 rfl) ?_
    refine lv_imul hx hb dX10_isRising_15 ?_
    refine lv_topi (fun x_7 ex_7 => ?_)
    have g_8 : RG x_7 2 198 := RG_mulc (RG_com ex_7) (q := 2) rfl g_6 (by decide)
    refine lv_irem hx hb dX10_isRising_16 (RG_ne0 g_8 (by decide)) ?_
    refine lv_topi (fun x_9 ex_9 => ?_)
    have g_10 : RG x_9 0 197 := RG_rem ex_9 g_p1 g_8 (by decide)
    refine lv_iload_n hx hb dX10_isRising_17 rfl (lv_at hl 0 rfl) ?_
    refine lv_icmp_ge (tgt := 25) hx hb dX10_isRising_18 rfl (fun c_11 => ?_) (fun c_11 => ?_)
    · have g_12 : RG x_9 1 197 := RG_le2 g_6 g_10 c_11 (by decide)
      refine lv_iconst (v := 0) hx hb dX10_isRising_25 kc_iconst_0 ?_
      have hK9 := hK.sub (tys' := []) [] rfl
      exact W.zret (v := 0) hx hb hr rfl (fun t ht hW => ⟨⟨0, (), rfl, (Or.inl rfl), by rw [ht]; exact hP, va_K.moved hW.alike hK9, hD⟩, hS.F ht⟩) hS.2.2 dX10_isRising_26
    · have d_13 := Int32.not_le.mp c_11
      have g_14 : RG x_9 0 98 := RG_lt1 g_10 g_6 d_13 (by decide)
      refine lv_iconst (v := 1) hx hb dX10_isRising_21 kc_iconst_1 ?_
      refine lv_goto (tgt := 26) hx hb dX10_isRising_22 rfl ?_
      have hK9 := hK.sub (tys' := []) [] rfl
      exact W.zret (v := 1) hx hb hr rfl (fun t ht hW => ⟨⟨1, (), rfl, (Or.inr rfl), by rw [ht]; exact hP, va_K.moved hW.alike hK9, hD⟩, hS.F ht⟩) hS.2.2 dX10_isRising_26
def wd_c_X11_rule (a0 : Nat) (a1 : Nat) (a2 : Nat) (a3 : Nat) (a4 : Nat) (a5 : Nat) (a6 : Int32) (a7 : Nat) (a8 : Nat) (a9 : Nat) (a10 : Nat) (a11 : Nat) (a12 : Nat) (a13 : Nat) (a14 : Nat) (a15 : Nat) (a16 : Int64) (a17 : Nat) (a18 : Nat) (a19 : Int32) (a20 : Int32) (a21 : Int32) (a22 : Nat) (a23 : Int32) (a24 : Int32) (a25 : Int32) (a26 : Int32) (a27 : Nat) (a28 : Nat) (a29 : Nat) (a30 : Nat) (a31 : Nat) (a32 : Nat) (a33 : Nat) (a34 : Nat) (a35 : Nat) (a36 : Nat) (a37 : ClassId) (a38 : Nat → Int32) (a39 : Nat) (a40 : Nat) (a41 : Nat) (a42 : Nat) (a43 : Nat) (a44 : Nat) (a45 : Nat) : va_W := [(a0, .inr (11, [.ref a1, .ref a2, .ref a3, .ref a4, .ref a5, .int a6, .ref a7, .ref a8, .ref a9, .ref a10, .ref a11, .ref a12, .ref a13, .ref a14, .ref a15, .long a16])), (a17, .inr (0, [.ref a18, .int a19, .int a20, .int a21])), (a22, .inr (7, [.int a23, .int a24, .int a25, .int a26, .ref a27, .ref a28, .ref a29, .ref a30, .ref a31, .ref a32, .ref a33, .ref a34, .ref a35])), (a36, .inl (a37, 80, .inl a38)), (a39, .inr (10, [.ref a40, .ref a41, .ref a42, .ref a43, .ref a44, .ref a45]))]
def wf_c_X11_rule : List Cond := .code yX11_rule cX11_rule 2 (some .int) :: ([.methodLink RX11 140 yX11_hasBorough, .instanceMethod yX11_hasBorough, .selects RX11 yX11_hasBorough yX11_hasBorough, .initialized RX11, .code yX11_hasBorough cX11_hasBorough 1 (some .boolean), .fieldLink RX11 19 "BuoyVote" "told" "LBuoyVote$Borough;", .fieldLink RX11 275 "BuoyVote$Borough" "buoys" "I", .fieldLink RX11 52 "BuoyVote" "now" "LBuoyVote$Sea;", .fieldLink RX11 144 "BuoyVote$Sea" "wind" "I", .fieldLink RX11 147 "BuoyVote$Sea" "way" "I", .methodLink RX11 150 yX0_tideHours, .instanceMethod yX0_tideHours, .selects RX0 yX0_tideHours yX0_tideHours, .initialized RX0, .code yX0_tideHours cX0_tideHours 1 (some .int), .fieldLink RX0 11 "BuoyVote$Borough" "values" "[I", .methodLink RX11 153 yX0_countHours, .instanceMethod yX0_countHours, .selects RX0 yX0_countHours yX0_countHours, .code yX0_countHours cX0_countHours 1 (some .int), .fieldLink RX11 45 "BuoyVote" "waters" "LBuoyVote$Waters;", .fieldLink RX11 156 "BuoyVote$Sea" "hour" "I", .methodLink RX11 159 yX10_isRising, .instanceMethod yX10_isRising, .selects RX10 yX10_isRising yX10_isRising, .initialized RX10, .code yX10_isRising cX10_isRising 3 (some .boolean), .fieldLink RX10 9 "BuoyVote$Waters" "told" "LBuoyVote$Borough;", .methodLink RX10 32 yX0_tideHours] ++ wsX110 ++ wsX00 ++ wsX70 ++ wsX100)
theorem iw_c_X11_rule_X11 : ∀ w ∈ wsX110, w ∈ wf_c_X11_rule := fun w h => List.mem_cons_of_mem _ (List.mem_append_left _ (List.mem_append_left _ (List.mem_append_left _ (List.mem_append_right _ h))))
theorem iw_c_X11_rule_X0 : ∀ w ∈ wsX00, w ∈ wf_c_X11_rule := fun w h => List.mem_cons_of_mem _ (List.mem_append_left _ (List.mem_append_left _ (List.mem_append_right _ h)))
theorem iw_c_X11_rule_X7 : ∀ w ∈ wsX70, w ∈ wf_c_X11_rule := fun w h => List.mem_cons_of_mem _ (List.mem_append_left _ (List.mem_append_right _ h))
theorem iw_c_X11_rule_X10 : ∀ w ∈ wsX100, w ∈ wf_c_X11_rule := fun w h => List.mem_cons_of_mem _ (List.mem_append_right _ h)
set_option maxRecDepth 20000 in
theorem gf_c_X11_rule_c_X11_hasBorough : GoodIn wf_c_X11_rule (wsV RX11 140 RX11 yX11_hasBorough wf_c_X11_hasBorough) := goodIn_app (gi_cons (j := 1) rfl rfl (gi_cons (j := 2) rfl rfl (gi_cons (j := 3) rfl rfl (gi_cons (j := 4) rfl rfl (gi_nil))))) (gi_cons (j := 5) rfl rfl (goodIn_app (goodIn_app (gi_cons (j := 6) rfl rfl (gi_cons (j := 7) rfl rfl (gi_nil))) (goodIn_sub iw_c_X11_rule_X11 gw_X11)) (goodIn_sub iw_c_X11_rule_X0 gw_X0)))
set_option maxRecDepth 20000 in
theorem gf_c_X11_rule_c_X0_tideHours : GoodIn wf_c_X11_rule (wsV RX11 150 RX0 yX0_tideHours wf_c_X0_tideHours) := goodIn_app (gi_cons (j := 11) rfl rfl (gi_cons (j := 12) rfl rfl (gi_cons (j := 13) rfl rfl (gi_cons (j := 14) rfl rfl (gi_nil))))) (gi_cons (j := 15) rfl rfl (goodIn_app (gi_cons (j := 16) rfl rfl (gi_nil)) (goodIn_sub iw_c_X11_rule_X0 gw_X0)))
set_option maxRecDepth 20000 in
theorem gf_c_X11_rule_c_X0_countHours : GoodIn wf_c_X11_rule (wsV RX11 153 RX0 yX0_countHours wf_c_X0_countHours) := goodIn_app (gi_cons (j := 17) rfl rfl (gi_cons (j := 18) rfl rfl (gi_cons (j := 19) rfl rfl (gi_cons (j := 14) rfl rfl (gi_nil))))) (gi_cons (j := 20) rfl rfl (goodIn_app (gi_cons (j := 16) rfl rfl (gi_nil)) (goodIn_sub iw_c_X11_rule_X0 gw_X0)))
set_option maxRecDepth 20000 in
theorem gf_c_X11_rule_c_X10_isRising : GoodIn wf_c_X11_rule (wsV RX11 159 RX10 yX10_isRising wf_c_X10_isRising) := goodIn_app (gi_cons (j := 23) rfl rfl (gi_cons (j := 24) rfl rfl (gi_cons (j := 25) rfl rfl (gi_cons (j := 26) rfl rfl (gi_nil))))) (gi_cons (j := 27) rfl rfl (goodIn_app (goodIn_app (gi_cons (j := 28) rfl rfl (gi_cons (j := 29) rfl rfl (gi_cons (j := 12) rfl rfl (gi_cons (j := 13) rfl rfl (gi_cons (j := 14) rfl rfl (gi_cons (j := 15) rfl rfl (gi_cons (j := 16) rfl rfl (gi_nil)))))))) (goodIn_sub iw_c_X11_rule_X10 gw_X10)) (goodIn_sub iw_c_X11_rule_X0 gw_X0)))
set_option maxHeartbeats 4000000 in
set_option maxRecDepth 100000 in
theorem c_X11_rule (l : Launch) (dC : Nat → ClassId) (dI : Nat → Nat → Nat) (sz : Nat) (h0 : Nat) (p1 : Int32) (h0_0 : Nat) (h0_1 : Nat) (h0_2 : Nat) (h0_3 : Nat) (h0_4 : Nat) (h0_f5 : Int32) (h0_6 : Nat) (h0_7 : Nat) (h0_8 : Nat) (h0_9 : Nat) (h0_10 : Nat) (h0_11 : Nat) (h0_12 : Nat) (h0_13 : Nat) (h0_14 : Nat) (h0_f15 : Int64) (h0_1_0 : Nat) (h0_1_f1 : Int32) (h0_1_f2 : Int32) (h0_1_f3 : Int32) (h0_7_f0 : Int32) (h0_7_f1 : Int32) (h0_7_f2 : Int32) (h0_7_f3 : Int32) (h0_7_4 : Nat) (h0_7_5 : Nat) (h0_7_6 : Nat) (h0_7_7 : Nat) (h0_7_8 : Nat) (h0_7_9 : Nat) (h0_7_10 : Nat) (h0_7_11 : Nat) (h0_7_12 : Nat) (h0_1_0k : ClassId) (h0_1_0c : Nat → Int32) (h0_6_2 : Nat) (h0_6_3 : Nat) (h0_6_4 : Nat) (h0_6_5 : Nat) (g_h0_f5 : RG h0_f5 0 4) (g_h0_1_f1 : RG h0_1_f1 0 8) (g_h0_1_f2 : RG h0_1_f2 0 3) (g_h0_1_f3 : RG h0_1_f3 0 1) (g_h0_7_f2 : RG h0_7_f2 0 9999) (g_h0_7_f3 : RG h0_7_f3 0 9999) (a_h0_1_0c : AI h0_1_0c (-1) 99) : Met l yX11_rule wf_c_X11_rule ({ frames := 2, cells := 0, slots := 0, locals := 42 }) (va_Pc [.ref h0, .int p1] (fun U => U.heap.size = sz ∧ va_P (dC, dI) vwCl (wd_c_X11_rule h0 h0_0 h0_1 h0_2 h0_3 h0_4 h0_f5 h0_6 h0_7 h0_8 h0_9 h0_10 h0_11 h0_12 h0_13 h0_14 h0_f15 h0_1 h0_1_0 h0_1_f1 h0_1_f2 h0_1_f3 h0_7 h0_7_f0 h0_7_f1 h0_7_f2 h0_7_f3 h0_7_4 h0_7_5 h0_7_6 h0_7_7 h0_7_8 h0_7_9 h0_7_10 h0_7_11 h0_7_12 h0_1_0 h0_1_0k h0_1_0c h0_6 h0_1 h0_3 h0_6_2 h0_6_3 h0_6_4 h0_6_5) U.heap ∧ va_K (dC, dI) vwCl [(h0_1_0k, .int)] U ∧ va_D (fun _ => True) (wd_c_X11_rule h0 h0_0 h0_1 h0_2 h0_3 h0_4 h0_f5 h0_6 h0_7 h0_8 h0_9 h0_10 h0_11 h0_12 h0_13 h0_14 h0_f15 h0_1 h0_1_0 h0_1_f1 h0_1_f2 h0_1_f3 h0_7 h0_7_f0 h0_7_f1 h0_7_f2 h0_7_f3 h0_7_4 h0_7_5 h0_7_6 h0_7_7 h0_7_8 h0_7_9 h0_7_10 h0_7_11 h0_7_12 h0_1_0 h0_1_0k h0_1_0c h0_6 h0_1 h0_3 h0_6_2 h0_6_3 h0_6_4 h0_6_5))) (va_Qi (fun (r : Int32) (u : Unit) => (r = (-1)) ∨ (RG r (-2147483648) 2147483647 ∧ RG h0_1_f1 1 8 ∧ RG p1 0 3) ∨ (r = 0 ∧ RG h0_1_f1 1 8 ∧ RG p1 4 4) ∨ (r = 1 ∧ RG h0_1_f1 1 8 ∧ RG p1 4 4)) (fun (u : Unit) t => va_P (dC, dI) vwCl (wd_c_X11_rule h0 h0_0 h0_1 h0_2 h0_3 h0_4 h0_f5 h0_6 h0_7 h0_8 h0_9 h0_10 h0_11 h0_12 h0_13 h0_14 h0_f15 h0_1 h0_1_0 h0_1_f1 h0_1_f2 h0_1_f3 h0_7 h0_7_f0 h0_7_f1 h0_7_f2 h0_7_f3 h0_7_4 h0_7_5 h0_7_6 h0_7_7 h0_7_8 h0_7_9 h0_7_10 h0_7_11 h0_7_12 h0_1_0 h0_1_0k h0_1_0c h0_6 h0_1 h0_3 h0_6_2 h0_6_3 h0_6_4 h0_6_5) t.heap ∧ va_K (dC, dI) vwCl [] t ∧ va_D (va_A (wd_c_X11_rule h0 h0_0 h0_1 h0_2 h0_3 h0_4 h0_f5 h0_6 h0_7 h0_8 h0_9 h0_10 h0_11 h0_12 h0_13 h0_14 h0_f15 h0_1 h0_1_0 h0_1_f1 h0_1_f2 h0_1_f3 h0_7 h0_7_f0 h0_7_f1 h0_7_f2 h0_7_f3 h0_7_4 h0_7_5 h0_7_6 h0_7_7 h0_7_8 h0_7_9 h0_7_10 h0_7_11 h0_7_12 h0_1_0 h0_1_0k h0_1_0c h0_6 h0_1 h0_3 h0_6_2 h0_6_3 h0_6_4 h0_6_5) sz) (wd_c_X11_rule h0 h0_0 h0_1 h0_2 h0_3 h0_4 h0_f5 h0_6 h0_7 h0_8 h0_9 h0_10 h0_11 h0_12 h0_13 h0_14 h0_f15 h0_1 h0_1_0 h0_1_f1 h0_1_f2 h0_1_f3 h0_7 h0_7_f0 h0_7_f1 h0_7_f2 h0_7_f3 h0_7_4 h0_7_5 h0_7_6 h0_7_7 h0_7_8 h0_7_9 h0_7_10 h0_7_11 h0_7_12 h0_1_0 h0_1_0k h0_1_0c h0_6 h0_1 h0_3 h0_6_2 h0_6_3 h0_6_4 h0_6_5)) (va_A (wd_c_X11_rule h0 h0_0 h0_1 h0_2 h0_3 h0_4 h0_f5 h0_6 h0_7 h0_8 h0_9 h0_10 h0_11 h0_12 h0_13 h0_14 h0_f15 h0_1 h0_1_0 h0_1_f1 h0_1_f2 h0_1_f3 h0_7 h0_7_f0 h0_7_f1 h0_7_f2 h0_7_f3 h0_7_4 h0_7_5 h0_7_6 h0_7_7 h0_7_8 h0_7_9 h0_7_10 h0_7_11 h0_7_12 h0_1_0 h0_1_0k h0_1_0c h0_6 h0_1 h0_3 h0_6_2 h0_6_3 h0_6_4 h0_6_5) sz)) 0 0 (va_A (wd_c_X11_rule h0 h0_0 h0_1 h0_2 h0_3 h0_4 h0_f5 h0_6 h0_7 h0_8 h0_9 h0_10 h0_11 h0_12 h0_13 h0_14 h0_f15 h0_1 h0_1_0 h0_1_f1 h0_1_f2 h0_1_f3 h0_7 h0_7_f0 h0_7_f1 h0_7_f2 h0_7_f3 h0_7_4 h0_7_5 h0_7_6 h0_7_7 h0_7_8 h0_7_9 h0_7_10 h0_7_11 h0_7_12 h0_1_0 h0_1_0k h0_1_0c h0_6 h0_1 h0_3 h0_6_2 h0_6_3 h0_6_4 h0_6_5) sz) := by
  refine Met.ofW (cc := cX11_rule) (maxL := 2) (ret := (some .int)) (by decide) rfl ?_
  intro p e s m args below meth c s₁ B hml hv
  obtain ⟨rfl, hsz, hP, hK, hD0⟩ := hv
  have hx := B.exec
  have hb := B.bytes
  have hr := B.returns
  have hts := atoms_spec (ws := wf_c_X11_rule) B.pre
  have hown : s.vm.findClass RX11 = some m.cls := findClass_of_methodNamed B.named
  have hlocks := B.notSynchronized
  subst hsz
  have hD := hD0.self (sz := s.heap.size)
  generalize hAe : va_A (wd_c_X11_rule h0 h0_0 h0_1 h0_2 h0_3 h0_4 h0_f5 h0_6 h0_7 h0_8 h0_9 h0_10 h0_11 h0_12 h0_13 h0_14 h0_f15 h0_1 h0_1_0 h0_1_f1 h0_1_f2 h0_1_f3 h0_7 h0_7_f0 h0_7_f1 h0_7_f2 h0_7_f3 h0_7_4 h0_7_5 h0_7_6 h0_7_7 h0_7_8 h0_7_9 h0_7_10 h0_7_11 h0_7_12 h0_1_0 h0_1_0k h0_1_0c h0_6 h0_1 h0_3 h0_6_2 h0_6_3 h0_6_4 h0_6_5) s.heap.size = A at hD ⊢
  have hA : ∀ q : Nat, s.heap.size ≤ q → A q := fun q h => by rw [← hAe]; exact Or.inr h
  have hP : va_P (dC, dI) vwCl (wd_c_X11_rule h0 h0_0 h0_1 h0_2 h0_3 h0_4 h0_f5 h0_6 h0_7 h0_8 h0_9 h0_10 h0_11 h0_12 h0_13 h0_14 h0_f15 h0_1 h0_1_0 h0_1_f1 h0_1_f2 h0_1_f3 h0_7 h0_7_f0 h0_7_f1 h0_7_f2 h0_7_f3 h0_7_4 h0_7_5 h0_7_6 h0_7_7 h0_7_8 h0_7_9 h0_7_10 h0_7_11 h0_7_12 h0_1_0 h0_1_0k h0_1_0c h0_6 h0_1 h0_3 h0_6_2 h0_6_3 h0_6_4 h0_6_5) s.heap := hP
  have hl := lv_entry ([.ref h0, .int p1]) (n := 2) (Nat.le_of_ble_eq_true rfl)
  rw [lg_entry_eq]
  generalize (lg_sl ([.ref h0, .int p1]) ++ List.replicate (2 - (lg_sl ([.ref h0, .int p1])).length) Slot.unset).toArray = ls at hl ⊢
  have hl : lv_has ls 2 [(0, .ref h0), (1, .int p1)] := hl
  obtain ⟨H, hHe⟩ : ∃ H : Heap, s.heap = H := ⟨_, rfl⟩
  have hS : va_S A s.heap H [] := by rw [hHe]; exact va_S.rf
  have hP : va_P (dC, dI) vwCl (wd_c_X11_rule h0 h0_0 h0_1 h0_2 h0_3 h0_4 h0_f5 h0_6 h0_7 h0_8 h0_9 h0_10 h0_11 h0_12 h0_13 h0_14 h0_f15 h0_1 h0_1_0 h0_1_f1 h0_1_f2 h0_1_f3 h0_7 h0_7_f0 h0_7_f1 h0_7_f2 h0_7_f3 h0_7_4 h0_7_5 h0_7_6 h0_7_7 h0_7_8 h0_7_9 h0_7_10 h0_7_11 h0_7_12 h0_1_0 h0_1_0k h0_1_0c h0_6 h0_1 h0_3 h0_6_2 h0_6_3 h0_6_4 h0_6_5) H := by rw [← hHe]; exact hP
  rw [hHe]
  refine lv_aload_n hx hb dX11_rule_0 rfl (lv_at hl 0 rfl) ?_
  have hPc := hP.sub (ws' := (wd_c_X11_hasBorough h0 h0_0 h0_1 h0_2 h0_3 h0_4 h0_f5 h0_6 h0_7 h0_8 h0_9 h0_10 h0_11 h0_12 h0_13 h0_14 h0_f15 h0_1 h0_1_0 h0_1_f1 h0_1_f2 h0_1_f3)) [0, 1] rfl
  have hDc := hD.sub (ws' := (wd_c_X11_hasBorough h0 h0_0 h0_1 h0_2 h0_3 h0_4 h0_f5 h0_6 h0_7 h0_8 h0_9 h0_10 h0_11 h0_12 h0_13 h0_14 h0_f15 h0_1 h0_1_0 h0_1_f1 h0_1_f2 h0_1_f3)) [0, 1] (by decide) rfl
  have hKc := hK.sub (tys' := []) [] rfl
  have hFc := va_free (wc := (wd_c_X11_hasBorough h0 h0_0 h0_1 h0_2 h0_3 h0_4 h0_f5 h0_6 h0_7 h0_8 h0_9 h0_10 h0_11 h0_12 h0_13 h0_14 h0_f15 h0_1 h0_1_0 h0_1_f1 h0_1_f2 h0_1_f3)) hD hS hA [0, 1] rfl
  refine va_calli (va_runV (As := []) (rest := []) ⟨hx, hb, hml, hown, hts⟩ (c_X11_hasBorough l dC dI H.size h0 h0_0 h0_1 h0_2 h0_3 h0_4 h0_f5 h0_6 h0_7 h0_8 h0_9 h0_10 h0_11 h0_12 h0_13 h0_14 h0_f15 h0_1_0 h0_1_f1 h0_1_f2 h0_1_f3 g_h0_f5 g_h0_1_f1 g_h0_1_f2 g_h0_1_f3) (cwV 0 hts gf_c_X11_rule_c_X11_hasBorough rfl rfl rfl (by decide +kernel) ⟨Nat.le_of_ble_eq_true rfl, Nat.le_of_ble_eq_true rfl⟩) ⟨fun a U g mk q => by obtain ⟨q0, q1, qP, qK, qD⟩ := q; exact ⟨q0, q1, qP, va_K.moved (u := U) (U := U.calling g mk a) (Vm.Alike.refl U.vm) qK, qD⟩, va_recv hKc hPc (ci := 11) (q0 := 0) rfl rfl, fun U hU hW => ⟨rfl, by rw [hU], by rw [hU]; exact hPc, va_K.moved hW.alike hKc, hDc.weaken (fun _ _ _ _ => trivial)⟩⟩ rfl rfl hl.1 rfl (lv_room (Nat.le_of_ble_eq_true rfl)) dX11_rule_1 ⟨Nat.le_of_ble_eq_true rfl, Nat.le_of_ble_eq_true rfl⟩) hS (fun q _ h => hFc q h) hFc (fun r_1 u t H1 locs ht hvm hw hB hz1 hk1 hS => ?_)
  obtain ⟨hP1, hK1, hD1⟩ := hB
  rw [ht] at hP1
  obtain ⟨hP, hD⟩ := va_join (wr := [(h0_7, .inr (7, [.int h0_7_f0, .int h0_7_f1, .int h0_7_f2, .int h0_7_f3, .ref h0_7_4, .ref h0_7_5, .ref h0_7_6, .ref h0_7_7, .ref h0_7_8, .ref h0_7_9, .ref h0_7_10, .ref h0_7_11, .ref h0_7_12])), (h0_1_0, .inl (h0_1_0k, 80, .inl h0_1_0c)), (h0_6, .inr (10, [.ref h0_1, .ref h0_3, .ref h0_6_2, .ref h0_6_3, .ref h0_6_4, .ref h0_6_5]))]) (w1 := (wd_c_X11_hasBorough h0 h0_0 h0_1 h0_2 h0_3 h0_4 h0_f5 h0_6 h0_7 h0_8 h0_9 h0_10 h0_11 h0_12 h0_13 h0_14 h0_f15 h0_1 h0_1_0 h0_1_f1 h0_1_f2 h0_1_f3)) hP hD [0, 1] [2, 3, 4] rfl rfl (by decide) (by decide) hk1 hFc hP1 hD1
  have hP := hP.sub (ws' := (wd_c_X11_rule h0 h0_0 h0_1 h0_2 h0_3 h0_4 h0_f5 h0_6 h0_7 h0_8 h0_9 h0_10 h0_11 h0_12 h0_13 h0_14 h0_f15 h0_1 h0_1_0 h0_1_f1 h0_1_f2 h0_1_f3 h0_7 h0_7_f0 h0_7_f1 h0_7_f2 h0_7_f3 h0_7_4 h0_7_5 h0_7_6 h0_7_7 h0_7_8 h0_7_9 h0_7_10 h0_7_11 h0_7_12 h0_1_0 h0_1_0k h0_1_0c h0_6 h0_1 h0_3 h0_6_2 h0_6_3 h0_6_4 h0_6_5)) [3, 4, 0, 1, 2] rfl
  have hD := hD.sub (ws' := (wd_c_X11_rule h0 h0_0 h0_1 h0_2 h0_3 h0_4 h0_f5 h0_6 h0_7 h0_8 h0_9 h0_10 h0_11 h0_12 h0_13 h0_14 h0_f15 h0_1 h0_1_0 h0_1_f1 h0_1_f2 h0_1_f3 h0_7 h0_7_f0 h0_7_f1 h0_7_f2 h0_7_f3 h0_7_4 h0_7_5 h0_7_6 h0_7_7 h0_7_8 h0_7_9 h0_7_10 h0_7_11 h0_7_12 h0_1_0 h0_1_0k h0_1_0c h0_6 h0_1 h0_3 h0_6_2 h0_6_3 h0_6_4 h0_6_5)) [3, 4, 0, 1, 2] (by decide) rfl
  generalize H1 = H at hP hS ⊢
  rcases hw with ⟨h_2, h_3⟩ | ⟨h_4, h_5⟩
  · rw [h_2]
    refine lv_if_ne (tgt := 9) hx hb dX11_rule_4 rfl (fun c_6 => absurd c_6 (by decide)) (fun c_6 => ?_)
    refine lv_iconst (v := (-1)) hx hb dX11_rule_7 kc_iconst_m1 ?_
    have hK9 := hK.sub (tys' := []) [] rfl
    exact W.iret (v := (-1)) hx hb hr (fun t ht hW => ⟨⟨(-1), (), rfl, (Or.inl rfl), by rw [ht]; exact hP, va_K.moved hW.alike hK9, hD⟩, hS.F ht⟩) hS.2.2 dX11_rule_8
  · rw [h_4]
    refine lv_if_ne (tgt := 9) hx hb dX11_rule_4 rfl (fun c_7 => ?_) (fun c_7 => absurd c_7 (by decide))
    refine lv_iload_n hx hb dX11_rule_9 rfl (lv_at hl 1 rfl) ?_
    by_cases c_8 : p1 = 0
    · have hsw : p1.toInt = 0 := by rw [c_8]; rfl
      refine lv_tableIn (off := 34) (tgt := 44) hx hb dX11_rule_10 (by rw [hsw]; decide) (by rw [hsw]; decide) (by rw [hsw]; decide) (by decide) ?_
      have g_9 : RG p1 0 0 := RG_k _ _ hsw
      refine lv_aload_n hx hb dX11_rule_44 rfl (lv_at hl 0 rfl) ?_
      refine va_get (D := (dC, dI)) (ci := 11) (v := .ref h0_7) (C := RX11) (T := TX11) (N := 16) hx hb hts iw_c_X11_rule_X11 hown hK hP 0 rfl rfl 7 (by decide) (hts (.fieldLink RX11 52 "BuoyVote" "now" "LBuoyVote$Sea;") (List.mem_of_getElem? (i := 8) rfl)) (fun _ h9 => h9) rfl dX11_rule_45 ?_
      refine va_get (D := (dC, dI)) (ci := 7) (v := .int h0_7_f0) (C := RX7) (T := TX7) (N := 13) hx hb hts iw_c_X11_rule_X7 hown hK hP 2 rfl rfl 0 (by decide) (hts (.fieldLink RX11 144 "BuoyVote$Sea" "wind" "I") (List.mem_of_getElem? (i := 9) rfl)) (fun _ h9 => h9) rfl dX11_rule_48 ?_
      have hK9 := hK.sub (tys' := []) [] rfl
      exact W.iret (v := h0_7_f0) hx hb hr (fun t ht hW => ⟨⟨h0_7_f0, (), rfl, (Or.inr (Or.inl ⟨(RG_any h0_7_f0), h_5, (RG_w g_9 (by decide))⟩)), by rw [ht]; exact hP, va_K.moved hW.alike hK9, hD⟩, hS.F ht⟩) hS.2.2 dX11_rule_51
    by_cases c_10 : p1 = 1
    · have hsw : p1.toInt = 1 := by rw [c_10]; rfl
      refine lv_tableIn (off := 42) (tgt := 52) hx hb dX11_rule_10 (by rw [hsw]; decide) (by rw [hsw]; decide) (by rw [hsw]; decide) (by decide) ?_
      have g_11 : RG p1 1 1 := RG_k _ _ hsw
      refine lv_aload_n hx hb dX11_rule_52 rfl (lv_at hl 0 rfl) ?_
      refine va_get (D := (dC, dI)) (ci := 11) (v := .ref h0_7) (C := RX11) (T := TX11) (N := 16) hx hb hts iw_c_X11_rule_X11 hown hK hP 0 rfl rfl 7 (by decide) (hts (.fieldLink RX11 52 "BuoyVote" "now" "LBuoyVote$Sea;") (List.mem_of_getElem? (i := 8) rfl)) (fun _ h9 => h9) rfl dX11_rule_53 ?_
      refine va_get (D := (dC, dI)) (ci := 7) (v := .int h0_7_f1) (C := RX7) (T := TX7) (N := 13) hx hb hts iw_c_X11_rule_X7 hown hK hP 2 rfl rfl 1 (by decide) (hts (.fieldLink RX11 147 "BuoyVote$Sea" "way" "I") (List.mem_of_getElem? (i := 10) rfl)) (fun _ h9 => h9) rfl dX11_rule_56 ?_
      have hK9 := hK.sub (tys' := []) [] rfl
      exact W.iret (v := h0_7_f1) hx hb hr (fun t ht hW => ⟨⟨h0_7_f1, (), rfl, (Or.inr (Or.inl ⟨(RG_any h0_7_f1), h_5, (RG_w g_11 (by decide))⟩)), by rw [ht]; exact hP, va_K.moved hW.alike hK9, hD⟩, hS.F ht⟩) hS.2.2 dX11_rule_59
    by_cases c_12 : p1 = 2
    · have hsw : p1.toInt = 2 := by rw [c_12]; rfl
      refine lv_tableIn (off := 50) (tgt := 60) hx hb dX11_rule_10 (by rw [hsw]; decide) (by rw [hsw]; decide) (by rw [hsw]; decide) (by decide) ?_
      have g_13 : RG p1 2 2 := RG_k _ _ hsw
      refine lv_aload_n hx hb dX11_rule_60 rfl (lv_at hl 0 rfl) ?_
      refine va_get (D := (dC, dI)) (ci := 11) (v := .ref h0_1) (C := RX11) (T := TX11) (N := 16) hx hb hts iw_c_X11_rule_X11 hown hK hP 0 rfl rfl 1 (by decide) (hts (.fieldLink RX11 19 "BuoyVote" "told" "LBuoyVote$Borough;") (List.mem_of_getElem? (i := 6) rfl)) (fun _ h9 => h9) rfl dX11_rule_61 ?_
      have hPc := hP.sub (ws' := (wd_c_X0_tideHours h0_1 h0_1_0 h0_1_f1 h0_1_f2 h0_1_f3 h0_1_0 h0_1_0k h0_1_0c)) [1, 3] rfl
      have hDc := hD.sub (ws' := (wd_c_X0_tideHours h0_1 h0_1_0 h0_1_f1 h0_1_f2 h0_1_f3 h0_1_0 h0_1_0k h0_1_0c)) [1, 3] (by decide) rfl
      have hKc := hK.sub (tys' := [(h0_1_0k, .int)]) [0] rfl
      have hFc := va_free (wc := (wd_c_X0_tideHours h0_1 h0_1_0 h0_1_f1 h0_1_f2 h0_1_f3 h0_1_0 h0_1_0k h0_1_0c)) hD hS hA [1, 3] rfl
      refine va_calli (va_runV (As := []) (rest := []) ⟨hx, hb, hml, hown, hts⟩ (c_X0_tideHours l dC dI H.size h0_1 h0_1_0 h0_1_f1 h0_1_f2 h0_1_f3 h0_1_0k h0_1_0c (RG_w h_5 (by decide)) g_h0_1_f2 g_h0_1_f3 a_h0_1_0c) (cwV 0 hts gf_c_X11_rule_c_X0_tideHours rfl rfl rfl (by decide +kernel) ⟨Nat.le_of_ble_eq_true rfl, Nat.le_of_ble_eq_true rfl⟩) ⟨fun a U g mk q => by obtain ⟨q0, q1, qP, qK, qD⟩ := q; exact ⟨q0, q1, qP, va_K.moved (u := U) (U := U.calling g mk a) (Vm.Alike.refl U.vm) qK, qD⟩, va_recv hKc hPc (ci := 0) (q0 := 0) rfl rfl, fun U hU hW => ⟨rfl, by rw [hU], by rw [hU]; exact hPc, va_K.moved hW.alike hKc, hDc.weaken (fun _ _ _ _ => trivial)⟩⟩ rfl rfl hl.1 rfl (lv_room (Nat.le_of_ble_eq_true rfl)) dX11_rule_64 ⟨Nat.le_of_ble_eq_true rfl, Nat.le_of_ble_eq_true rfl⟩) hS (fun q _ h => hFc q h) hFc (fun r_14 u t H1 locs ht hvm hw hB hz1 hk1 hS => ?_)
      obtain ⟨hP1, hK1, hD1⟩ := hB
      rw [ht] at hP1
      obtain ⟨hP, hD⟩ := va_join (wr := [(h0, .inr (11, [.ref h0_0, .ref h0_1, .ref h0_2, .ref h0_3, .ref h0_4, .int h0_f5, .ref h0_6, .ref h0_7, .ref h0_8, .ref h0_9, .ref h0_10, .ref h0_11, .ref h0_12, .ref h0_13, .ref h0_14, .long h0_f15])), (h0_7, .inr (7, [.int h0_7_f0, .int h0_7_f1, .int h0_7_f2, .int h0_7_f3, .ref h0_7_4, .ref h0_7_5, .ref h0_7_6, .ref h0_7_7, .ref h0_7_8, .ref h0_7_9, .ref h0_7_10, .ref h0_7_11, .ref h0_7_12])), (h0_6, .inr (10, [.ref h0_1, .ref h0_3, .ref h0_6_2, .ref h0_6_3, .ref h0_6_4, .ref h0_6_5]))]) (w1 := (wd_c_X0_tideHours h0_1 h0_1_0 h0_1_f1 h0_1_f2 h0_1_f3 h0_1_0 h0_1_0k h0_1_0c)) hP hD [1, 3] [0, 2, 4] rfl rfl (by decide) (by decide) hk1 hFc hP1 hD1
      have hP := hP.sub (ws' := (wd_c_X11_rule h0 h0_0 h0_1 h0_2 h0_3 h0_4 h0_f5 h0_6 h0_7 h0_8 h0_9 h0_10 h0_11 h0_12 h0_13 h0_14 h0_f15 h0_1 h0_1_0 h0_1_f1 h0_1_f2 h0_1_f3 h0_7 h0_7_f0 h0_7_f1 h0_7_f2 h0_7_f3 h0_7_4 h0_7_5 h0_7_6 h0_7_7 h0_7_8 h0_7_9 h0_7_10 h0_7_11 h0_7_12 h0_1_0 h0_1_0k h0_1_0c h0_6 h0_1 h0_3 h0_6_2 h0_6_3 h0_6_4 h0_6_5)) [0, 3, 1, 4, 2] rfl
      have hD := hD.sub (ws' := (wd_c_X11_rule h0 h0_0 h0_1 h0_2 h0_3 h0_4 h0_f5 h0_6 h0_7 h0_8 h0_9 h0_10 h0_11 h0_12 h0_13 h0_14 h0_f15 h0_1 h0_1_0 h0_1_f1 h0_1_f2 h0_1_f3 h0_7 h0_7_f0 h0_7_f1 h0_7_f2 h0_7_f3 h0_7_4 h0_7_5 h0_7_6 h0_7_7 h0_7_8 h0_7_9 h0_7_10 h0_7_11 h0_7_12 h0_1_0 h0_1_0k h0_1_0c h0_6 h0_1 h0_3 h0_6_2 h0_6_3 h0_6_4 h0_6_5)) [0, 3, 1, 4, 2] (by decide) rfl
      generalize H1 = H at hP hS ⊢
      have h_15 := hw
      have hK9 := hK.sub (tys' := []) [] rfl
      exact W.iret (v := r_14) hx hb hr (fun t ht hW => ⟨⟨r_14, (), rfl, (Or.inr (Or.inl ⟨(RG_w h_15 (by decide)), h_5, (RG_w g_13 (by decide))⟩)), by rw [ht]; exact hP, va_K.moved hW.alike hK9, hD⟩, hS.F ht⟩) hS.2.2 dX11_rule_67
    by_cases c_16 : p1 = 3
    · have hsw : p1.toInt = 3 := by rw [c_16]; rfl
      refine lv_tableIn (off := 58) (tgt := 68) hx hb dX11_rule_10 (by rw [hsw]; decide) (by rw [hsw]; decide) (by rw [hsw]; decide) (by decide) ?_
      have g_17 : RG p1 3 3 := RG_k _ _ hsw
      refine lv_aload_n hx hb dX11_rule_68 rfl (lv_at hl 0 rfl) ?_
      refine va_get (D := (dC, dI)) (ci := 11) (v := .ref h0_1) (C := RX11) (T := TX11) (N := 16) hx hb hts iw_c_X11_rule_X11 hown hK hP 0 rfl rfl 1 (by decide) (hts (.fieldLink RX11 19 "BuoyVote" "told" "LBuoyVote$Borough;") (List.mem_of_getElem? (i := 6) rfl)) (fun _ h9 => h9) rfl dX11_rule_69 ?_
      have hPc := hP.sub (ws' := (wd_c_X0_countHours h0_1 h0_1_0 h0_1_f1 h0_1_f2 h0_1_f3 h0_1_0 h0_1_0k h0_1_0c)) [1, 3] rfl
      have hDc := hD.sub (ws' := (wd_c_X0_countHours h0_1 h0_1_0 h0_1_f1 h0_1_f2 h0_1_f3 h0_1_0 h0_1_0k h0_1_0c)) [1, 3] (by decide) rfl
      have hKc := hK.sub (tys' := [(h0_1_0k, .int)]) [0] rfl
      have hFc := va_free (wc := (wd_c_X0_countHours h0_1 h0_1_0 h0_1_f1 h0_1_f2 h0_1_f3 h0_1_0 h0_1_0k h0_1_0c)) hD hS hA [1, 3] rfl
      refine va_calli (va_runV (As := []) (rest := []) ⟨hx, hb, hml, hown, hts⟩ (c_X0_countHours l dC dI H.size h0_1 h0_1_0 h0_1_f1 h0_1_f2 h0_1_f3 h0_1_0k h0_1_0c (RG_w h_5 (by decide)) g_h0_1_f2 g_h0_1_f3 a_h0_1_0c) (cwV 0 hts gf_c_X11_rule_c_X0_countHours rfl rfl rfl (by decide +kernel) ⟨Nat.le_of_ble_eq_true rfl, Nat.le_of_ble_eq_true rfl⟩) ⟨fun a U g mk q => by obtain ⟨q0, q1, qP, qK, qD⟩ := q; exact ⟨q0, q1, qP, va_K.moved (u := U) (U := U.calling g mk a) (Vm.Alike.refl U.vm) qK, qD⟩, va_recv hKc hPc (ci := 0) (q0 := 0) rfl rfl, fun U hU hW => ⟨rfl, by rw [hU], by rw [hU]; exact hPc, va_K.moved hW.alike hKc, hDc.weaken (fun _ _ _ _ => trivial)⟩⟩ rfl rfl hl.1 rfl (lv_room (Nat.le_of_ble_eq_true rfl)) dX11_rule_72 ⟨Nat.le_of_ble_eq_true rfl, Nat.le_of_ble_eq_true rfl⟩) hS (fun q _ h => hFc q h) hFc (fun r_18 u t H1 locs ht hvm hw hB hz1 hk1 hS => ?_)
      obtain ⟨hP1, hK1, hD1⟩ := hB
      rw [ht] at hP1
      obtain ⟨hP, hD⟩ := va_join (wr := [(h0, .inr (11, [.ref h0_0, .ref h0_1, .ref h0_2, .ref h0_3, .ref h0_4, .int h0_f5, .ref h0_6, .ref h0_7, .ref h0_8, .ref h0_9, .ref h0_10, .ref h0_11, .ref h0_12, .ref h0_13, .ref h0_14, .long h0_f15])), (h0_7, .inr (7, [.int h0_7_f0, .int h0_7_f1, .int h0_7_f2, .int h0_7_f3, .ref h0_7_4, .ref h0_7_5, .ref h0_7_6, .ref h0_7_7, .ref h0_7_8, .ref h0_7_9, .ref h0_7_10, .ref h0_7_11, .ref h0_7_12])), (h0_6, .inr (10, [.ref h0_1, .ref h0_3, .ref h0_6_2, .ref h0_6_3, .ref h0_6_4, .ref h0_6_5]))]) (w1 := (wd_c_X0_countHours h0_1 h0_1_0 h0_1_f1 h0_1_f2 h0_1_f3 h0_1_0 h0_1_0k h0_1_0c)) hP hD [1, 3] [0, 2, 4] rfl rfl (by decide) (by decide) hk1 hFc hP1 hD1
      have hP := hP.sub (ws' := (wd_c_X11_rule h0 h0_0 h0_1 h0_2 h0_3 h0_4 h0_f5 h0_6 h0_7 h0_8 h0_9 h0_10 h0_11 h0_12 h0_13 h0_14 h0_f15 h0_1 h0_1_0 h0_1_f1 h0_1_f2 h0_1_f3 h0_7 h0_7_f0 h0_7_f1 h0_7_f2 h0_7_f3 h0_7_4 h0_7_5 h0_7_6 h0_7_7 h0_7_8 h0_7_9 h0_7_10 h0_7_11 h0_7_12 h0_1_0 h0_1_0k h0_1_0c h0_6 h0_1 h0_3 h0_6_2 h0_6_3 h0_6_4 h0_6_5)) [0, 3, 1, 4, 2] rfl
      have hD := hD.sub (ws' := (wd_c_X11_rule h0 h0_0 h0_1 h0_2 h0_3 h0_4 h0_f5 h0_6 h0_7 h0_8 h0_9 h0_10 h0_11 h0_12 h0_13 h0_14 h0_f15 h0_1 h0_1_0 h0_1_f1 h0_1_f2 h0_1_f3 h0_7 h0_7_f0 h0_7_f1 h0_7_f2 h0_7_f3 h0_7_4 h0_7_5 h0_7_6 h0_7_7 h0_7_8 h0_7_9 h0_7_10 h0_7_11 h0_7_12 h0_1_0 h0_1_0k h0_1_0c h0_6 h0_1 h0_3 h0_6_2 h0_6_3 h0_6_4 h0_6_5)) [0, 3, 1, 4, 2] (by decide) rfl
      generalize H1 = H at hP hS ⊢
      have h_19 := hw
      have hK9 := hK.sub (tys' := []) [] rfl
      exact W.iret (v := r_18) hx hb hr (fun t ht hW => ⟨⟨r_18, (), rfl, (Or.inr (Or.inl ⟨(RG_w h_19 (by decide)), h_5, (RG_w g_17 (by decide))⟩)), by rw [ht]; exact hP, va_K.moved hW.alike hK9, hD⟩, hS.F ht⟩) hS.2.2 dX11_rule_75
    by_cases c_20 : p1 = 4
    · have hsw : p1.toInt = 4 := by rw [c_20]; rfl
      refine lv_tableIn (off := 66) (tgt := 76) hx hb dX11_rule_10 (by rw [hsw]; decide) (by rw [hsw]; decide) (by rw [hsw]; decide) (by decide) ?_
      have g_21 : RG p1 4 4 := RG_k _ _ hsw
      refine lv_aload_n hx hb dX11_rule_76 rfl (lv_at hl 0 rfl) ?_
      refine va_get (D := (dC, dI)) (ci := 11) (v := .ref h0_6) (C := RX11) (T := TX11) (N := 16) hx hb hts iw_c_X11_rule_X11 hown hK hP 0 rfl rfl 6 (by decide) (hts (.fieldLink RX11 45 "BuoyVote" "waters" "LBuoyVote$Waters;") (List.mem_of_getElem? (i := 21) rfl)) (fun _ h9 => h9) rfl dX11_rule_77 ?_
      refine lv_aload_n hx hb dX11_rule_80 rfl (lv_at hl 0 rfl) ?_
      refine va_get (D := (dC, dI)) (ci := 11) (v := .ref h0_7) (C := RX11) (T := TX11) (N := 16) hx hb hts iw_c_X11_rule_X11 hown hK hP 0 rfl rfl 7 (by decide) (hts (.fieldLink RX11 52 "BuoyVote" "now" "LBuoyVote$Sea;") (List.mem_of_getElem? (i := 8) rfl)) (fun _ h9 => h9) rfl dX11_rule_81 ?_
      refine va_get (D := (dC, dI)) (ci := 7) (v := .int h0_7_f2) (C := RX7) (T := TX7) (N := 13) hx hb hts iw_c_X11_rule_X7 hown hK hP 2 rfl rfl 2 (by decide) (hts (.fieldLink RX11 156 "BuoyVote$Sea" "hour" "I") (List.mem_of_getElem? (i := 22) rfl)) (fun _ h9 => h9) rfl dX11_rule_84 ?_
      have hPc := hP.sub (ws' := (wd_c_X10_isRising h0_6 h0_1 h0_3 h0_6_2 h0_6_3 h0_6_4 h0_6_5 h0_1 h0_1_0 h0_1_f1 h0_1_f2 h0_1_f3 h0_1_0 h0_1_0k h0_1_0c)) [4, 1, 3] rfl
      have hDc := hD.sub (ws' := (wd_c_X10_isRising h0_6 h0_1 h0_3 h0_6_2 h0_6_3 h0_6_4 h0_6_5 h0_1 h0_1_0 h0_1_f1 h0_1_f2 h0_1_f3 h0_1_0 h0_1_0k h0_1_0c)) [4, 1, 3] (by decide) rfl
      have hKc := hK.sub (tys' := [(h0_1_0k, .int)]) [0] rfl
      have hFc := va_free (wc := (wd_c_X10_isRising h0_6 h0_1 h0_3 h0_6_2 h0_6_3 h0_6_4 h0_6_5 h0_1 h0_1_0 h0_1_f1 h0_1_f2 h0_1_f3 h0_1_0 h0_1_0k h0_1_0c)) hD hS hA [4, 1, 3] rfl
      refine va_calli (va_runV (As := [.int h0_7_f2]) (rest := []) ⟨hx, hb, hml, hown, hts⟩ (c_X10_isRising l dC dI H.size h0_6 h0_7_f2 h0_1 h0_3 h0_6_2 h0_6_3 h0_6_4 h0_6_5 h0_1_0 h0_1_f1 h0_1_f2 h0_1_f3 h0_1_0k h0_1_0c (RG_w g_h0_7_f2 (by decide)) (RG_w h_5 (by decide)) g_h0_1_f2 g_h0_1_f3 a_h0_1_0c) (cwV 1 hts gf_c_X11_rule_c_X10_isRising rfl rfl rfl (by decide +kernel) ⟨Nat.le_of_ble_eq_true rfl, Nat.le_of_ble_eq_true rfl⟩) ⟨fun a U g mk q => by obtain ⟨q0, q1, qP, qK, qD⟩ := q; exact ⟨q0, q1, qP, va_K.moved (u := U) (U := U.calling g mk a) (Vm.Alike.refl U.vm) qK, qD⟩, va_recv hKc hPc (ci := 10) (q0 := 0) rfl rfl, fun U hU hW => ⟨rfl, by rw [hU], by rw [hU]; exact hPc, va_K.moved hW.alike hKc, hDc.weaken (fun _ _ _ _ => trivial)⟩⟩ rfl rfl hl.1 rfl (lv_room (Nat.le_of_ble_eq_true rfl)) dX11_rule_87 ⟨Nat.le_of_ble_eq_true rfl, Nat.le_of_ble_eq_true rfl⟩) hS (fun q _ h => hFc q h) hFc (fun r_22 u t H1 locs ht hvm hw hB hz1 hk1 hS => ?_)
      obtain ⟨hP1, hK1, hD1⟩ := hB
      rw [ht] at hP1
      obtain ⟨hP, hD⟩ := va_join (wr := [(h0, .inr (11, [.ref h0_0, .ref h0_1, .ref h0_2, .ref h0_3, .ref h0_4, .int h0_f5, .ref h0_6, .ref h0_7, .ref h0_8, .ref h0_9, .ref h0_10, .ref h0_11, .ref h0_12, .ref h0_13, .ref h0_14, .long h0_f15])), (h0_7, .inr (7, [.int h0_7_f0, .int h0_7_f1, .int h0_7_f2, .int h0_7_f3, .ref h0_7_4, .ref h0_7_5, .ref h0_7_6, .ref h0_7_7, .ref h0_7_8, .ref h0_7_9, .ref h0_7_10, .ref h0_7_11, .ref h0_7_12]))]) (w1 := (wd_c_X10_isRising h0_6 h0_1 h0_3 h0_6_2 h0_6_3 h0_6_4 h0_6_5 h0_1 h0_1_0 h0_1_f1 h0_1_f2 h0_1_f3 h0_1_0 h0_1_0k h0_1_0c)) hP hD [4, 1, 3] [0, 2] rfl rfl (by decide) (by decide) hk1 hFc hP1 hD1
      have hP := hP.sub (ws' := (wd_c_X11_rule h0 h0_0 h0_1 h0_2 h0_3 h0_4 h0_f5 h0_6 h0_7 h0_8 h0_9 h0_10 h0_11 h0_12 h0_13 h0_14 h0_f15 h0_1 h0_1_0 h0_1_f1 h0_1_f2 h0_1_f3 h0_7 h0_7_f0 h0_7_f1 h0_7_f2 h0_7_f3 h0_7_4 h0_7_5 h0_7_6 h0_7_7 h0_7_8 h0_7_9 h0_7_10 h0_7_11 h0_7_12 h0_1_0 h0_1_0k h0_1_0c h0_6 h0_1 h0_3 h0_6_2 h0_6_3 h0_6_4 h0_6_5)) [0, 3, 1, 4, 2] rfl
      have hD := hD.sub (ws' := (wd_c_X11_rule h0 h0_0 h0_1 h0_2 h0_3 h0_4 h0_f5 h0_6 h0_7 h0_8 h0_9 h0_10 h0_11 h0_12 h0_13 h0_14 h0_f15 h0_1 h0_1_0 h0_1_f1 h0_1_f2 h0_1_f3 h0_7 h0_7_f0 h0_7_f1 h0_7_f2 h0_7_f3 h0_7_4 h0_7_5 h0_7_6 h0_7_7 h0_7_8 h0_7_9 h0_7_10 h0_7_11 h0_7_12 h0_1_0 h0_1_0k h0_1_0c h0_6 h0_1 h0_3 h0_6_2 h0_6_3 h0_6_4 h0_6_5)) [0, 3, 1, 4, 2] (by decide) rfl
      generalize H1 = H at hP hS ⊢
      rcases hw with h_23 | h_24
      · rw [h_23]
        refine lv_if_eq (tgt := 97) hx hb dX11_rule_90 rfl (fun c_25 => ?_) (fun c_25 => absurd c_25 (by decide))
        refine lv_iconst (v := 0) hx hb dX11_rule_97 kc_iconst_0 ?_
        have hK9 := hK.sub (tys' := []) [] rfl
        exact W.iret (v := 0) hx hb hr (fun t ht hW => ⟨⟨0, (), rfl, (Or.inr (Or.inr (Or.inl ⟨rfl, h_5, g_21⟩))), by rw [ht]; exact hP, va_K.moved hW.alike hK9, hD⟩, hS.F ht⟩) hS.2.2 dX11_rule_98
      · rw [h_24]
        refine lv_if_eq (tgt := 97) hx hb dX11_rule_90 rfl (fun c_26 => absurd c_26 (by decide)) (fun c_26 => ?_)
        refine lv_iconst (v := 1) hx hb dX11_rule_93 kc_iconst_1 ?_
        refine lv_goto (tgt := 98) hx hb dX11_rule_94 rfl ?_
        have hK9 := hK.sub (tys' := []) [] rfl
        exact W.iret (v := 1) hx hb hr (fun t ht hW => ⟨⟨1, (), rfl, (Or.inr (Or.inr (Or.inr ⟨rfl, h_5, g_21⟩))), by rw [ht]; exact hP, va_K.moved hW.alike hK9, hD⟩, hS.F ht⟩) hS.2.2 dX11_rule_98
    have hsw : p1.toInt < 0 ∨ 4 < p1.toInt := by
      have zc_8 := lv_neT c_8 (a := 0) (by decide)
      have zc_10 := lv_neT c_10 (a := 1) (by decide)
      have zc_12 := lv_neT c_12 (a := 2) (by decide)
      have zc_16 := lv_neT c_16 (a := 3) (by decide)
      have zc_20 := lv_neT c_20 (a := 4) (by decide)
      have zg1 := ((RG_any p1)).1
      have zg2 := ((RG_any p1)).2
      omega
    refine lv_tableOut (tgt := 99) hx hb dX11_rule_10 hsw (by decide) ?_
    refine lv_iconst (v := (-1)) hx hb dX11_rule_99 kc_iconst_m1 ?_
    have hK9 := hK.sub (tys' := []) [] rfl
    exact W.iret (v := (-1)) hx hb hr (fun t ht hW => ⟨⟨(-1), (), rfl, (Or.inl rfl), by rw [ht]; exact hP, va_K.moved hW.alike hK9, hD⟩, hS.F ht⟩) hS.2.2 dX11_rule_100
def wd_c_X11_isBoat (a0 : Nat) (a1 : Nat) (a2 : Nat) (a3 : Nat) (a4 : Nat) (a5 : Nat) (a6 : Int32) (a7 : Nat) (a8 : Nat) (a9 : Nat) (a10 : Nat) (a11 : Nat) (a12 : Nat) (a13 : Nat) (a14 : Nat) (a15 : Nat) (a16 : Int64) (a17 : Nat) (a18 : Nat) (a19 : Int32) (a20 : Int32) (a21 : Int32) : va_W := [(a0, .inr (11, [.ref a1, .ref a2, .ref a3, .ref a4, .ref a5, .int a6, .ref a7, .ref a8, .ref a9, .ref a10, .ref a11, .ref a12, .ref a13, .ref a14, .ref a15, .long a16])), (a17, .inr (0, [.ref a18, .int a19, .int a20, .int a21]))]
def wf_c_X11_isBoat : List Cond := .code yX11_isBoat cX11_isBoat 2 (some .boolean) :: ([.fieldLink RX11 19 "BuoyVote" "told" "LBuoyVote$Borough;", .fieldLink RX11 272 "BuoyVote$Borough" "boats" "I"] ++ wsX110 ++ wsX00)
theorem iw_c_X11_isBoat_X11 : ∀ w ∈ wsX110, w ∈ wf_c_X11_isBoat := fun w h => List.mem_cons_of_mem _ (List.mem_append_left _ (List.mem_append_right _ h))
theorem iw_c_X11_isBoat_X0 : ∀ w ∈ wsX00, w ∈ wf_c_X11_isBoat := fun w h => List.mem_cons_of_mem _ (List.mem_append_right _ h)
set_option maxHeartbeats 4000000 in
set_option maxRecDepth 100000 in
theorem c_X11_isBoat (l : Launch) (dC : Nat → ClassId) (dI : Nat → Nat → Nat) (sz : Nat) (h0 : Nat) (p1 : Int32) (h0_0 : Nat) (h0_1 : Nat) (h0_2 : Nat) (h0_3 : Nat) (h0_4 : Nat) (h0_f5 : Int32) (h0_6 : Nat) (h0_7 : Nat) (h0_8 : Nat) (h0_9 : Nat) (h0_10 : Nat) (h0_11 : Nat) (h0_12 : Nat) (h0_13 : Nat) (h0_14 : Nat) (h0_f15 : Int64) (h0_1_0 : Nat) (h0_1_f1 : Int32) (h0_1_f2 : Int32) (h0_1_f3 : Int32) (g_h0_f5 : RG h0_f5 0 4) (g_h0_1_f1 : RG h0_1_f1 0 8) (g_h0_1_f2 : RG h0_1_f2 0 3) (g_h0_1_f3 : RG h0_1_f3 0 1) : Met l yX11_isBoat wf_c_X11_isBoat ({ frames := 0, cells := 0, slots := 0, locals := 0 }) (va_Pc [.ref h0, .int p1] (fun U => U.heap.size = sz ∧ va_P (dC, dI) vwCl (wd_c_X11_isBoat h0 h0_0 h0_1 h0_2 h0_3 h0_4 h0_f5 h0_6 h0_7 h0_8 h0_9 h0_10 h0_11 h0_12 h0_13 h0_14 h0_f15 h0_1 h0_1_0 h0_1_f1 h0_1_f2 h0_1_f3) U.heap ∧ va_K (dC, dI) vwCl [] U ∧ va_D (fun _ => True) (wd_c_X11_isBoat h0 h0_0 h0_1 h0_2 h0_3 h0_4 h0_f5 h0_6 h0_7 h0_8 h0_9 h0_10 h0_11 h0_12 h0_13 h0_14 h0_f15 h0_1 h0_1_0 h0_1_f1 h0_1_f2 h0_1_f3))) (va_Qi (fun (r : Int32) (u : Unit) => (r = 0 ∧ RG p1 (-2147483648) 2147483647) ∨ (r = 1 ∧ RG h0_1_f2 1 3 ∧ RG p1 0 2)) (fun (u : Unit) t => va_P (dC, dI) vwCl (wd_c_X11_isBoat h0 h0_0 h0_1 h0_2 h0_3 h0_4 h0_f5 h0_6 h0_7 h0_8 h0_9 h0_10 h0_11 h0_12 h0_13 h0_14 h0_f15 h0_1 h0_1_0 h0_1_f1 h0_1_f2 h0_1_f3) t.heap ∧ va_K (dC, dI) vwCl [] t ∧ va_D (va_A (wd_c_X11_isBoat h0 h0_0 h0_1 h0_2 h0_3 h0_4 h0_f5 h0_6 h0_7 h0_8 h0_9 h0_10 h0_11 h0_12 h0_13 h0_14 h0_f15 h0_1 h0_1_0 h0_1_f1 h0_1_f2 h0_1_f3) sz) (wd_c_X11_isBoat h0 h0_0 h0_1 h0_2 h0_3 h0_4 h0_f5 h0_6 h0_7 h0_8 h0_9 h0_10 h0_11 h0_12 h0_13 h0_14 h0_f15 h0_1 h0_1_0 h0_1_f1 h0_1_f2 h0_1_f3)) (va_A (wd_c_X11_isBoat h0 h0_0 h0_1 h0_2 h0_3 h0_4 h0_f5 h0_6 h0_7 h0_8 h0_9 h0_10 h0_11 h0_12 h0_13 h0_14 h0_f15 h0_1 h0_1_0 h0_1_f1 h0_1_f2 h0_1_f3) sz)) 0 0 (va_A (wd_c_X11_isBoat h0 h0_0 h0_1 h0_2 h0_3 h0_4 h0_f5 h0_6 h0_7 h0_8 h0_9 h0_10 h0_11 h0_12 h0_13 h0_14 h0_f15 h0_1 h0_1_0 h0_1_f1 h0_1_f2 h0_1_f3) sz) := by
  refine Met.ofW (cc := cX11_isBoat) (maxL := 2) (ret := (some .boolean)) (by decide) rfl ?_
  intro p e s m args below meth c s₁ B hml hv
  obtain ⟨rfl, hsz, hP, hK, hD0⟩ := hv
  have hx := B.exec
  have hb := B.bytes
  have hr := B.returns
  have hts := atoms_spec (ws := wf_c_X11_isBoat) B.pre
  have hown : s.vm.findClass RX11 = some m.cls := findClass_of_methodNamed B.named
  have hlocks := B.notSynchronized
  subst hsz
  have hD := hD0.self (sz := s.heap.size)
  generalize hAe : va_A (wd_c_X11_isBoat h0 h0_0 h0_1 h0_2 h0_3 h0_4 h0_f5 h0_6 h0_7 h0_8 h0_9 h0_10 h0_11 h0_12 h0_13 h0_14 h0_f15 h0_1 h0_1_0 h0_1_f1 h0_1_f2 h0_1_f3) s.heap.size = A at hD ⊢
  have hA : ∀ q : Nat, s.heap.size ≤ q → A q := fun q h => by rw [← hAe]; exact Or.inr h
  have hP : va_P (dC, dI) vwCl (wd_c_X11_isBoat h0 h0_0 h0_1 h0_2 h0_3 h0_4 h0_f5 h0_6 h0_7 h0_8 h0_9 h0_10 h0_11 h0_12 h0_13 h0_14 h0_f15 h0_1 h0_1_0 h0_1_f1 h0_1_f2 h0_1_f3) s.heap := hP
  have hl := lv_entry ([.ref h0, .int p1]) (n := 2) (Nat.le_of_ble_eq_true rfl)
  rw [lg_entry_eq]
  generalize (lg_sl ([.ref h0, .int p1]) ++ List.replicate (2 - (lg_sl ([.ref h0, .int p1])).length) Slot.unset).toArray = ls at hl ⊢
  have hl : lv_has ls 2 [(0, .ref h0), (1, .int p1)] := hl
  obtain ⟨H, hHe⟩ : ∃ H : Heap, s.heap = H := ⟨_, rfl⟩
  have hS : va_S A s.heap H [] := by rw [hHe]; exact va_S.rf
  have hP : va_P (dC, dI) vwCl (wd_c_X11_isBoat h0 h0_0 h0_1 h0_2 h0_3 h0_4 h0_f5 h0_6 h0_7 h0_8 h0_9 h0_10 h0_11 h0_12 h0_13 h0_14 h0_f15 h0_1 h0_1_0 h0_1_f1 h0_1_f2 h0_1_f3) H := by rw [← hHe]; exact hP
  rw [hHe]
  refine lv_iload_n hx hb dX11_isBoat_0 rfl (lv_at hl 1 rfl) ?_
  refine lv_if_lt (tgt := 19) hx hb dX11_isBoat_1 rfl (fun c_1 => ?_) (fun c_1 => ?_)
  · have g_2 : RG p1 (-2147483648) (-1) := RG_lt1 (RG_any p1) (RG_k 0 0 rfl) c_1 (by decide)
    refine lv_iconst (v := 0) hx hb dX11_isBoat_19 kc_iconst_0 ?_
    have hK9 := hK.sub (tys' := []) [] rfl
    exact W.zret (v := 0) hx hb hr rfl (fun t ht hW => ⟨⟨0, (), rfl, (Or.inl ⟨rfl, (RG_w g_2 (by decide))⟩), by rw [ht]; exact hP, va_K.moved hW.alike hK9, hD⟩, hS.F ht⟩) hS.2.2 dX11_isBoat_20
  · have d_3 := Int32.not_lt.mp c_1
    have g_4 : RG p1 0 2147483647 := RG_le2 (RG_k 0 0 rfl) (RG_any p1) d_3 (by decide)
    refine lv_iload_n hx hb dX11_isBoat_4 rfl (lv_at hl 1 rfl) ?_
    refine lv_aload_n hx hb dX11_isBoat_5 rfl (lv_at hl 0 rfl) ?_
    refine va_get (D := (dC, dI)) (ci := 11) (v := .ref h0_1) (C := RX11) (T := TX11) (N := 16) hx hb hts iw_c_X11_isBoat_X11 hown hK hP 0 rfl rfl 1 (by decide) (hts (.fieldLink RX11 19 "BuoyVote" "told" "LBuoyVote$Borough;") (List.mem_of_getElem? (i := 1) rfl)) (fun _ h9 => h9) rfl dX11_isBoat_6 ?_
    refine va_get (D := (dC, dI)) (ci := 0) (v := .int h0_1_f2) (C := RX0) (T := TX0) (N := 4) hx hb hts iw_c_X11_isBoat_X0 hown hK hP 1 rfl rfl 2 (by decide) (hts (.fieldLink RX11 272 "BuoyVote$Borough" "boats" "I") (List.mem_of_getElem? (i := 2) rfl)) (fun _ h9 => h9) rfl dX11_isBoat_9 ?_
    refine lv_icmp_ge (tgt := 19) hx hb dX11_isBoat_12 rfl (fun c_5 => ?_) (fun c_5 => ?_)
    · refine lv_iconst (v := 0) hx hb dX11_isBoat_19 kc_iconst_0 ?_
      have hK9 := hK.sub (tys' := []) [] rfl
      exact W.zret (v := 0) hx hb hr rfl (fun t ht hW => ⟨⟨0, (), rfl, (Or.inl ⟨rfl, (RG_w g_4 (by decide))⟩), by rw [ht]; exact hP, va_K.moved hW.alike hK9, hD⟩, hS.F ht⟩) hS.2.2 dX11_isBoat_20
    · have d_6 := Int32.not_le.mp c_5
      have g_7 : RG p1 0 2 := RG_lt1 g_4 g_h0_1_f2 d_6 (by decide)
      have g_8 : RG h0_1_f2 1 3 := RG_lt2 g_4 g_h0_1_f2 d_6 (by decide)
      refine lv_iconst (v := 1) hx hb dX11_isBoat_15 kc_iconst_1 ?_
      refine lv_goto (tgt := 20) hx hb dX11_isBoat_16 rfl ?_
      have hK9 := hK.sub (tys' := []) [] rfl
      exact W.zret (v := 1) hx hb hr rfl (fun t ht hW => ⟨⟨1, (), rfl, (Or.inr ⟨rfl, g_8, g_7⟩), by rw [ht]; exact hP, va_K.moved hW.alike hK9, hD⟩, hS.F ht⟩) hS.2.2 dX11_isBoat_20
def wd_c_X0_speed (a0 : Nat) (a1 : Nat) (a2 : Int32) (a3 : Int32) (a4 : Int32) (a5 : Nat) (a6 : ClassId) (a7 : Nat → Int32) : va_W := [(a0, .inr (0, [.ref a1, .int a2, .int a3, .int a4])), (a5, .inl (a6, 80, .inl a7))]
def wf_c_X0_speed : List Cond := .code yX0_speed cX0_speed 2 (some .int) :: ([.fieldLink RX0 11 "BuoyVote$Borough" "values" "[I"] ++ wsX00)
theorem iw_c_X0_speed_X0 : ∀ w ∈ wsX00, w ∈ wf_c_X0_speed := fun w h => List.mem_cons_of_mem _ (List.mem_append_right _ h)
set_option maxHeartbeats 4000000 in
set_option maxRecDepth 100000 in
theorem c_X0_speed (l : Launch) (dC : Nat → ClassId) (dI : Nat → Nat → Nat) (sz : Nat) (h0 : Nat) (p1 : Int32) (h0_0 : Nat) (h0_f1 : Int32) (h0_f2 : Int32) (h0_f3 : Int32) (h0_0k : ClassId) (h0_0c : Nat → Int32) (g_p1 : RG p1 0 2) (g_h0_f1 : RG h0_f1 0 8) (g_h0_f2 : RG h0_f2 0 3) (g_h0_f3 : RG h0_f3 0 1) (a_h0_0c : AI h0_0c (-1) 99) : Met l yX0_speed wf_c_X0_speed ({ frames := 0, cells := 0, slots := 0, locals := 0 }) (va_Pc [.ref h0, .int p1] (fun U => U.heap.size = sz ∧ va_P (dC, dI) vwCl (wd_c_X0_speed h0 h0_0 h0_f1 h0_f2 h0_f3 h0_0 h0_0k h0_0c) U.heap ∧ va_K (dC, dI) vwCl [(h0_0k, .int)] U ∧ va_D (fun _ => True) (wd_c_X0_speed h0 h0_0 h0_f1 h0_f2 h0_f3 h0_0 h0_0k h0_0c))) (va_Qi (fun (r : Int32) (u : Unit) => (RG r (-1) 99)) (fun (u : Unit) t => va_P (dC, dI) vwCl (wd_c_X0_speed h0 h0_0 h0_f1 h0_f2 h0_f3 h0_0 h0_0k h0_0c) t.heap ∧ va_K (dC, dI) vwCl [] t ∧ va_D (va_A (wd_c_X0_speed h0 h0_0 h0_f1 h0_f2 h0_f3 h0_0 h0_0k h0_0c) sz) (wd_c_X0_speed h0 h0_0 h0_f1 h0_f2 h0_f3 h0_0 h0_0k h0_0c)) (va_A (wd_c_X0_speed h0 h0_0 h0_f1 h0_f2 h0_f3 h0_0 h0_0k h0_0c) sz)) 0 0 (va_A (wd_c_X0_speed h0 h0_0 h0_f1 h0_f2 h0_f3 h0_0 h0_0k h0_0c) sz) := by
  refine Met.ofW (cc := cX0_speed) (maxL := 2) (ret := (some .int)) (by decide) rfl ?_
  intro p e s m args below meth c s₁ B hml hv
  obtain ⟨rfl, hsz, hP, hK, hD0⟩ := hv
  have hx := B.exec
  have hb := B.bytes
  have hr := B.returns
  have hts := atoms_spec (ws := wf_c_X0_speed) B.pre
  have hown : s.vm.findClass RX0 = some m.cls := findClass_of_methodNamed B.named
  have hlocks := B.notSynchronized
  subst hsz
  have hD := hD0.self (sz := s.heap.size)
  generalize hAe : va_A (wd_c_X0_speed h0 h0_0 h0_f1 h0_f2 h0_f3 h0_0 h0_0k h0_0c) s.heap.size = A at hD ⊢
  have hA : ∀ q : Nat, s.heap.size ≤ q → A q := fun q h => by rw [← hAe]; exact Or.inr h
  have hP : va_P (dC, dI) vwCl (wd_c_X0_speed h0 h0_0 h0_f1 h0_f2 h0_f3 h0_0 h0_0k h0_0c) s.heap := hP
  have hl := lv_entry ([.ref h0, .int p1]) (n := 2) (Nat.le_of_ble_eq_true rfl)
  rw [lg_entry_eq]
  generalize (lg_sl ([.ref h0, .int p1]) ++ List.replicate (2 - (lg_sl ([.ref h0, .int p1])).length) Slot.unset).toArray = ls at hl ⊢
  have hl : lv_has ls 2 [(0, .ref h0), (1, .int p1)] := hl
  obtain ⟨H, hHe⟩ : ∃ H : Heap, s.heap = H := ⟨_, rfl⟩
  have hS : va_S A s.heap H [] := by rw [hHe]; exact va_S.rf
  have hP : va_P (dC, dI) vwCl (wd_c_X0_speed h0 h0_0 h0_f1 h0_f2 h0_f3 h0_0 h0_0k h0_0c) H := by rw [← hHe]; exact hP
  rw [hHe]
  refine lv_aload_n hx hb dX0_speed_0 rfl (lv_at hl 0 rfl) ?_
  refine va_get (D := (dC, dI)) (ci := 0) (v := .ref h0_0) (C := RX0) (T := TX0) (N := 4) hx hb hts iw_c_X0_speed_X0 hown hK hP 0 rfl rfl 0 (by decide) (hts (.fieldLink RX0 11 "BuoyVote$Borough" "values" "[I") (List.mem_of_getElem? (i := 1) rfl)) (fun _ h9 => h9) rfl dX0_speed_1 ?_
  refine lv_bipush (v := 68) hx hb dX0_speed_4 kc_bipush_68 ?_
  refine lv_iload_n hx hb dX0_speed_6 rfl (lv_at hl 1 rfl) ?_
  refine lv_iconst (v := 4) hx hb dX0_speed_7 kc_iconst_4 ?_
  refine lv_imul hx hb dX0_speed_8 ?_
  refine lv_topi (fun x_1 ex_1 => ?_)
  have g_2 : RG x_1 0 8 := RG_mulc ex_1 (q := 4) rfl g_p1 (by decide)
  refine lv_iadd hx hb dX0_speed_9 ?_
  refine lv_topi (fun x_3 ex_3 => ?_)
  have g_4 : RG x_3 68 76 := RG_add ex_3 (RG_k 68 68 rfl) g_2 (by decide)
  refine lv_iconst (v := 2) hx hb dX0_speed_10 kc_iconst_2 ?_
  refine lv_iadd hx hb dX0_speed_11 ?_
  refine lv_topi (fun x_5 ex_5 => ?_)
  have g_6 : RG x_5 70 78 := RG_add ex_5 g_4 (RG_k 2 2 rfl) (by decide)
  refine va_iald hx hb hK hP 1 0 rfl rfl (RG_in g_6 (by decide)) dX0_speed_12 ?_
  refine lv_topi (fun x_7 ex_7 => ?_)
  have g_8 : RG x_7 (-1) 99 := AI_rd a_h0_0c ex_7
  have hK9 := hK.sub (tys' := []) [] rfl
  exact W.iret (v := x_7) hx hb hr (fun t ht hW => ⟨⟨x_7, (), rfl, g_8, by rw [ht]; exact hP, va_K.moved hW.alike hK9, hD⟩, hS.F ht⟩) hS.2.2 dX0_speed_13
def wd_c_X0_voice (a0 : Nat) (a1 : Nat) (a2 : Int32) (a3 : Int32) (a4 : Int32) (a5 : Nat) (a6 : ClassId) (a7 : Nat → Int32) : va_W := [(a0, .inr (0, [.ref a1, .int a2, .int a3, .int a4])), (a5, .inl (a6, 80, .inl a7))]
def wf_c_X0_voice : List Cond := .code yX0_voice cX0_voice 2 (some .int) :: ([.fieldLink RX0 11 "BuoyVote$Borough" "values" "[I"] ++ wsX00)
theorem iw_c_X0_voice_X0 : ∀ w ∈ wsX00, w ∈ wf_c_X0_voice := fun w h => List.mem_cons_of_mem _ (List.mem_append_right _ h)
set_option maxHeartbeats 4000000 in
set_option maxRecDepth 100000 in
theorem c_X0_voice (l : Launch) (dC : Nat → ClassId) (dI : Nat → Nat → Nat) (sz : Nat) (h0 : Nat) (p1 : Int32) (h0_0 : Nat) (h0_f1 : Int32) (h0_f2 : Int32) (h0_f3 : Int32) (h0_0k : ClassId) (h0_0c : Nat → Int32) (g_p1 : RG p1 0 2) (g_h0_f1 : RG h0_f1 0 8) (g_h0_f2 : RG h0_f2 0 3) (g_h0_f3 : RG h0_f3 0 1) (a_h0_0c : AI h0_0c (-1) 99) : Met l yX0_voice wf_c_X0_voice ({ frames := 0, cells := 0, slots := 0, locals := 0 }) (va_Pc [.ref h0, .int p1] (fun U => U.heap.size = sz ∧ va_P (dC, dI) vwCl (wd_c_X0_voice h0 h0_0 h0_f1 h0_f2 h0_f3 h0_0 h0_0k h0_0c) U.heap ∧ va_K (dC, dI) vwCl [(h0_0k, .int)] U ∧ va_D (fun _ => True) (wd_c_X0_voice h0 h0_0 h0_f1 h0_f2 h0_f3 h0_0 h0_0k h0_0c))) (va_Qi (fun (r : Int32) (u : Unit) => (RG r (-1) 99)) (fun (u : Unit) t => va_P (dC, dI) vwCl (wd_c_X0_voice h0 h0_0 h0_f1 h0_f2 h0_f3 h0_0 h0_0k h0_0c) t.heap ∧ va_K (dC, dI) vwCl [] t ∧ va_D (va_A (wd_c_X0_voice h0 h0_0 h0_f1 h0_f2 h0_f3 h0_0 h0_0k h0_0c) sz) (wd_c_X0_voice h0 h0_0 h0_f1 h0_f2 h0_f3 h0_0 h0_0k h0_0c)) (va_A (wd_c_X0_voice h0 h0_0 h0_f1 h0_f2 h0_f3 h0_0 h0_0k h0_0c) sz)) 0 0 (va_A (wd_c_X0_voice h0 h0_0 h0_f1 h0_f2 h0_f3 h0_0 h0_0k h0_0c) sz) := by
  refine Met.ofW (cc := cX0_voice) (maxL := 2) (ret := (some .int)) (by decide) rfl ?_
  intro p e s m args below meth c s₁ B hml hv
  obtain ⟨rfl, hsz, hP, hK, hD0⟩ := hv
  have hx := B.exec
  have hb := B.bytes
  have hr := B.returns
  have hts := atoms_spec (ws := wf_c_X0_voice) B.pre
  have hown : s.vm.findClass RX0 = some m.cls := findClass_of_methodNamed B.named
  have hlocks := B.notSynchronized
  subst hsz
  have hD := hD0.self (sz := s.heap.size)
  generalize hAe : va_A (wd_c_X0_voice h0 h0_0 h0_f1 h0_f2 h0_f3 h0_0 h0_0k h0_0c) s.heap.size = A at hD ⊢
  have hA : ∀ q : Nat, s.heap.size ≤ q → A q := fun q h => by rw [← hAe]; exact Or.inr h
  have hP : va_P (dC, dI) vwCl (wd_c_X0_voice h0 h0_0 h0_f1 h0_f2 h0_f3 h0_0 h0_0k h0_0c) s.heap := hP
  have hl := lv_entry ([.ref h0, .int p1]) (n := 2) (Nat.le_of_ble_eq_true rfl)
  rw [lg_entry_eq]
  generalize (lg_sl ([.ref h0, .int p1]) ++ List.replicate (2 - (lg_sl ([.ref h0, .int p1])).length) Slot.unset).toArray = ls at hl ⊢
  have hl : lv_has ls 2 [(0, .ref h0), (1, .int p1)] := hl
  obtain ⟨H, hHe⟩ : ∃ H : Heap, s.heap = H := ⟨_, rfl⟩
  have hS : va_S A s.heap H [] := by rw [hHe]; exact va_S.rf
  have hP : va_P (dC, dI) vwCl (wd_c_X0_voice h0 h0_0 h0_f1 h0_f2 h0_f3 h0_0 h0_0k h0_0c) H := by rw [← hHe]; exact hP
  rw [hHe]
  refine lv_aload_n hx hb dX0_voice_0 rfl (lv_at hl 0 rfl) ?_
  refine va_get (D := (dC, dI)) (ci := 0) (v := .ref h0_0) (C := RX0) (T := TX0) (N := 4) hx hb hts iw_c_X0_voice_X0 hown hK hP 0 rfl rfl 0 (by decide) (hts (.fieldLink RX0 11 "BuoyVote$Borough" "values" "[I") (List.mem_of_getElem? (i := 1) rfl)) (fun _ h9 => h9) rfl dX0_voice_1 ?_
  refine lv_bipush (v := 68) hx hb dX0_voice_4 kc_bipush_68 ?_
  refine lv_iload_n hx hb dX0_voice_6 rfl (lv_at hl 1 rfl) ?_
  refine lv_iconst (v := 4) hx hb dX0_voice_7 kc_iconst_4 ?_
  refine lv_imul hx hb dX0_voice_8 ?_
  refine lv_topi (fun x_1 ex_1 => ?_)
  have g_2 : RG x_1 0 8 := RG_mulc ex_1 (q := 4) rfl g_p1 (by decide)
  refine lv_iadd hx hb dX0_voice_9 ?_
  refine lv_topi (fun x_3 ex_3 => ?_)
  have g_4 : RG x_3 68 76 := RG_add ex_3 (RG_k 68 68 rfl) g_2 (by decide)
  refine lv_iconst (v := 3) hx hb dX0_voice_10 kc_iconst_3 ?_
  refine lv_iadd hx hb dX0_voice_11 ?_
  refine lv_topi (fun x_5 ex_5 => ?_)
  have g_6 : RG x_5 71 79 := RG_add ex_5 g_4 (RG_k 3 3 rfl) (by decide)
  refine va_iald hx hb hK hP 1 0 rfl rfl (RG_in g_6 (by decide)) dX0_voice_12 ?_
  refine lv_topi (fun x_7 ex_7 => ?_)
  have g_8 : RG x_7 (-1) 99 := AI_rd a_h0_0c ex_7
  have hK9 := hK.sub (tys' := []) [] rfl
  exact W.iret (v := x_7) hx hb hr (fun t ht hW => ⟨⟨x_7, (), rfl, g_8, by rw [ht]; exact hP, va_K.moved hW.alike hK9, hD⟩, hS.F ht⟩) hS.2.2 dX0_voice_13
def wd_c_X11_boat (a0 : Nat) (a1 : Nat) (a2 : Nat) (a3 : Nat) (a4 : Nat) (a5 : Nat) (a6 : Int32) (a7 : Nat) (a8 : Nat) (a9 : Nat) (a10 : Nat) (a11 : Nat) (a12 : Nat) (a13 : Nat) (a14 : Nat) (a15 : Nat) (a16 : Int64) (a17 : Nat) (a18 : Nat) (a19 : Int32) (a20 : Int32) (a21 : Int32) (a22 : Nat) (a23 : Int32) (a24 : Int32) (a25 : Int32) (a26 : Int32) (a27 : Nat) (a28 : Nat) (a29 : Nat) (a30 : Nat) (a31 : Nat) (a32 : Nat) (a33 : Nat) (a34 : Nat) (a35 : Nat) (a36 : Nat) (a37 : ClassId) (a38 : Nat → Int32) (a39 : Nat) (a40 : ClassId) (a41 : Nat → Int32) (a42 : Nat) (a43 : ClassId) (a44 : Nat → Int32) (a45 : Nat) (a46 : ClassId) (a47 : Nat → Int32) (a48 : Nat) (a49 : ClassId) (a50 : Nat → Int32) (a51 : Nat) (a52 : ClassId) (a53 : Nat → Int32) (a54 : Nat) (a55 : ClassId) (a56 : Nat → Int32) : va_W := [(a0, .inr (11, [.ref a1, .ref a2, .ref a3, .ref a4, .ref a5, .int a6, .ref a7, .ref a8, .ref a9, .ref a10, .ref a11, .ref a12, .ref a13, .ref a14, .ref a15, .long a16])), (a17, .inr (0, [.ref a18, .int a19, .int a20, .int a21])), (a22, .inr (7, [.int a23, .int a24, .int a25, .int a26, .ref a27, .ref a28, .ref a29, .ref a30, .ref a31, .ref a32, .ref a33, .ref a34, .ref a35])), (a36, .inl (a37, 3, .inl a38)), (a39, .inl (a40, 3, .inl a41)), (a42, .inl (a43, 80, .inl a44)), (a45, .inl (a46, 3, .inl a47)), (a48, .inl (a49, 3, .inl a50)), (a51, .inl (a52, 3, .inl a53)), (a54, .inl (a55, 3, .inl a56))]
def wf_c_X11_boat : List Cond := .code yX11_boat cX11_boat 3 (some .int) :: ([.methodLink RX11 191 yX11_isBoat, .instanceMethod yX11_isBoat, .selects RX11 yX11_isBoat yX11_isBoat, .initialized RX11, .code yX11_isBoat cX11_isBoat 2 (some .boolean), .fieldLink RX11 19 "BuoyVote" "told" "LBuoyVote$Borough;", .fieldLink RX11 272 "BuoyVote$Borough" "boats" "I", .fieldLink RX11 52 "BuoyVote" "now" "LBuoyVote$Sea;", .fieldLink RX11 194 "BuoyVote$Sea" "x" "[I", .fieldLink RX11 197 "BuoyVote$Sea" "y" "[I", .methodLink RX11 200 yX0_speed, .instanceMethod yX0_speed, .selects RX0 yX0_speed yX0_speed, .initialized RX0, .code yX0_speed cX0_speed 2 (some .int), .fieldLink RX0 11 "BuoyVote$Borough" "values" "[I", .methodLink RX11 203 yX0_voice, .instanceMethod yX0_voice, .selects RX0 yX0_voice yX0_voice, .code yX0_voice cX0_voice 2 (some .int), .fieldLink RX11 206 "BuoyVote$Sea" "goalX" "[I", .fieldLink RX11 209 "BuoyVote$Sea" "goalY" "[I", .fieldLink RX11 212 "BuoyVote$Sea" "won" "[I", .fieldLink RX11 215 "BuoyVote$Sea" "sang" "[I"] ++ wsX110 ++ wsX00 ++ wsX70)
theorem iw_c_X11_boat_X11 : ∀ w ∈ wsX110, w ∈ wf_c_X11_boat := fun w h => List.mem_cons_of_mem _ (List.mem_append_left _ (List.mem_append_left _ (List.mem_append_right _ h)))
theorem iw_c_X11_boat_X0 : ∀ w ∈ wsX00, w ∈ wf_c_X11_boat := fun w h => List.mem_cons_of_mem _ (List.mem_append_left _ (List.mem_append_right _ h))
theorem iw_c_X11_boat_X7 : ∀ w ∈ wsX70, w ∈ wf_c_X11_boat := fun w h => List.mem_cons_of_mem _ (List.mem_append_right _ h)
set_option maxRecDepth 20000 in
theorem gf_c_X11_boat_c_X11_isBoat : GoodIn wf_c_X11_boat (wsV RX11 191 RX11 yX11_isBoat wf_c_X11_isBoat) := goodIn_app (gi_cons (j := 1) rfl rfl (gi_cons (j := 2) rfl rfl (gi_cons (j := 3) rfl rfl (gi_cons (j := 4) rfl rfl (gi_nil))))) (gi_cons (j := 5) rfl rfl (goodIn_app (goodIn_app (gi_cons (j := 6) rfl rfl (gi_cons (j := 7) rfl rfl (gi_nil))) (goodIn_sub iw_c_X11_boat_X11 gw_X11)) (goodIn_sub iw_c_X11_boat_X0 gw_X0)))
set_option maxRecDepth 20000 in
theorem gf_c_X11_boat_c_X0_speed : GoodIn wf_c_X11_boat (wsV RX11 200 RX0 yX0_speed wf_c_X0_speed) := goodIn_app (gi_cons (j := 11) rfl rfl (gi_cons (j := 12) rfl rfl (gi_cons (j := 13) rfl rfl (gi_cons (j := 14) rfl rfl (gi_nil))))) (gi_cons (j := 15) rfl rfl (goodIn_app (gi_cons (j := 16) rfl rfl (gi_nil)) (goodIn_sub iw_c_X11_boat_X0 gw_X0)))
set_option maxRecDepth 20000 in
theorem gf_c_X11_boat_c_X0_voice : GoodIn wf_c_X11_boat (wsV RX11 203 RX0 yX0_voice wf_c_X0_voice) := goodIn_app (gi_cons (j := 17) rfl rfl (gi_cons (j := 18) rfl rfl (gi_cons (j := 19) rfl rfl (gi_cons (j := 14) rfl rfl (gi_nil))))) (gi_cons (j := 20) rfl rfl (goodIn_app (gi_cons (j := 16) rfl rfl (gi_nil)) (goodIn_sub iw_c_X11_boat_X0 gw_X0)))
set_option maxHeartbeats 4000000 in
set_option maxRecDepth 100000 in
theorem c_X11_boat (l : Launch) (dC : Nat → ClassId) (dI : Nat → Nat → Nat) (sz : Nat) (h0 : Nat) (p1 : Int32) (p2 : Int32) (h0_0 : Nat) (h0_1 : Nat) (h0_2 : Nat) (h0_3 : Nat) (h0_4 : Nat) (h0_f5 : Int32) (h0_6 : Nat) (h0_7 : Nat) (h0_8 : Nat) (h0_9 : Nat) (h0_10 : Nat) (h0_11 : Nat) (h0_12 : Nat) (h0_13 : Nat) (h0_14 : Nat) (h0_f15 : Int64) (h0_1_0 : Nat) (h0_1_f1 : Int32) (h0_1_f2 : Int32) (h0_1_f3 : Int32) (h0_7_f0 : Int32) (h0_7_f1 : Int32) (h0_7_f2 : Int32) (h0_7_f3 : Int32) (h0_7_4 : Nat) (h0_7_5 : Nat) (h0_7_6 : Nat) (h0_7_7 : Nat) (h0_7_8 : Nat) (h0_7_9 : Nat) (h0_7_10 : Nat) (h0_7_11 : Nat) (h0_7_12 : Nat) (h0_7_4k : ClassId) (h0_7_4c : Nat → Int32) (h0_7_5k : ClassId) (h0_7_5c : Nat → Int32) (h0_1_0k : ClassId) (h0_1_0c : Nat → Int32) (h0_7_6k : ClassId) (h0_7_6c : Nat → Int32) (h0_7_7k : ClassId) (h0_7_7c : Nat → Int32) (h0_7_8k : ClassId) (h0_7_8c : Nat → Int32) (h0_7_9k : ClassId) (h0_7_9c : Nat → Int32) (g_h0_f5 : RG h0_f5 0 4) (g_h0_1_f1 : RG h0_1_f1 0 8) (g_h0_1_f2 : RG h0_1_f2 0 3) (g_h0_1_f3 : RG h0_1_f3 0 1) (g_h0_7_f2 : RG h0_7_f2 0 9999) (g_h0_7_f3 : RG h0_7_f3 0 9999) (a_h0_1_0c : AI h0_1_0c (-1) 99) : Met l yX11_boat wf_c_X11_boat ({ frames := 1, cells := 0, slots := 0, locals := 21 }) (va_Pc [.ref h0, .int p1, .int p2] (fun U => U.heap.size = sz ∧ va_P (dC, dI) vwCl (wd_c_X11_boat h0 h0_0 h0_1 h0_2 h0_3 h0_4 h0_f5 h0_6 h0_7 h0_8 h0_9 h0_10 h0_11 h0_12 h0_13 h0_14 h0_f15 h0_1 h0_1_0 h0_1_f1 h0_1_f2 h0_1_f3 h0_7 h0_7_f0 h0_7_f1 h0_7_f2 h0_7_f3 h0_7_4 h0_7_5 h0_7_6 h0_7_7 h0_7_8 h0_7_9 h0_7_10 h0_7_11 h0_7_12 h0_7_4 h0_7_4k h0_7_4c h0_7_5 h0_7_5k h0_7_5c h0_1_0 h0_1_0k h0_1_0c h0_7_6 h0_7_6k h0_7_6c h0_7_7 h0_7_7k h0_7_7c h0_7_8 h0_7_8k h0_7_8c h0_7_9 h0_7_9k h0_7_9c) U.heap ∧ va_K (dC, dI) vwCl [(h0_7_4k, .int), (h0_7_5k, .int), (h0_1_0k, .int), (h0_7_6k, .int), (h0_7_7k, .int), (h0_7_8k, .int), (h0_7_9k, .int)] U ∧ va_D (fun _ => True) (wd_c_X11_boat h0 h0_0 h0_1 h0_2 h0_3 h0_4 h0_f5 h0_6 h0_7 h0_8 h0_9 h0_10 h0_11 h0_12 h0_13 h0_14 h0_f15 h0_1 h0_1_0 h0_1_f1 h0_1_f2 h0_1_f3 h0_7 h0_7_f0 h0_7_f1 h0_7_f2 h0_7_f3 h0_7_4 h0_7_5 h0_7_6 h0_7_7 h0_7_8 h0_7_9 h0_7_10 h0_7_11 h0_7_12 h0_7_4 h0_7_4k h0_7_4c h0_7_5 h0_7_5k h0_7_5c h0_1_0 h0_1_0k h0_1_0c h0_7_6 h0_7_6k h0_7_6c h0_7_7 h0_7_7k h0_7_7c h0_7_8 h0_7_8k h0_7_8c h0_7_9 h0_7_9k h0_7_9c))) (va_Qi (fun (r : Int32) (u : Unit) => (r = (-1)) ∨ (RG r (-2147483648) 2147483647 ∧ RG h0_1_f2 1 3 ∧ RG p1 0 2 ∧ RG p2 0 7)) (fun (u : Unit) t => va_P (dC, dI) vwCl (wd_c_X11_boat h0 h0_0 h0_1 h0_2 h0_3 h0_4 h0_f5 h0_6 h0_7 h0_8 h0_9 h0_10 h0_11 h0_12 h0_13 h0_14 h0_f15 h0_1 h0_1_0 h0_1_f1 h0_1_f2 h0_1_f3 h0_7 h0_7_f0 h0_7_f1 h0_7_f2 h0_7_f3 h0_7_4 h0_7_5 h0_7_6 h0_7_7 h0_7_8 h0_7_9 h0_7_10 h0_7_11 h0_7_12 h0_7_4 h0_7_4k h0_7_4c h0_7_5 h0_7_5k h0_7_5c h0_1_0 h0_1_0k h0_1_0c h0_7_6 h0_7_6k h0_7_6c h0_7_7 h0_7_7k h0_7_7c h0_7_8 h0_7_8k h0_7_8c h0_7_9 h0_7_9k h0_7_9c) t.heap ∧ va_K (dC, dI) vwCl [] t ∧ va_D (va_A (wd_c_X11_boat h0 h0_0 h0_1 h0_2 h0_3 h0_4 h0_f5 h0_6 h0_7 h0_8 h0_9 h0_10 h0_11 h0_12 h0_13 h0_14 h0_f15 h0_1 h0_1_0 h0_1_f1 h0_1_f2 h0_1_f3 h0_7 h0_7_f0 h0_7_f1 h0_7_f2 h0_7_f3 h0_7_4 h0_7_5 h0_7_6 h0_7_7 h0_7_8 h0_7_9 h0_7_10 h0_7_11 h0_7_12 h0_7_4 h0_7_4k h0_7_4c h0_7_5 h0_7_5k h0_7_5c h0_1_0 h0_1_0k h0_1_0c h0_7_6 h0_7_6k h0_7_6c h0_7_7 h0_7_7k h0_7_7c h0_7_8 h0_7_8k h0_7_8c h0_7_9 h0_7_9k h0_7_9c) sz) (wd_c_X11_boat h0 h0_0 h0_1 h0_2 h0_3 h0_4 h0_f5 h0_6 h0_7 h0_8 h0_9 h0_10 h0_11 h0_12 h0_13 h0_14 h0_f15 h0_1 h0_1_0 h0_1_f1 h0_1_f2 h0_1_f3 h0_7 h0_7_f0 h0_7_f1 h0_7_f2 h0_7_f3 h0_7_4 h0_7_5 h0_7_6 h0_7_7 h0_7_8 h0_7_9 h0_7_10 h0_7_11 h0_7_12 h0_7_4 h0_7_4k h0_7_4c h0_7_5 h0_7_5k h0_7_5c h0_1_0 h0_1_0k h0_1_0c h0_7_6 h0_7_6k h0_7_6c h0_7_7 h0_7_7k h0_7_7c h0_7_8 h0_7_8k h0_7_8c h0_7_9 h0_7_9k h0_7_9c)) (va_A (wd_c_X11_boat h0 h0_0 h0_1 h0_2 h0_3 h0_4 h0_f5 h0_6 h0_7 h0_8 h0_9 h0_10 h0_11 h0_12 h0_13 h0_14 h0_f15 h0_1 h0_1_0 h0_1_f1 h0_1_f2 h0_1_f3 h0_7 h0_7_f0 h0_7_f1 h0_7_f2 h0_7_f3 h0_7_4 h0_7_5 h0_7_6 h0_7_7 h0_7_8 h0_7_9 h0_7_10 h0_7_11 h0_7_12 h0_7_4 h0_7_4k h0_7_4c h0_7_5 h0_7_5k h0_7_5c h0_1_0 h0_1_0k h0_1_0c h0_7_6 h0_7_6k h0_7_6c h0_7_7 h0_7_7k h0_7_7c h0_7_8 h0_7_8k h0_7_8c h0_7_9 h0_7_9k h0_7_9c) sz)) 0 0 (va_A (wd_c_X11_boat h0 h0_0 h0_1 h0_2 h0_3 h0_4 h0_f5 h0_6 h0_7 h0_8 h0_9 h0_10 h0_11 h0_12 h0_13 h0_14 h0_f15 h0_1 h0_1_0 h0_1_f1 h0_1_f2 h0_1_f3 h0_7 h0_7_f0 h0_7_f1 h0_7_f2 h0_7_f3 h0_7_4 h0_7_5 h0_7_6 h0_7_7 h0_7_8 h0_7_9 h0_7_10 h0_7_11 h0_7_12 h0_7_4 h0_7_4k h0_7_4c h0_7_5 h0_7_5k h0_7_5c h0_1_0 h0_1_0k h0_1_0c h0_7_6 h0_7_6k h0_7_6c h0_7_7 h0_7_7k h0_7_7c h0_7_8 h0_7_8k h0_7_8c h0_7_9 h0_7_9k h0_7_9c) sz) := by
  refine Met.ofW (cc := cX11_boat) (maxL := 3) (ret := (some .int)) (by decide) rfl ?_
  intro p e s m args below meth c s₁ B hml hv
  obtain ⟨rfl, hsz, hP, hK, hD0⟩ := hv
  have hx := B.exec
  have hb := B.bytes
  have hr := B.returns
  have hts := atoms_spec (ws := wf_c_X11_boat) B.pre
  have hown : s.vm.findClass RX11 = some m.cls := findClass_of_methodNamed B.named
  have hlocks := B.notSynchronized
  subst hsz
  have hD := hD0.self (sz := s.heap.size)
  generalize hAe : va_A (wd_c_X11_boat h0 h0_0 h0_1 h0_2 h0_3 h0_4 h0_f5 h0_6 h0_7 h0_8 h0_9 h0_10 h0_11 h0_12 h0_13 h0_14 h0_f15 h0_1 h0_1_0 h0_1_f1 h0_1_f2 h0_1_f3 h0_7 h0_7_f0 h0_7_f1 h0_7_f2 h0_7_f3 h0_7_4 h0_7_5 h0_7_6 h0_7_7 h0_7_8 h0_7_9 h0_7_10 h0_7_11 h0_7_12 h0_7_4 h0_7_4k h0_7_4c h0_7_5 h0_7_5k h0_7_5c h0_1_0 h0_1_0k h0_1_0c h0_7_6 h0_7_6k h0_7_6c h0_7_7 h0_7_7k h0_7_7c h0_7_8 h0_7_8k h0_7_8c h0_7_9 h0_7_9k h0_7_9c) s.heap.size = A at hD ⊢
  have hA : ∀ q : Nat, s.heap.size ≤ q → A q := fun q h => by rw [← hAe]; exact Or.inr h
  have hP : va_P (dC, dI) vwCl (wd_c_X11_boat h0 h0_0 h0_1 h0_2 h0_3 h0_4 h0_f5 h0_6 h0_7 h0_8 h0_9 h0_10 h0_11 h0_12 h0_13 h0_14 h0_f15 h0_1 h0_1_0 h0_1_f1 h0_1_f2 h0_1_f3 h0_7 h0_7_f0 h0_7_f1 h0_7_f2 h0_7_f3 h0_7_4 h0_7_5 h0_7_6 h0_7_7 h0_7_8 h0_7_9 h0_7_10 h0_7_11 h0_7_12 h0_7_4 h0_7_4k h0_7_4c h0_7_5 h0_7_5k h0_7_5c h0_1_0 h0_1_0k h0_1_0c h0_7_6 h0_7_6k h0_7_6c h0_7_7 h0_7_7k h0_7_7c h0_7_8 h0_7_8k h0_7_8c h0_7_9 h0_7_9k h0_7_9c) s.heap := hP
  have hl := lv_entry ([.ref h0, .int p1, .int p2]) (n := 3) (Nat.le_of_ble_eq_true rfl)
  rw [lg_entry_eq]
  generalize (lg_sl ([.ref h0, .int p1, .int p2]) ++ List.replicate (3 - (lg_sl ([.ref h0, .int p1, .int p2])).length) Slot.unset).toArray = ls at hl ⊢
  have hl : lv_has ls 3 [(0, .ref h0), (1, .int p1), (2, .int p2)] := hl
  obtain ⟨H, hHe⟩ : ∃ H : Heap, s.heap = H := ⟨_, rfl⟩
  have hS : va_S A s.heap H [] := by rw [hHe]; exact va_S.rf
  have hP : va_P (dC, dI) vwCl (wd_c_X11_boat h0 h0_0 h0_1 h0_2 h0_3 h0_4 h0_f5 h0_6 h0_7 h0_8 h0_9 h0_10 h0_11 h0_12 h0_13 h0_14 h0_f15 h0_1 h0_1_0 h0_1_f1 h0_1_f2 h0_1_f3 h0_7 h0_7_f0 h0_7_f1 h0_7_f2 h0_7_f3 h0_7_4 h0_7_5 h0_7_6 h0_7_7 h0_7_8 h0_7_9 h0_7_10 h0_7_11 h0_7_12 h0_7_4 h0_7_4k h0_7_4c h0_7_5 h0_7_5k h0_7_5c h0_1_0 h0_1_0k h0_1_0c h0_7_6 h0_7_6k h0_7_6c h0_7_7 h0_7_7k h0_7_7c h0_7_8 h0_7_8k h0_7_8c h0_7_9 h0_7_9k h0_7_9c) H := by rw [← hHe]; exact hP
  rw [hHe]
  refine lv_aload_n hx hb dX11_boat_0 rfl (lv_at hl 0 rfl) ?_
  refine lv_iload_n hx hb dX11_boat_1 rfl (lv_at hl 1 rfl) ?_
  have hPc := hP.sub (ws' := (wd_c_X11_isBoat h0 h0_0 h0_1 h0_2 h0_3 h0_4 h0_f5 h0_6 h0_7 h0_8 h0_9 h0_10 h0_11 h0_12 h0_13 h0_14 h0_f15 h0_1 h0_1_0 h0_1_f1 h0_1_f2 h0_1_f3)) [0, 1] rfl
  have hDc := hD.sub (ws' := (wd_c_X11_isBoat h0 h0_0 h0_1 h0_2 h0_3 h0_4 h0_f5 h0_6 h0_7 h0_8 h0_9 h0_10 h0_11 h0_12 h0_13 h0_14 h0_f15 h0_1 h0_1_0 h0_1_f1 h0_1_f2 h0_1_f3)) [0, 1] (by decide) rfl
  have hKc := hK.sub (tys' := []) [] rfl
  have hFc := va_free (wc := (wd_c_X11_isBoat h0 h0_0 h0_1 h0_2 h0_3 h0_4 h0_f5 h0_6 h0_7 h0_8 h0_9 h0_10 h0_11 h0_12 h0_13 h0_14 h0_f15 h0_1 h0_1_0 h0_1_f1 h0_1_f2 h0_1_f3)) hD hS hA [0, 1] rfl
  refine va_calli (va_runV (As := [.int p1]) (rest := []) ⟨hx, hb, hml, hown, hts⟩ (c_X11_isBoat l dC dI H.size h0 p1 h0_0 h0_1 h0_2 h0_3 h0_4 h0_f5 h0_6 h0_7 h0_8 h0_9 h0_10 h0_11 h0_12 h0_13 h0_14 h0_f15 h0_1_0 h0_1_f1 h0_1_f2 h0_1_f3 g_h0_f5 g_h0_1_f1 g_h0_1_f2 g_h0_1_f3) (cwV 1 hts gf_c_X11_boat_c_X11_isBoat rfl rfl rfl (by decide +kernel) ⟨Nat.le_of_ble_eq_true rfl, Nat.le_of_ble_eq_true rfl⟩) ⟨fun a U g mk q => by obtain ⟨q0, q1, qP, qK, qD⟩ := q; exact ⟨q0, q1, qP, va_K.moved (u := U) (U := U.calling g mk a) (Vm.Alike.refl U.vm) qK, qD⟩, va_recv hKc hPc (ci := 11) (q0 := 0) rfl rfl, fun U hU hW => ⟨rfl, by rw [hU], by rw [hU]; exact hPc, va_K.moved hW.alike hKc, hDc.weaken (fun _ _ _ _ => trivial)⟩⟩ rfl rfl hl.1 rfl (lv_room (Nat.le_of_ble_eq_true rfl)) dX11_boat_2 ⟨Nat.le_of_ble_eq_true rfl, Nat.le_of_ble_eq_true rfl⟩) hS (fun q _ h => hFc q h) hFc (fun r_1 u t H1 locs ht hvm hw hB hz1 hk1 hS => ?_)
  obtain ⟨hP1, hK1, hD1⟩ := hB
  rw [ht] at hP1
  obtain ⟨hP, hD⟩ := va_join (wr := [(h0_7, .inr (7, [.int h0_7_f0, .int h0_7_f1, .int h0_7_f2, .int h0_7_f3, .ref h0_7_4, .ref h0_7_5, .ref h0_7_6, .ref h0_7_7, .ref h0_7_8, .ref h0_7_9, .ref h0_7_10, .ref h0_7_11, .ref h0_7_12])), (h0_7_4, .inl (h0_7_4k, 3, .inl h0_7_4c)), (h0_7_5, .inl (h0_7_5k, 3, .inl h0_7_5c)), (h0_1_0, .inl (h0_1_0k, 80, .inl h0_1_0c)), (h0_7_6, .inl (h0_7_6k, 3, .inl h0_7_6c)), (h0_7_7, .inl (h0_7_7k, 3, .inl h0_7_7c)), (h0_7_8, .inl (h0_7_8k, 3, .inl h0_7_8c)), (h0_7_9, .inl (h0_7_9k, 3, .inl h0_7_9c))]) (w1 := (wd_c_X11_isBoat h0 h0_0 h0_1 h0_2 h0_3 h0_4 h0_f5 h0_6 h0_7 h0_8 h0_9 h0_10 h0_11 h0_12 h0_13 h0_14 h0_f15 h0_1 h0_1_0 h0_1_f1 h0_1_f2 h0_1_f3)) hP hD [0, 1] [2, 3, 4, 5, 6, 7, 8, 9] rfl rfl (by decide) (by decide) hk1 hFc hP1 hD1
  have hP := hP.sub (ws' := (wd_c_X11_boat h0 h0_0 h0_1 h0_2 h0_3 h0_4 h0_f5 h0_6 h0_7 h0_8 h0_9 h0_10 h0_11 h0_12 h0_13 h0_14 h0_f15 h0_1 h0_1_0 h0_1_f1 h0_1_f2 h0_1_f3 h0_7 h0_7_f0 h0_7_f1 h0_7_f2 h0_7_f3 h0_7_4 h0_7_5 h0_7_6 h0_7_7 h0_7_8 h0_7_9 h0_7_10 h0_7_11 h0_7_12 h0_7_4 h0_7_4k h0_7_4c h0_7_5 h0_7_5k h0_7_5c h0_1_0 h0_1_0k h0_1_0c h0_7_6 h0_7_6k h0_7_6c h0_7_7 h0_7_7k h0_7_7c h0_7_8 h0_7_8k h0_7_8c h0_7_9 h0_7_9k h0_7_9c)) [8, 9, 0, 1, 2, 3, 4, 5, 6, 7] rfl
  have hD := hD.sub (ws' := (wd_c_X11_boat h0 h0_0 h0_1 h0_2 h0_3 h0_4 h0_f5 h0_6 h0_7 h0_8 h0_9 h0_10 h0_11 h0_12 h0_13 h0_14 h0_f15 h0_1 h0_1_0 h0_1_f1 h0_1_f2 h0_1_f3 h0_7 h0_7_f0 h0_7_f1 h0_7_f2 h0_7_f3 h0_7_4 h0_7_5 h0_7_6 h0_7_7 h0_7_8 h0_7_9 h0_7_10 h0_7_11 h0_7_12 h0_7_4 h0_7_4k h0_7_4c h0_7_5 h0_7_5k h0_7_5c h0_1_0 h0_1_0k h0_1_0c h0_7_6 h0_7_6k h0_7_6c h0_7_7 h0_7_7k h0_7_7c h0_7_8 h0_7_8k h0_7_8c h0_7_9 h0_7_9k h0_7_9c)) [8, 9, 0, 1, 2, 3, 4, 5, 6, 7] (by decide) rfl
  generalize H1 = H at hP hS ⊢
  rcases hw with ⟨h_2, h_3⟩ | ⟨h_4, h_5, h_6⟩
  · rw [h_2]
    refine lv_if_ne (tgt := 10) hx hb dX11_boat_5 rfl (fun c_7 => absurd c_7 (by decide)) (fun c_7 => ?_)
    refine lv_iconst (v := (-1)) hx hb dX11_boat_8 kc_iconst_m1 ?_
    have hK9 := hK.sub (tys' := []) [] rfl
    exact W.iret (v := (-1)) hx hb hr (fun t ht hW => ⟨⟨(-1), (), rfl, (Or.inl rfl), by rw [ht]; exact hP, va_K.moved hW.alike hK9, hD⟩, hS.F ht⟩) hS.2.2 dX11_boat_9
  · rw [h_4]
    refine lv_if_ne (tgt := 10) hx hb dX11_boat_5 rfl (fun c_8 => ?_) (fun c_8 => absurd c_8 (by decide))
    refine lv_iload_n hx hb dX11_boat_10 rfl (lv_at hl 2 rfl) ?_
    by_cases c_9 : p2 = 0
    · have hsw : p2.toInt = 0 := by rw [c_9]; rfl
      refine lv_tableIn (off := 45) (tgt := 56) hx hb dX11_boat_11 (by rw [hsw]; decide) (by rw [hsw]; decide) (by rw [hsw]; decide) (by decide) ?_
      have g_10 : RG p2 0 0 := RG_k _ _ hsw
      refine lv_aload_n hx hb dX11_boat_56 rfl (lv_at hl 0 rfl) ?_
      refine va_get (D := (dC, dI)) (ci := 11) (v := .ref h0_7) (C := RX11) (T := TX11) (N := 16) hx hb hts iw_c_X11_boat_X11 hown hK hP 0 rfl rfl 7 (by decide) (hts (.fieldLink RX11 52 "BuoyVote" "now" "LBuoyVote$Sea;") (List.mem_of_getElem? (i := 8) rfl)) (fun _ h9 => h9) rfl dX11_boat_57 ?_
      refine va_get (D := (dC, dI)) (ci := 7) (v := .ref h0_7_4) (C := RX7) (T := TX7) (N := 13) hx hb hts iw_c_X11_boat_X7 hown hK hP 2 rfl rfl 4 (by decide) (hts (.fieldLink RX11 194 "BuoyVote$Sea" "x" "[I") (List.mem_of_getElem? (i := 9) rfl)) (fun _ h9 => h9) rfl dX11_boat_60 ?_
      refine lv_iload_n hx hb dX11_boat_63 rfl (lv_at hl 1 rfl) ?_
      refine va_iald hx hb hK hP 3 0 rfl rfl (RG_in h_6 (by decide)) dX11_boat_64 ?_
      refine lv_topi (fun x_11 ex_11 => ?_)
      have hK9 := hK.sub (tys' := []) [] rfl
      exact W.iret (v := x_11) hx hb hr (fun t ht hW => ⟨⟨x_11, (), rfl, (Or.inr ⟨(RG_any x_11), h_5, h_6, (RG_w g_10 (by decide))⟩), by rw [ht]; exact hP, va_K.moved hW.alike hK9, hD⟩, hS.F ht⟩) hS.2.2 dX11_boat_65
    by_cases c_12 : p2 = 1
    · have hsw : p2.toInt = 1 := by rw [c_12]; rfl
      refine lv_tableIn (off := 55) (tgt := 66) hx hb dX11_boat_11 (by rw [hsw]; decide) (by rw [hsw]; decide) (by rw [hsw]; decide) (by decide) ?_
      have g_13 : RG p2 1 1 := RG_k _ _ hsw
      refine lv_aload_n hx hb dX11_boat_66 rfl (lv_at hl 0 rfl) ?_
      refine va_get (D := (dC, dI)) (ci := 11) (v := .ref h0_7) (C := RX11) (T := TX11) (N := 16) hx hb hts iw_c_X11_boat_X11 hown hK hP 0 rfl rfl 7 (by decide) (hts (.fieldLink RX11 52 "BuoyVote" "now" "LBuoyVote$Sea;") (List.mem_of_getElem? (i := 8) rfl)) (fun _ h9 => h9) rfl dX11_boat_67 ?_
      refine va_get (D := (dC, dI)) (ci := 7) (v := .ref h0_7_5) (C := RX7) (T := TX7) (N := 13) hx hb hts iw_c_X11_boat_X7 hown hK hP 2 rfl rfl 5 (by decide) (hts (.fieldLink RX11 197 "BuoyVote$Sea" "y" "[I") (List.mem_of_getElem? (i := 10) rfl)) (fun _ h9 => h9) rfl dX11_boat_70 ?_
      refine lv_iload_n hx hb dX11_boat_73 rfl (lv_at hl 1 rfl) ?_
      refine va_iald hx hb hK hP 4 1 rfl rfl (RG_in h_6 (by decide)) dX11_boat_74 ?_
      refine lv_topi (fun x_14 ex_14 => ?_)
      have hK9 := hK.sub (tys' := []) [] rfl
      exact W.iret (v := x_14) hx hb hr (fun t ht hW => ⟨⟨x_14, (), rfl, (Or.inr ⟨(RG_any x_14), h_5, h_6, (RG_w g_13 (by decide))⟩), by rw [ht]; exact hP, va_K.moved hW.alike hK9, hD⟩, hS.F ht⟩) hS.2.2 dX11_boat_75
    by_cases c_15 : p2 = 2
    · have hsw : p2.toInt = 2 := by rw [c_15]; rfl
      refine lv_tableIn (off := 65) (tgt := 76) hx hb dX11_boat_11 (by rw [hsw]; decide) (by rw [hsw]; decide) (by rw [hsw]; decide) (by decide) ?_
      have g_16 : RG p2 2 2 := RG_k _ _ hsw
      refine lv_aload_n hx hb dX11_boat_76 rfl (lv_at hl 0 rfl) ?_
      refine va_get (D := (dC, dI)) (ci := 11) (v := .ref h0_1) (C := RX11) (T := TX11) (N := 16) hx hb hts iw_c_X11_boat_X11 hown hK hP 0 rfl rfl 1 (by decide) (hts (.fieldLink RX11 19 "BuoyVote" "told" "LBuoyVote$Borough;") (List.mem_of_getElem? (i := 6) rfl)) (fun _ h9 => h9) rfl dX11_boat_77 ?_
      refine lv_iload_n hx hb dX11_boat_80 rfl (lv_at hl 1 rfl) ?_
      have hPc := hP.sub (ws' := (wd_c_X0_speed h0_1 h0_1_0 h0_1_f1 h0_1_f2 h0_1_f3 h0_1_0 h0_1_0k h0_1_0c)) [1, 5] rfl
      have hDc := hD.sub (ws' := (wd_c_X0_speed h0_1 h0_1_0 h0_1_f1 h0_1_f2 h0_1_f3 h0_1_0 h0_1_0k h0_1_0c)) [1, 5] (by decide) rfl
      have hKc := hK.sub (tys' := [(h0_1_0k, .int)]) [2] rfl
      have hFc := va_free (wc := (wd_c_X0_speed h0_1 h0_1_0 h0_1_f1 h0_1_f2 h0_1_f3 h0_1_0 h0_1_0k h0_1_0c)) hD hS hA [1, 5] rfl
      refine va_calli (va_runV (As := [.int p1]) (rest := []) ⟨hx, hb, hml, hown, hts⟩ (c_X0_speed l dC dI H.size h0_1 p1 h0_1_0 h0_1_f1 h0_1_f2 h0_1_f3 h0_1_0k h0_1_0c h_6 g_h0_1_f1 (RG_w h_5 (by decide)) g_h0_1_f3 a_h0_1_0c) (cwV 1 hts gf_c_X11_boat_c_X0_speed rfl rfl rfl (by decide +kernel) ⟨Nat.le_of_ble_eq_true rfl, Nat.le_of_ble_eq_true rfl⟩) ⟨fun a U g mk q => by obtain ⟨q0, q1, qP, qK, qD⟩ := q; exact ⟨q0, q1, qP, va_K.moved (u := U) (U := U.calling g mk a) (Vm.Alike.refl U.vm) qK, qD⟩, va_recv hKc hPc (ci := 0) (q0 := 0) rfl rfl, fun U hU hW => ⟨rfl, by rw [hU], by rw [hU]; exact hPc, va_K.moved hW.alike hKc, hDc.weaken (fun _ _ _ _ => trivial)⟩⟩ rfl rfl hl.1 rfl (lv_room (Nat.le_of_ble_eq_true rfl)) dX11_boat_81 ⟨Nat.le_of_ble_eq_true rfl, Nat.le_of_ble_eq_true rfl⟩) hS (fun q _ h => hFc q h) hFc (fun r_17 u t H1 locs ht hvm hw hB hz1 hk1 hS => ?_)
      obtain ⟨hP1, hK1, hD1⟩ := hB
      rw [ht] at hP1
      obtain ⟨hP, hD⟩ := va_join (wr := [(h0, .inr (11, [.ref h0_0, .ref h0_1, .ref h0_2, .ref h0_3, .ref h0_4, .int h0_f5, .ref h0_6, .ref h0_7, .ref h0_8, .ref h0_9, .ref h0_10, .ref h0_11, .ref h0_12, .ref h0_13, .ref h0_14, .long h0_f15])), (h0_7, .inr (7, [.int h0_7_f0, .int h0_7_f1, .int h0_7_f2, .int h0_7_f3, .ref h0_7_4, .ref h0_7_5, .ref h0_7_6, .ref h0_7_7, .ref h0_7_8, .ref h0_7_9, .ref h0_7_10, .ref h0_7_11, .ref h0_7_12])), (h0_7_4, .inl (h0_7_4k, 3, .inl h0_7_4c)), (h0_7_5, .inl (h0_7_5k, 3, .inl h0_7_5c)), (h0_7_6, .inl (h0_7_6k, 3, .inl h0_7_6c)), (h0_7_7, .inl (h0_7_7k, 3, .inl h0_7_7c)), (h0_7_8, .inl (h0_7_8k, 3, .inl h0_7_8c)), (h0_7_9, .inl (h0_7_9k, 3, .inl h0_7_9c))]) (w1 := (wd_c_X0_speed h0_1 h0_1_0 h0_1_f1 h0_1_f2 h0_1_f3 h0_1_0 h0_1_0k h0_1_0c)) hP hD [1, 5] [0, 2, 3, 4, 6, 7, 8, 9] rfl rfl (by decide) (by decide) hk1 hFc hP1 hD1
      have hP := hP.sub (ws' := (wd_c_X11_boat h0 h0_0 h0_1 h0_2 h0_3 h0_4 h0_f5 h0_6 h0_7 h0_8 h0_9 h0_10 h0_11 h0_12 h0_13 h0_14 h0_f15 h0_1 h0_1_0 h0_1_f1 h0_1_f2 h0_1_f3 h0_7 h0_7_f0 h0_7_f1 h0_7_f2 h0_7_f3 h0_7_4 h0_7_5 h0_7_6 h0_7_7 h0_7_8 h0_7_9 h0_7_10 h0_7_11 h0_7_12 h0_7_4 h0_7_4k h0_7_4c h0_7_5 h0_7_5k h0_7_5c h0_1_0 h0_1_0k h0_1_0c h0_7_6 h0_7_6k h0_7_6c h0_7_7 h0_7_7k h0_7_7c h0_7_8 h0_7_8k h0_7_8c h0_7_9 h0_7_9k h0_7_9c)) [0, 8, 1, 2, 3, 9, 4, 5, 6, 7] rfl
      have hD := hD.sub (ws' := (wd_c_X11_boat h0 h0_0 h0_1 h0_2 h0_3 h0_4 h0_f5 h0_6 h0_7 h0_8 h0_9 h0_10 h0_11 h0_12 h0_13 h0_14 h0_f15 h0_1 h0_1_0 h0_1_f1 h0_1_f2 h0_1_f3 h0_7 h0_7_f0 h0_7_f1 h0_7_f2 h0_7_f3 h0_7_4 h0_7_5 h0_7_6 h0_7_7 h0_7_8 h0_7_9 h0_7_10 h0_7_11 h0_7_12 h0_7_4 h0_7_4k h0_7_4c h0_7_5 h0_7_5k h0_7_5c h0_1_0 h0_1_0k h0_1_0c h0_7_6 h0_7_6k h0_7_6c h0_7_7 h0_7_7k h0_7_7c h0_7_8 h0_7_8k h0_7_8c h0_7_9 h0_7_9k h0_7_9c)) [0, 8, 1, 2, 3, 9, 4, 5, 6, 7] (by decide) rfl
      generalize H1 = H at hP hS ⊢
      have h_18 := hw
      have hK9 := hK.sub (tys' := []) [] rfl
      exact W.iret (v := r_17) hx hb hr (fun t ht hW => ⟨⟨r_17, (), rfl, (Or.inr ⟨(RG_w h_18 (by decide)), h_5, h_6, (RG_w g_16 (by decide))⟩), by rw [ht]; exact hP, va_K.moved hW.alike hK9, hD⟩, hS.F ht⟩) hS.2.2 dX11_boat_84
    by_cases c_19 : p2 = 3
    · have hsw : p2.toInt = 3 := by rw [c_19]; rfl
      refine lv_tableIn (off := 74) (tgt := 85) hx hb dX11_boat_11 (by rw [hsw]; decide) (by rw [hsw]; decide) (by rw [hsw]; decide) (by decide) ?_
      have g_20 : RG p2 3 3 := RG_k _ _ hsw
      refine lv_aload_n hx hb dX11_boat_85 rfl (lv_at hl 0 rfl) ?_
      refine va_get (D := (dC, dI)) (ci := 11) (v := .ref h0_1) (C := RX11) (T := TX11) (N := 16) hx hb hts iw_c_X11_boat_X11 hown hK hP 0 rfl rfl 1 (by decide) (hts (.fieldLink RX11 19 "BuoyVote" "told" "LBuoyVote$Borough;") (List.mem_of_getElem? (i := 6) rfl)) (fun _ h9 => h9) rfl dX11_boat_86 ?_
      refine lv_iload_n hx hb dX11_boat_89 rfl (lv_at hl 1 rfl) ?_
      have hPc := hP.sub (ws' := (wd_c_X0_voice h0_1 h0_1_0 h0_1_f1 h0_1_f2 h0_1_f3 h0_1_0 h0_1_0k h0_1_0c)) [1, 5] rfl
      have hDc := hD.sub (ws' := (wd_c_X0_voice h0_1 h0_1_0 h0_1_f1 h0_1_f2 h0_1_f3 h0_1_0 h0_1_0k h0_1_0c)) [1, 5] (by decide) rfl
      have hKc := hK.sub (tys' := [(h0_1_0k, .int)]) [2] rfl
      have hFc := va_free (wc := (wd_c_X0_voice h0_1 h0_1_0 h0_1_f1 h0_1_f2 h0_1_f3 h0_1_0 h0_1_0k h0_1_0c)) hD hS hA [1, 5] rfl
      refine va_calli (va_runV (As := [.int p1]) (rest := []) ⟨hx, hb, hml, hown, hts⟩ (c_X0_voice l dC dI H.size h0_1 p1 h0_1_0 h0_1_f1 h0_1_f2 h0_1_f3 h0_1_0k h0_1_0c h_6 g_h0_1_f1 (RG_w h_5 (by decide)) g_h0_1_f3 a_h0_1_0c) (cwV 1 hts gf_c_X11_boat_c_X0_voice rfl rfl rfl (by decide +kernel) ⟨Nat.le_of_ble_eq_true rfl, Nat.le_of_ble_eq_true rfl⟩) ⟨fun a U g mk q => by obtain ⟨q0, q1, qP, qK, qD⟩ := q; exact ⟨q0, q1, qP, va_K.moved (u := U) (U := U.calling g mk a) (Vm.Alike.refl U.vm) qK, qD⟩, va_recv hKc hPc (ci := 0) (q0 := 0) rfl rfl, fun U hU hW => ⟨rfl, by rw [hU], by rw [hU]; exact hPc, va_K.moved hW.alike hKc, hDc.weaken (fun _ _ _ _ => trivial)⟩⟩ rfl rfl hl.1 rfl (lv_room (Nat.le_of_ble_eq_true rfl)) dX11_boat_90 ⟨Nat.le_of_ble_eq_true rfl, Nat.le_of_ble_eq_true rfl⟩) hS (fun q _ h => hFc q h) hFc (fun r_21 u t H1 locs ht hvm hw hB hz1 hk1 hS => ?_)
      obtain ⟨hP1, hK1, hD1⟩ := hB
      rw [ht] at hP1
      obtain ⟨hP, hD⟩ := va_join (wr := [(h0, .inr (11, [.ref h0_0, .ref h0_1, .ref h0_2, .ref h0_3, .ref h0_4, .int h0_f5, .ref h0_6, .ref h0_7, .ref h0_8, .ref h0_9, .ref h0_10, .ref h0_11, .ref h0_12, .ref h0_13, .ref h0_14, .long h0_f15])), (h0_7, .inr (7, [.int h0_7_f0, .int h0_7_f1, .int h0_7_f2, .int h0_7_f3, .ref h0_7_4, .ref h0_7_5, .ref h0_7_6, .ref h0_7_7, .ref h0_7_8, .ref h0_7_9, .ref h0_7_10, .ref h0_7_11, .ref h0_7_12])), (h0_7_4, .inl (h0_7_4k, 3, .inl h0_7_4c)), (h0_7_5, .inl (h0_7_5k, 3, .inl h0_7_5c)), (h0_7_6, .inl (h0_7_6k, 3, .inl h0_7_6c)), (h0_7_7, .inl (h0_7_7k, 3, .inl h0_7_7c)), (h0_7_8, .inl (h0_7_8k, 3, .inl h0_7_8c)), (h0_7_9, .inl (h0_7_9k, 3, .inl h0_7_9c))]) (w1 := (wd_c_X0_voice h0_1 h0_1_0 h0_1_f1 h0_1_f2 h0_1_f3 h0_1_0 h0_1_0k h0_1_0c)) hP hD [1, 5] [0, 2, 3, 4, 6, 7, 8, 9] rfl rfl (by decide) (by decide) hk1 hFc hP1 hD1
      have hP := hP.sub (ws' := (wd_c_X11_boat h0 h0_0 h0_1 h0_2 h0_3 h0_4 h0_f5 h0_6 h0_7 h0_8 h0_9 h0_10 h0_11 h0_12 h0_13 h0_14 h0_f15 h0_1 h0_1_0 h0_1_f1 h0_1_f2 h0_1_f3 h0_7 h0_7_f0 h0_7_f1 h0_7_f2 h0_7_f3 h0_7_4 h0_7_5 h0_7_6 h0_7_7 h0_7_8 h0_7_9 h0_7_10 h0_7_11 h0_7_12 h0_7_4 h0_7_4k h0_7_4c h0_7_5 h0_7_5k h0_7_5c h0_1_0 h0_1_0k h0_1_0c h0_7_6 h0_7_6k h0_7_6c h0_7_7 h0_7_7k h0_7_7c h0_7_8 h0_7_8k h0_7_8c h0_7_9 h0_7_9k h0_7_9c)) [0, 8, 1, 2, 3, 9, 4, 5, 6, 7] rfl
      have hD := hD.sub (ws' := (wd_c_X11_boat h0 h0_0 h0_1 h0_2 h0_3 h0_4 h0_f5 h0_6 h0_7 h0_8 h0_9 h0_10 h0_11 h0_12 h0_13 h0_14 h0_f15 h0_1 h0_1_0 h0_1_f1 h0_1_f2 h0_1_f3 h0_7 h0_7_f0 h0_7_f1 h0_7_f2 h0_7_f3 h0_7_4 h0_7_5 h0_7_6 h0_7_7 h0_7_8 h0_7_9 h0_7_10 h0_7_11 h0_7_12 h0_7_4 h0_7_4k h0_7_4c h0_7_5 h0_7_5k h0_7_5c h0_1_0 h0_1_0k h0_1_0c h0_7_6 h0_7_6k h0_7_6c h0_7_7 h0_7_7k h0_7_7c h0_7_8 h0_7_8k h0_7_8c h0_7_9 h0_7_9k h0_7_9c)) [0, 8, 1, 2, 3, 9, 4, 5, 6, 7] (by decide) rfl
      generalize H1 = H at hP hS ⊢
      have h_22 := hw
      have hK9 := hK.sub (tys' := []) [] rfl
      exact W.iret (v := r_21) hx hb hr (fun t ht hW => ⟨⟨r_21, (), rfl, (Or.inr ⟨(RG_w h_22 (by decide)), h_5, h_6, (RG_w g_20 (by decide))⟩), by rw [ht]; exact hP, va_K.moved hW.alike hK9, hD⟩, hS.F ht⟩) hS.2.2 dX11_boat_93
    by_cases c_23 : p2 = 4
    · have hsw : p2.toInt = 4 := by rw [c_23]; rfl
      refine lv_tableIn (off := 83) (tgt := 94) hx hb dX11_boat_11 (by rw [hsw]; decide) (by rw [hsw]; decide) (by rw [hsw]; decide) (by decide) ?_
      have g_24 : RG p2 4 4 := RG_k _ _ hsw
      refine lv_aload_n hx hb dX11_boat_94 rfl (lv_at hl 0 rfl) ?_
      refine va_get (D := (dC, dI)) (ci := 11) (v := .ref h0_7) (C := RX11) (T := TX11) (N := 16) hx hb hts iw_c_X11_boat_X11 hown hK hP 0 rfl rfl 7 (by decide) (hts (.fieldLink RX11 52 "BuoyVote" "now" "LBuoyVote$Sea;") (List.mem_of_getElem? (i := 8) rfl)) (fun _ h9 => h9) rfl dX11_boat_95 ?_
      refine va_get (D := (dC, dI)) (ci := 7) (v := .ref h0_7_6) (C := RX7) (T := TX7) (N := 13) hx hb hts iw_c_X11_boat_X7 hown hK hP 2 rfl rfl 6 (by decide) (hts (.fieldLink RX11 206 "BuoyVote$Sea" "goalX" "[I") (List.mem_of_getElem? (i := 21) rfl)) (fun _ h9 => h9) rfl dX11_boat_98 ?_
      refine lv_iload_n hx hb dX11_boat_101 rfl (lv_at hl 1 rfl) ?_
      refine va_iald hx hb hK hP 6 3 rfl rfl (RG_in h_6 (by decide)) dX11_boat_102 ?_
      refine lv_topi (fun x_25 ex_25 => ?_)
      have hK9 := hK.sub (tys' := []) [] rfl
      exact W.iret (v := x_25) hx hb hr (fun t ht hW => ⟨⟨x_25, (), rfl, (Or.inr ⟨(RG_any x_25), h_5, h_6, (RG_w g_24 (by decide))⟩), by rw [ht]; exact hP, va_K.moved hW.alike hK9, hD⟩, hS.F ht⟩) hS.2.2 dX11_boat_103
    by_cases c_26 : p2 = 5
    · have hsw : p2.toInt = 5 := by rw [c_26]; rfl
      refine lv_tableIn (off := 93) (tgt := 104) hx hb dX11_boat_11 (by rw [hsw]; decide) (by rw [hsw]; decide) (by rw [hsw]; decide) (by decide) ?_
      have g_27 : RG p2 5 5 := RG_k _ _ hsw
      refine lv_aload_n hx hb dX11_boat_104 rfl (lv_at hl 0 rfl) ?_
      refine va_get (D := (dC, dI)) (ci := 11) (v := .ref h0_7) (C := RX11) (T := TX11) (N := 16) hx hb hts iw_c_X11_boat_X11 hown hK hP 0 rfl rfl 7 (by decide) (hts (.fieldLink RX11 52 "BuoyVote" "now" "LBuoyVote$Sea;") (List.mem_of_getElem? (i := 8) rfl)) (fun _ h9 => h9) rfl dX11_boat_105 ?_
      refine va_get (D := (dC, dI)) (ci := 7) (v := .ref h0_7_7) (C := RX7) (T := TX7) (N := 13) hx hb hts iw_c_X11_boat_X7 hown hK hP 2 rfl rfl 7 (by decide) (hts (.fieldLink RX11 209 "BuoyVote$Sea" "goalY" "[I") (List.mem_of_getElem? (i := 22) rfl)) (fun _ h9 => h9) rfl dX11_boat_108 ?_
      refine lv_iload_n hx hb dX11_boat_111 rfl (lv_at hl 1 rfl) ?_
      refine va_iald hx hb hK hP 7 4 rfl rfl (RG_in h_6 (by decide)) dX11_boat_112 ?_
      refine lv_topi (fun x_28 ex_28 => ?_)
      have hK9 := hK.sub (tys' := []) [] rfl
      exact W.iret (v := x_28) hx hb hr (fun t ht hW => ⟨⟨x_28, (), rfl, (Or.inr ⟨(RG_any x_28), h_5, h_6, (RG_w g_27 (by decide))⟩), by rw [ht]; exact hP, va_K.moved hW.alike hK9, hD⟩, hS.F ht⟩) hS.2.2 dX11_boat_113
    by_cases c_29 : p2 = 6
    · have hsw : p2.toInt = 6 := by rw [c_29]; rfl
      refine lv_tableIn (off := 103) (tgt := 114) hx hb dX11_boat_11 (by rw [hsw]; decide) (by rw [hsw]; decide) (by rw [hsw]; decide) (by decide) ?_
      have g_30 : RG p2 6 6 := RG_k _ _ hsw
      refine lv_aload_n hx hb dX11_boat_114 rfl (lv_at hl 0 rfl) ?_
      refine va_get (D := (dC, dI)) (ci := 11) (v := .ref h0_7) (C := RX11) (T := TX11) (N := 16) hx hb hts iw_c_X11_boat_X11 hown hK hP 0 rfl rfl 7 (by decide) (hts (.fieldLink RX11 52 "BuoyVote" "now" "LBuoyVote$Sea;") (List.mem_of_getElem? (i := 8) rfl)) (fun _ h9 => h9) rfl dX11_boat_115 ?_
      refine va_get (D := (dC, dI)) (ci := 7) (v := .ref h0_7_8) (C := RX7) (T := TX7) (N := 13) hx hb hts iw_c_X11_boat_X7 hown hK hP 2 rfl rfl 8 (by decide) (hts (.fieldLink RX11 212 "BuoyVote$Sea" "won" "[I") (List.mem_of_getElem? (i := 23) rfl)) (fun _ h9 => h9) rfl dX11_boat_118 ?_
      refine lv_iload_n hx hb dX11_boat_121 rfl (lv_at hl 1 rfl) ?_
      refine va_iald hx hb hK hP 8 5 rfl rfl (RG_in h_6 (by decide)) dX11_boat_122 ?_
      refine lv_topi (fun x_31 ex_31 => ?_)
      have hK9 := hK.sub (tys' := []) [] rfl
      exact W.iret (v := x_31) hx hb hr (fun t ht hW => ⟨⟨x_31, (), rfl, (Or.inr ⟨(RG_any x_31), h_5, h_6, (RG_w g_30 (by decide))⟩), by rw [ht]; exact hP, va_K.moved hW.alike hK9, hD⟩, hS.F ht⟩) hS.2.2 dX11_boat_123
    by_cases c_32 : p2 = 7
    · have hsw : p2.toInt = 7 := by rw [c_32]; rfl
      refine lv_tableIn (off := 113) (tgt := 124) hx hb dX11_boat_11 (by rw [hsw]; decide) (by rw [hsw]; decide) (by rw [hsw]; decide) (by decide) ?_
      have g_33 : RG p2 7 7 := RG_k _ _ hsw
      refine lv_aload_n hx hb dX11_boat_124 rfl (lv_at hl 0 rfl) ?_
      refine va_get (D := (dC, dI)) (ci := 11) (v := .ref h0_7) (C := RX11) (T := TX11) (N := 16) hx hb hts iw_c_X11_boat_X11 hown hK hP 0 rfl rfl 7 (by decide) (hts (.fieldLink RX11 52 "BuoyVote" "now" "LBuoyVote$Sea;") (List.mem_of_getElem? (i := 8) rfl)) (fun _ h9 => h9) rfl dX11_boat_125 ?_
      refine va_get (D := (dC, dI)) (ci := 7) (v := .ref h0_7_9) (C := RX7) (T := TX7) (N := 13) hx hb hts iw_c_X11_boat_X7 hown hK hP 2 rfl rfl 9 (by decide) (hts (.fieldLink RX11 215 "BuoyVote$Sea" "sang" "[I") (List.mem_of_getElem? (i := 24) rfl)) (fun _ h9 => h9) rfl dX11_boat_128 ?_
      refine lv_iload_n hx hb dX11_boat_131 rfl (lv_at hl 1 rfl) ?_
      refine va_iald hx hb hK hP 9 6 rfl rfl (RG_in h_6 (by decide)) dX11_boat_132 ?_
      refine lv_topi (fun x_34 ex_34 => ?_)
      have hK9 := hK.sub (tys' := []) [] rfl
      exact W.iret (v := x_34) hx hb hr (fun t ht hW => ⟨⟨x_34, (), rfl, (Or.inr ⟨(RG_any x_34), h_5, h_6, (RG_w g_33 (by decide))⟩), by rw [ht]; exact hP, va_K.moved hW.alike hK9, hD⟩, hS.F ht⟩) hS.2.2 dX11_boat_133
    have hsw : p2.toInt < 0 ∨ 7 < p2.toInt := by
      have zc_9 := lv_neT c_9 (a := 0) (by decide)
      have zc_12 := lv_neT c_12 (a := 1) (by decide)
      have zc_15 := lv_neT c_15 (a := 2) (by decide)
      have zc_19 := lv_neT c_19 (a := 3) (by decide)
      have zc_23 := lv_neT c_23 (a := 4) (by decide)
      have zc_26 := lv_neT c_26 (a := 5) (by decide)
      have zc_29 := lv_neT c_29 (a := 6) (by decide)
      have zc_32 := lv_neT c_32 (a := 7) (by decide)
      have zg1 := ((RG_any p2)).1
      have zg2 := ((RG_any p2)).2
      omega
    refine lv_tableOut (tgt := 134) hx hb dX11_boat_11 hsw (by decide) ?_
    refine lv_iconst (v := (-1)) hx hb dX11_boat_134 kc_iconst_m1 ?_
    have hK9 := hK.sub (tys' := []) [] rfl
    exact W.iret (v := (-1)) hx hb hr (fun t ht hW => ⟨⟨(-1), (), rfl, (Or.inl rfl), by rw [ht]; exact hP, va_K.moved hW.alike hK9, hD⟩, hS.F ht⟩) hS.2.2 dX11_boat_135
def wf_c_X11_isWithin_1 : List Cond := .code yX11_isWithin cX11_isWithin 3 (some .boolean) :: ([])
set_option maxHeartbeats 4000000 in
set_option maxRecDepth 100000 in
theorem c_X11_isWithin_1 (l : Launch) (dC : Nat → ClassId) (dI : Nat → Nat → Nat) (sz : Nat) (p0 : Int32) (p2 : Int32) (g_p2 : RG p2 (-1) 3) : Met l yX11_isWithin wf_c_X11_isWithin_1 ({ frames := 0, cells := 0, slots := 0, locals := 0 }) (va_Pc [.int p0, .int (-1), .int p2] (fun U => U.heap.size = sz ∧ va_P (dC, dI) vwCl [] U.heap ∧ va_K (dC, dI) vwCl [] U ∧ va_D (fun _ => True) [])) (va_Qi (fun (r : Int32) (u : Unit) => (r = 0 ∧ RG p0 (-2147483648) 2147483647) ∨ (r = 1 ∧ RG p0 (-1) 3 ∧ p0.toInt ≤ p2.toInt + 0)) (fun (u : Unit) t => va_P (dC, dI) vwCl [] t.heap ∧ va_K (dC, dI) vwCl [] t ∧ va_D (va_A [] sz) []) (va_A [] sz)) 0 0 (va_A [] sz) := by
  refine Met.ofW (cc := cX11_isWithin) (maxL := 3) (ret := (some .boolean)) (by decide) rfl ?_
  intro p e s m args below meth c s₁ B hml hv
  obtain ⟨rfl, hsz, hP, hK, hD0⟩ := hv
  have hx := B.exec
  have hb := B.bytes
  have hr := B.returns
  have hts := atoms_spec (ws := wf_c_X11_isWithin_1) B.pre
  have hown : s.vm.findClass RX11 = some m.cls := findClass_of_methodNamed B.named
  have hlocks := B.notSynchronized
  subst hsz
  have hD := hD0.self (sz := s.heap.size)
  generalize hAe : va_A [] s.heap.size = A at hD ⊢
  have hA : ∀ q : Nat, s.heap.size ≤ q → A q := fun q h => by rw [← hAe]; exact Or.inr h
  have hP : va_P (dC, dI) vwCl [] s.heap := hP
  have hl := lv_entry ([.int p0, .int (-1), .int p2]) (n := 3) (Nat.le_of_ble_eq_true rfl)
  rw [lg_entry_eq]
  generalize (lg_sl ([.int p0, .int (-1), .int p2]) ++ List.replicate (3 - (lg_sl ([.int p0, .int (-1), .int p2])).length) Slot.unset).toArray = ls at hl ⊢
  have hl : lv_has ls 3 [(0, .int p0), (1, .int (-1)), (2, .int p2)] := hl
  obtain ⟨H, hHe⟩ : ∃ H : Heap, s.heap = H := ⟨_, rfl⟩
  have hS : va_S A s.heap H [] := by rw [hHe]; exact va_S.rf
  have hP : va_P (dC, dI) vwCl [] H := by rw [← hHe]; exact hP
  rw [hHe]
  refine lv_iload_n hx hb dX11_isWithin_0 rfl (lv_at hl 0 rfl) ?_
  refine lv_iload_n hx hb dX11_isWithin_1 rfl (lv_at hl 1 rfl) ?_
  refine lv_icmp_lt (tgt := 14) hx hb dX11_isWithin_2 rfl (fun c_1 => ?_) (fun c_1 => ?_)
  · have g_2 : RG p0 (-2147483648) (-2) := RG_lt1 (RG_any p0) (RG_k (-1) (-1) rfl) c_1 (by decide)
    refine lv_iconst (v := 0) hx hb dX11_isWithin_14 kc_iconst_0 ?_
    have hK9 := hK.sub (tys' := []) [] rfl
    exact W.zret (v := 0) hx hb hr rfl (fun t ht hW => ⟨⟨0, (), rfl, (Or.inl ⟨rfl, (RG_w g_2 (by decide))⟩), by rw [ht]; exact hP, va_K.moved hW.alike hK9, hD⟩, hS.F ht⟩) hS.2.2 dX11_isWithin_15
  · have d_3 := Int32.not_lt.mp c_1
    have g_4 : RG p0 (-1) 2147483647 := RG_le2 (RG_k (-1) (-1) rfl) (RG_any p0) d_3 (by decide)
    refine lv_iload_n hx hb dX11_isWithin_5 rfl (lv_at hl 0 rfl) ?_
    refine lv_iload_n hx hb dX11_isWithin_6 rfl (lv_at hl 2 rfl) ?_
    refine lv_icmp_gt (tgt := 14) hx hb dX11_isWithin_7 rfl (fun c_5 => ?_) (fun c_5 => ?_)
    · have b_6 : p2.toInt ≤ p0.toInt + (-1) := by have := Int32.lt_iff_toInt_lt.mp c_5; omega
      have g_7 : RG p0 0 2147483647 := RG_lt2 g_p2 g_4 c_5 (by decide)
      refine lv_iconst (v := 0) hx hb dX11_isWithin_14 kc_iconst_0 ?_
      have hK9 := hK.sub (tys' := []) [] rfl
      exact W.zret (v := 0) hx hb hr rfl (fun t ht hW => ⟨⟨0, (), rfl, (Or.inl ⟨rfl, (RG_w g_7 (by decide))⟩), by rw [ht]; exact hP, va_K.moved hW.alike hK9, hD⟩, hS.F ht⟩) hS.2.2 dX11_isWithin_15
    · have d_8 := Int32.not_lt.mp c_5
      have b_9 : p0.toInt ≤ p2.toInt + 0 := by have := Int32.le_iff_toInt_le.mp d_8; omega
      have g_10 : RG p0 (-1) 3 := RG_le1 g_4 g_p2 d_8 (by decide)
      refine lv_iconst (v := 1) hx hb dX11_isWithin_10 kc_iconst_1 ?_
      refine lv_goto (tgt := 15) hx hb dX11_isWithin_11 rfl ?_
      have hK9 := hK.sub (tys' := []) [] rfl
      exact W.zret (v := 1) hx hb hr rfl (fun t ht hW => ⟨⟨1, (), rfl, (Or.inr ⟨rfl, g_10, (by have := b_9; have := (g_10).2; have := (g_p2).1; show p0.toInt ≤ p2.toInt + 0; omega)⟩), by rw [ht]; exact hP, va_K.moved hW.alike hK9, hD⟩, hS.F ht⟩) hS.2.2 dX11_isWithin_15
def wd_c_X11_law (a0 : Nat) (a1 : Nat) (a2 : Nat) (a3 : Nat) (a4 : Nat) (a5 : Nat) (a6 : Int32) (a7 : Nat) (a8 : Nat) (a9 : Nat) (a10 : Nat) (a11 : Nat) (a12 : Nat) (a13 : Nat) (a14 : Nat) (a15 : Nat) (a16 : Int64) (a17 : Nat) (a18 : Nat) (a19 : Int32) (a20 : Int32) (a21 : Nat) : va_W := [(a0, .inr (11, [.ref a1, .ref a2, .ref a3, .ref a4, .ref a5, .int a6, .ref a7, .ref a8, .ref a9, .ref a10, .ref a11, .ref a12, .ref a13, .ref a14, .ref a15, .long a16])), (a17, .inr (5, [.ref a18, .int a19, .int a20, .ref a21]))]
def wf_c_X11_law : List Cond := .code yX11_law cX11_law 2 (some .boolean) :: ([.fieldLink RX11 29 "BuoyVote" "laws" "LBuoyVote$LawBook;", .fieldLink RX11 218 "BuoyVote$LawBook" "size" "I", .methodLink RX11 111 yX11_isWithin, .static yX11_isWithin, .initialized RX11, .code yX11_isWithin cX11_isWithin 3 (some .boolean), .fieldLink RX11 221 "BuoyVote$LawBook" "holding" "I"] ++ wsX110 ++ wsX50)
theorem iw_c_X11_law_X11 : ∀ w ∈ wsX110, w ∈ wf_c_X11_law := fun w h => List.mem_cons_of_mem _ (List.mem_append_left _ (List.mem_append_right _ h))
theorem iw_c_X11_law_X5 : ∀ w ∈ wsX50, w ∈ wf_c_X11_law := fun w h => List.mem_cons_of_mem _ (List.mem_append_right _ h)
set_option maxRecDepth 20000 in
theorem gf_c_X11_law_c_X11_isWithin_1 : GoodIn wf_c_X11_law (va_wsS RX11 111 yX11_isWithin wf_c_X11_isWithin_1) := goodIn_app (gi_cons (j := 3) rfl rfl (gi_cons (j := 4) rfl rfl (gi_cons (j := 5) rfl rfl (gi_nil)))) (gi_cons (j := 6) rfl rfl (gi_nil))
set_option maxHeartbeats 4000000 in
set_option maxRecDepth 100000 in
theorem c_X11_law (l : Launch) (dC : Nat → ClassId) (dI : Nat → Nat → Nat) (sz : Nat) (h0 : Nat) (p1 : Int32) (h0_0 : Nat) (h0_1 : Nat) (h0_2 : Nat) (h0_3 : Nat) (h0_4 : Nat) (h0_f5 : Int32) (h0_6 : Nat) (h0_7 : Nat) (h0_8 : Nat) (h0_9 : Nat) (h0_10 : Nat) (h0_11 : Nat) (h0_12 : Nat) (h0_13 : Nat) (h0_14 : Nat) (h0_f15 : Int64) (h0_3_0 : Nat) (h0_3_f1 : Int32) (h0_3_f2 : Int32) (h0_3_3 : Nat) (g_h0_f5 : RG h0_f5 0 4) (g_h0_3_f1 : RG h0_3_f1 0 4) : Met l yX11_law wf_c_X11_law ({ frames := 1, cells := 0, slots := 0, locals := 22 }) (va_Pc [.ref h0, .int p1] (fun U => U.heap.size = sz ∧ va_P (dC, dI) vwCl (wd_c_X11_law h0 h0_0 h0_1 h0_2 h0_3 h0_4 h0_f5 h0_6 h0_7 h0_8 h0_9 h0_10 h0_11 h0_12 h0_13 h0_14 h0_f15 h0_3 h0_3_0 h0_3_f1 h0_3_f2 h0_3_3) U.heap ∧ va_K (dC, dI) vwCl [] U ∧ va_D (fun _ => True) (wd_c_X11_law h0 h0_0 h0_1 h0_2 h0_3 h0_4 h0_f5 h0_6 h0_7 h0_8 h0_9 h0_10 h0_11 h0_12 h0_13 h0_14 h0_f15 h0_3 h0_3_0 h0_3_f1 h0_3_f2 h0_3_3))) (va_Qi (fun (r : Int32) (u : (Int32)) => (r = 0) ∨ (r = 1 ∧ RG u (-1) 3 ∧ RG p1 (-1) 3)) (fun (u : (Int32)) t => va_P (dC, dI) vwCl (wd_c_X11_law h0 h0_0 h0_1 h0_2 h0_3 h0_4 h0_f5 h0_6 h0_7 h0_8 h0_9 h0_10 h0_11 h0_12 h0_13 h0_14 h0_f15 h0_3 h0_3_0 h0_3_f1 u h0_3_3) t.heap ∧ va_K (dC, dI) vwCl [] t ∧ va_D (va_A (wd_c_X11_law h0 h0_0 h0_1 h0_2 h0_3 h0_4 h0_f5 h0_6 h0_7 h0_8 h0_9 h0_10 h0_11 h0_12 h0_13 h0_14 h0_f15 h0_3 h0_3_0 h0_3_f1 h0_3_f2 h0_3_3) sz) (wd_c_X11_law h0 h0_0 h0_1 h0_2 h0_3 h0_4 h0_f5 h0_6 h0_7 h0_8 h0_9 h0_10 h0_11 h0_12 h0_13 h0_14 h0_f15 h0_3 h0_3_0 h0_3_f1 u h0_3_3)) (va_A (wd_c_X11_law h0 h0_0 h0_1 h0_2 h0_3 h0_4 h0_f5 h0_6 h0_7 h0_8 h0_9 h0_10 h0_11 h0_12 h0_13 h0_14 h0_f15 h0_3 h0_3_0 h0_3_f1 h0_3_f2 h0_3_3) sz)) 0 0 (va_A (wd_c_X11_law h0 h0_0 h0_1 h0_2 h0_3 h0_4 h0_f5 h0_6 h0_7 h0_8 h0_9 h0_10 h0_11 h0_12 h0_13 h0_14 h0_f15 h0_3 h0_3_0 h0_3_f1 h0_3_f2 h0_3_3) sz) := by
  refine Met.ofW (cc := cX11_law) (maxL := 2) (ret := (some .boolean)) (by decide) rfl ?_
  intro p e s m args below meth c s₁ B hml hv
  obtain ⟨rfl, hsz, hP, hK, hD0⟩ := hv
  have hx := B.exec
  have hb := B.bytes
  have hr := B.returns
  have hts := atoms_spec (ws := wf_c_X11_law) B.pre
  have hown : s.vm.findClass RX11 = some m.cls := findClass_of_methodNamed B.named
  have hlocks := B.notSynchronized
  subst hsz
  have hD := hD0.self (sz := s.heap.size)
  generalize hAe : va_A (wd_c_X11_law h0 h0_0 h0_1 h0_2 h0_3 h0_4 h0_f5 h0_6 h0_7 h0_8 h0_9 h0_10 h0_11 h0_12 h0_13 h0_14 h0_f15 h0_3 h0_3_0 h0_3_f1 h0_3_f2 h0_3_3) s.heap.size = A at hD ⊢
  have hA : ∀ q : Nat, s.heap.size ≤ q → A q := fun q h => by rw [← hAe]; exact Or.inr h
  have hP : va_P (dC, dI) vwCl (wd_c_X11_law h0 h0_0 h0_1 h0_2 h0_3 h0_4 h0_f5 h0_6 h0_7 h0_8 h0_9 h0_10 h0_11 h0_12 h0_13 h0_14 h0_f15 h0_3 h0_3_0 h0_3_f1 h0_3_f2 h0_3_3) s.heap := hP
  have hl := lv_entry ([.ref h0, .int p1]) (n := 2) (Nat.le_of_ble_eq_true rfl)
  rw [lg_entry_eq]
  generalize (lg_sl ([.ref h0, .int p1]) ++ List.replicate (2 - (lg_sl ([.ref h0, .int p1])).length) Slot.unset).toArray = ls at hl ⊢
  have hl : lv_has ls 2 [(0, .ref h0), (1, .int p1)] := hl
  obtain ⟨H, hHe⟩ : ∃ H : Heap, s.heap = H := ⟨_, rfl⟩
  have hS : va_S A s.heap H [] := by rw [hHe]; exact va_S.rf
  have hP : va_P (dC, dI) vwCl (wd_c_X11_law h0 h0_0 h0_1 h0_2 h0_3 h0_4 h0_f5 h0_6 h0_7 h0_8 h0_9 h0_10 h0_11 h0_12 h0_13 h0_14 h0_f15 h0_3 h0_3_0 h0_3_f1 h0_3_f2 h0_3_3) H := by rw [← hHe]; exact hP
  rw [hHe]
  refine lv_iload_n hx hb dX11_law_0 rfl (lv_at hl 1 rfl) ?_
  refine lv_iconst (v := (-1)) hx hb dX11_law_1 kc_iconst_m1 ?_
  refine lv_aload_n hx hb dX11_law_2 rfl (lv_at hl 0 rfl) ?_
  refine va_get (D := (dC, dI)) (ci := 11) (v := .ref h0_3) (C := RX11) (T := TX11) (N := 16) hx hb hts iw_c_X11_law_X11 hown hK hP 0 rfl rfl 3 (by decide) (hts (.fieldLink RX11 29 "BuoyVote" "laws" "LBuoyVote$LawBook;") (List.mem_of_getElem? (i := 1) rfl)) (fun _ h9 => h9) rfl dX11_law_3 ?_
  refine va_get (D := (dC, dI)) (ci := 5) (v := .int h0_3_f1) (C := RX5) (T := TX5) (N := 4) hx hb hts iw_c_X11_law_X5 hown hK hP 1 rfl rfl 1 (by decide) (hts (.fieldLink RX11 218 "BuoyVote$LawBook" "size" "I") (List.mem_of_getElem? (i := 2) rfl)) (fun _ h9 => h9) rfl dX11_law_6 ?_
  refine lv_iconst (v := 1) hx hb dX11_law_9 kc_iconst_1 ?_
  refine lv_isub hx hb dX11_law_10 ?_
  refine lv_topi (fun x_1 ex_1 => ?_)
  have g_2 : RG x_1 (-1) 3 := RG_sub ex_1 g_h0_3_f1 (RG_k 1 1 rfl) (by decide)
  have hPc := hP.sub (ws' := []) [] rfl
  have hDc := hD.sub (ws' := []) [] (by decide) rfl
  have hKc := hK.sub (tys' := []) [] rfl
  have hFc := va_free (wc := []) hD hS hA [] rfl
  refine va_calli (va_runS (As := [.int p1, .int (-1), .int x_1]) (rest := []) ⟨hx, hb, hml, hown, hts⟩ (c_X11_isWithin_1 l dC dI H.size p1 x_1 g_2) (va_cwS 3 hts gf_c_X11_law_c_X11_isWithin_1 rfl rfl rfl (by decide +kernel) ⟨Nat.le_of_ble_eq_true rfl, Nat.le_of_ble_eq_true rfl⟩) ⟨fun a U g mk q => by obtain ⟨q0, q1, qP, qK, qD⟩ := q; exact ⟨q0, q1, qP, va_K.moved (u := U) (U := U.calling g mk a) (Vm.Alike.refl U.vm) qK, qD⟩, fun U hU hW => ⟨rfl, by rw [hU], by rw [hU]; exact hPc, va_K.moved hW.alike hKc, hDc.weaken (fun _ _ _ _ => trivial)⟩⟩ rfl rfl hl.1 rfl (lv_room (Nat.le_of_ble_eq_true rfl)) dX11_law_11 ⟨Nat.le_of_ble_eq_true rfl, Nat.le_of_ble_eq_true rfl⟩) hS (fun q _ h => hFc q h) hFc (fun r_3 u t H1 locs ht hvm hw hB hz1 hk1 hS => ?_)
  obtain ⟨hP1, hK1, hD1⟩ := hB
  rw [ht] at hP1
  have hP := bv_still hP hk1
  generalize H1 = H at hP hS ⊢
  rcases hw with ⟨h_4, h_5⟩ | ⟨h_6, h_7, h_8⟩
  · rw [h_4]
    refine lv_if_ne (tgt := 19) hx hb dX11_law_14 rfl (fun c_9 => absurd c_9 (by decide)) (fun c_9 => ?_)
    refine lv_iconst (v := 0) hx hb dX11_law_17 kc_iconst_0 ?_
    have hK9 := hK.sub (tys' := []) [] rfl
    exact W.zret (v := 0) hx hb hr rfl (fun t ht hW => ⟨⟨0, h0_3_f2, rfl, (Or.inl rfl), by rw [ht]; exact hP, va_K.moved hW.alike hK9, hD⟩, hS.F ht⟩) hS.2.2 dX11_law_18
  · rw [h_6]
    refine lv_if_ne (tgt := 19) hx hb dX11_law_14 rfl (fun c_10 => ?_) (fun c_10 => absurd c_10 (by decide))
    refine lv_aload_n hx hb dX11_law_19 rfl (lv_at hl 0 rfl) ?_
    refine va_get (D := (dC, dI)) (ci := 11) (v := .ref h0_3) (C := RX11) (T := TX11) (N := 16) hx hb hts iw_c_X11_law_X11 hown hK hP 0 rfl rfl 3 (by decide) (hts (.fieldLink RX11 29 "BuoyVote" "laws" "LBuoyVote$LawBook;") (List.mem_of_getElem? (i := 1) rfl)) (fun _ h9 => h9) rfl dX11_law_20 ?_
    refine lv_iload_n hx hb dX11_law_23 rfl (lv_at hl 1 rfl) ?_
    refine va_put (D := (dC, dI)) (ci := 5) (v := .int p1) (ty := .int) (C := RX5) (T := TX5) (N := 4) hx hb hts iw_c_X11_law_X5 tyX5 tyX5_ok nmX5 hown hK hP hD hS 1 rfl rfl 2 (by decide) (hts (.fieldLink RX11 221 "BuoyVote$LawBook" "holding" "I") (List.mem_of_getElem? (i := 7) rfl)) (fun _ h9 => h9) rfl (by decide +kernel) rfl rfl (Nat.le_of_ble_eq_true rfl) dX11_law_24 (fun H locs hP hD hS => ?_)
    have hP : va_P (dC, dI) vwCl (wd_c_X11_law h0 h0_0 h0_1 h0_2 h0_3 h0_4 h0_f5 h0_6 h0_7 h0_8 h0_9 h0_10 h0_11 h0_12 h0_13 h0_14 h0_f15 h0_3 h0_3_0 h0_3_f1 p1 h0_3_3) H := hP
    have hD : va_D A (wd_c_X11_law h0 h0_0 h0_1 h0_2 h0_3 h0_4 h0_f5 h0_6 h0_7 h0_8 h0_9 h0_10 h0_11 h0_12 h0_13 h0_14 h0_f15 h0_3 h0_3_0 h0_3_f1 p1 h0_3_3) := hD
    refine lv_iconst (v := 1) hx hb dX11_law_27 kc_iconst_1 ?_
    have hK9 := hK.sub (tys' := []) [] rfl
    exact W.zret (v := 1) hx hb hr rfl (fun t ht hW => ⟨⟨1, p1, rfl, (Or.inr ⟨rfl, h_7, h_7⟩), by rw [ht]; exact hP, va_K.moved hW.alike hK9, hD⟩, hS.F ht⟩) hS.2.2 dX11_law_28
def wd_c_X7_logLength_1 (a0 : Nat) (a1 : Int32) (a2 : Int32) (a3 : Int32) (a4 : Int32) (a5 : Nat) (a6 : Nat) (a7 : Nat) (a8 : Nat) (a9 : Nat) (a10 : Nat) (a11 : Nat) (a12 : Nat) (a13 : Nat) : va_W := [(a0, .inr (7, [.int a1, .int a2, .int a3, .int a4, .ref a5, .ref a6, .ref a7, .ref a8, .ref a9, .ref a10, .ref a11, .ref a12, .ref a13]))]
def wf_c_X7_logLength_1 : List Cond := .code yX7_logLength cX7_logLength 1 (some .int) :: ([.fieldLink RX7 58 "BuoyVote$Sea" "logged" "I", .methodLink RX7 94 Lib.Math.min.name, .static Lib.Math.min.name, .initialized "java/lang/Math", .code Lib.Math.min.name Lib.Math.min.code 2 (some .int)] ++ wsX70)
theorem iw_c_X7_logLength_1_X7 : ∀ w ∈ wsX70, w ∈ wf_c_X7_logLength_1 := fun w h => List.mem_cons_of_mem _ (List.mem_append_right _ h)
set_option maxHeartbeats 4000000 in
set_option maxRecDepth 100000 in
theorem c_X7_logLength_1 (l : Launch) (dC : Nat → ClassId) (dI : Nat → Nat → Nat) (sz : Nat) (h0 : Nat) (h0_f0 : Int32) (h0_f1 : Int32) (h0_f2 : Int32) (h0_f3 : Int32) (h0_4 : Nat) (h0_5 : Nat) (h0_6 : Nat) (h0_7 : Nat) (h0_8 : Nat) (h0_9 : Nat) (h0_10 : Nat) (h0_11 : Nat) (h0_12 : Nat) (g_h0_f3 : RG h0_f3 0 9999) : Met l yX7_logLength wf_c_X7_logLength_1 ({ frames := 1, cells := 0, slots := 0, locals := 13 }) (va_Pc [.ref h0] (fun U => U.heap.size = sz ∧ va_P (dC, dI) vwCl (wd_c_X7_logLength_1 h0 h0_f0 h0_f1 h0_f2 h0_f3 h0_4 h0_5 h0_6 h0_7 h0_8 h0_9 h0_10 h0_11 h0_12) U.heap ∧ va_K (dC, dI) vwCl [] U ∧ va_D (fun _ => True) (wd_c_X7_logLength_1 h0 h0_f0 h0_f1 h0_f2 h0_f3 h0_4 h0_5 h0_6 h0_7 h0_8 h0_9 h0_10 h0_11 h0_12))) (va_Qi (fun (r : Int32) (u : Unit) => (RG r 0 60 ∧ r.toInt ≤ h0_f3.toInt + 0)) (fun (u : Unit) t => va_P (dC, dI) vwCl (wd_c_X7_logLength_1 h0 h0_f0 h0_f1 h0_f2 h0_f3 h0_4 h0_5 h0_6 h0_7 h0_8 h0_9 h0_10 h0_11 h0_12) t.heap ∧ va_K (dC, dI) vwCl [] t ∧ va_D (va_A (wd_c_X7_logLength_1 h0 h0_f0 h0_f1 h0_f2 h0_f3 h0_4 h0_5 h0_6 h0_7 h0_8 h0_9 h0_10 h0_11 h0_12) sz) (wd_c_X7_logLength_1 h0 h0_f0 h0_f1 h0_f2 h0_f3 h0_4 h0_5 h0_6 h0_7 h0_8 h0_9 h0_10 h0_11 h0_12)) (va_A (wd_c_X7_logLength_1 h0 h0_f0 h0_f1 h0_f2 h0_f3 h0_4 h0_5 h0_6 h0_7 h0_8 h0_9 h0_10 h0_11 h0_12) sz)) 0 0 (va_A (wd_c_X7_logLength_1 h0 h0_f0 h0_f1 h0_f2 h0_f3 h0_4 h0_5 h0_6 h0_7 h0_8 h0_9 h0_10 h0_11 h0_12) sz) := by
  refine Met.ofW (cc := cX7_logLength) (maxL := 1) (ret := (some .int)) (by decide) rfl ?_
  intro p e s m args below meth c s₁ B hml hv
  obtain ⟨rfl, hsz, hP, hK, hD0⟩ := hv
  have hx := B.exec
  have hb := B.bytes
  have hr := B.returns
  have hts := atoms_spec (ws := wf_c_X7_logLength_1) B.pre
  have hown : s.vm.findClass RX7 = some m.cls := findClass_of_methodNamed B.named
  have hlocks := B.notSynchronized
  subst hsz
  have hD := hD0.self (sz := s.heap.size)
  generalize hAe : va_A (wd_c_X7_logLength_1 h0 h0_f0 h0_f1 h0_f2 h0_f3 h0_4 h0_5 h0_6 h0_7 h0_8 h0_9 h0_10 h0_11 h0_12) s.heap.size = A at hD ⊢
  have hA : ∀ q : Nat, s.heap.size ≤ q → A q := fun q h => by rw [← hAe]; exact Or.inr h
  have hP : va_P (dC, dI) vwCl (wd_c_X7_logLength_1 h0 h0_f0 h0_f1 h0_f2 h0_f3 h0_4 h0_5 h0_6 h0_7 h0_8 h0_9 h0_10 h0_11 h0_12) s.heap := hP
  have hl := lv_entry ([.ref h0]) (n := 1) (Nat.le_of_ble_eq_true rfl)
  rw [lg_entry_eq]
  generalize (lg_sl ([.ref h0]) ++ List.replicate (1 - (lg_sl ([.ref h0])).length) Slot.unset).toArray = ls at hl ⊢
  have hl : lv_has ls 1 [(0, .ref h0)] := hl
  obtain ⟨H, hHe⟩ : ∃ H : Heap, s.heap = H := ⟨_, rfl⟩
  have hS : va_S A s.heap H [] := by rw [hHe]; exact va_S.rf
  have hP : va_P (dC, dI) vwCl (wd_c_X7_logLength_1 h0 h0_f0 h0_f1 h0_f2 h0_f3 h0_4 h0_5 h0_6 h0_7 h0_8 h0_9 h0_10 h0_11 h0_12) H := by rw [← hHe]; exact hP
  rw [hHe]
  refine lv_aload_n hx hb dX7_logLength_0 rfl (lv_at hl 0 rfl) ?_
  refine va_get (D := (dC, dI)) (ci := 7) (v := .int h0_f3) (C := RX7) (T := TX7) (N := 13) hx hb hts iw_c_X7_logLength_1_X7 hown hK hP 0 rfl rfl 3 (by decide) (hts (.fieldLink RX7 58 "BuoyVote$Sea" "logged" "I") (List.mem_of_getElem? (i := 1) rfl)) (fun _ h9 => h9) rfl dX7_logLength_1 ?_
  refine lv_bipush (v := 60) hx hb dX7_logLength_4 kc_bipush_60 ?_
  refine va_mmin hx hb (by rw [hml]; exact hl.1.symm) hown (hts (.methodLink RX7 94 Lib.Math.min.name) (List.mem_of_getElem? (i := 2) rfl)) (hts (.static Lib.Math.min.name) (List.mem_of_getElem? (i := 3) rfl)) (hts (.initialized "java/lang/Math") (List.mem_of_getElem? (i := 4) rfl)) (hts (.code Lib.Math.min.name Lib.Math.min.code 2 (some .int)) (List.mem_of_getElem? (i := 5) rfl)) (Nat.le_of_ble_eq_true rfl) (Nat.le_of_ble_eq_true rfl) (Nat.le_of_ble_eq_true rfl) (Nat.le_of_ble_eq_true rfl) dX7_logLength_6 ?_
  refine lv_topi (fun x_1 ex_1 => ?_)
  have g_2 : RG x_1 0 60 := RG_min ex_1 g_h0_f3 (RG_k 60 60 rfl) (by decide)
  have b_3 : x_1.toInt ≤ h0_f3.toInt + 0 := by have := min_le1 ex_1; omega
  have hK9 := hK.sub (tys' := []) [] rfl
  exact W.iret (v := x_1) hx hb hr (fun t ht hW => ⟨⟨x_1, (), rfl, ⟨g_2, (by have := b_3; have := (g_2).2; have := (g_h0_f3).1; show x_1.toInt ≤ h0_f3.toInt + 0; omega)⟩, by rw [ht]; exact hP, va_K.moved hW.alike hK9, hD⟩, hS.F ht⟩) hS.2.2 dX7_logLength_9
def wf_c_X11_isWithin_2 : List Cond := .code yX11_isWithin cX11_isWithin 3 (some .boolean) :: ([])
set_option maxHeartbeats 4000000 in
set_option maxRecDepth 100000 in
theorem c_X11_isWithin_2 (l : Launch) (dC : Nat → ClassId) (dI : Nat → Nat → Nat) (sz : Nat) (p0 : Int32) (p2 : Int32) (g_p2 : RG p2 (-1) 59) : Met l yX11_isWithin wf_c_X11_isWithin_2 ({ frames := 0, cells := 0, slots := 0, locals := 0 }) (va_Pc [.int p0, .int 0, .int p2] (fun U => U.heap.size = sz ∧ va_P (dC, dI) vwCl [] U.heap ∧ va_K (dC, dI) vwCl [] U ∧ va_D (fun _ => True) [])) (va_Qi (fun (r : Int32) (u : Unit) => (r = 0 ∧ RG p0 (-2147483648) 2147483647) ∨ (r = 1 ∧ RG p0 0 59 ∧ RG p2 0 59 ∧ p0.toInt ≤ p2.toInt + 0)) (fun (u : Unit) t => va_P (dC, dI) vwCl [] t.heap ∧ va_K (dC, dI) vwCl [] t ∧ va_D (va_A [] sz) []) (va_A [] sz)) 0 0 (va_A [] sz) := by
  refine Met.ofW (cc := cX11_isWithin) (maxL := 3) (ret := (some .boolean)) (by decide) rfl ?_
  intro p e s m args below meth c s₁ B hml hv
  obtain ⟨rfl, hsz, hP, hK, hD0⟩ := hv
  have hx := B.exec
  have hb := B.bytes
  have hr := B.returns
  have hts := atoms_spec (ws := wf_c_X11_isWithin_2) B.pre
  have hown : s.vm.findClass RX11 = some m.cls := findClass_of_methodNamed B.named
  have hlocks := B.notSynchronized
  subst hsz
  have hD := hD0.self (sz := s.heap.size)
  generalize hAe : va_A [] s.heap.size = A at hD ⊢
  have hA : ∀ q : Nat, s.heap.size ≤ q → A q := fun q h => by rw [← hAe]; exact Or.inr h
  have hP : va_P (dC, dI) vwCl [] s.heap := hP
  have hl := lv_entry ([.int p0, .int 0, .int p2]) (n := 3) (Nat.le_of_ble_eq_true rfl)
  rw [lg_entry_eq]
  generalize (lg_sl ([.int p0, .int 0, .int p2]) ++ List.replicate (3 - (lg_sl ([.int p0, .int 0, .int p2])).length) Slot.unset).toArray = ls at hl ⊢
  have hl : lv_has ls 3 [(0, .int p0), (1, .int 0), (2, .int p2)] := hl
  obtain ⟨H, hHe⟩ : ∃ H : Heap, s.heap = H := ⟨_, rfl⟩
  have hS : va_S A s.heap H [] := by rw [hHe]; exact va_S.rf
  have hP : va_P (dC, dI) vwCl [] H := by rw [← hHe]; exact hP
  rw [hHe]
  refine lv_iload_n hx hb dX11_isWithin_0 rfl (lv_at hl 0 rfl) ?_
  refine lv_iload_n hx hb dX11_isWithin_1 rfl (lv_at hl 1 rfl) ?_
  refine lv_icmp_lt (tgt := 14) hx hb dX11_isWithin_2 rfl (fun c_1 => ?_) (fun c_1 => ?_)
  · have g_2 : RG p0 (-2147483648) (-1) := RG_lt1 (RG_any p0) (RG_k 0 0 rfl) c_1 (by decide)
    refine lv_iconst (v := 0) hx hb dX11_isWithin_14 kc_iconst_0 ?_
    have hK9 := hK.sub (tys' := []) [] rfl
    exact W.zret (v := 0) hx hb hr rfl (fun t ht hW => ⟨⟨0, (), rfl, (Or.inl ⟨rfl, (RG_w g_2 (by decide))⟩), by rw [ht]; exact hP, va_K.moved hW.alike hK9, hD⟩, hS.F ht⟩) hS.2.2 dX11_isWithin_15
  · have d_3 := Int32.not_lt.mp c_1
    have g_4 : RG p0 0 2147483647 := RG_le2 (RG_k 0 0 rfl) (RG_any p0) d_3 (by decide)
    refine lv_iload_n hx hb dX11_isWithin_5 rfl (lv_at hl 0 rfl) ?_
    refine lv_iload_n hx hb dX11_isWithin_6 rfl (lv_at hl 2 rfl) ?_
    refine lv_icmp_gt (tgt := 14) hx hb dX11_isWithin_7 rfl (fun c_5 => ?_) (fun c_5 => ?_)
    · have b_6 : p2.toInt ≤ p0.toInt + (-1) := by have := Int32.lt_iff_toInt_lt.mp c_5; omega
      refine lv_iconst (v := 0) hx hb dX11_isWithin_14 kc_iconst_0 ?_
      have hK9 := hK.sub (tys' := []) [] rfl
      exact W.zret (v := 0) hx hb hr rfl (fun t ht hW => ⟨⟨0, (), rfl, (Or.inl ⟨rfl, (RG_w g_4 (by decide))⟩), by rw [ht]; exact hP, va_K.moved hW.alike hK9, hD⟩, hS.F ht⟩) hS.2.2 dX11_isWithin_15
    · have d_7 := Int32.not_lt.mp c_5
      have b_8 : p0.toInt ≤ p2.toInt + 0 := by have := Int32.le_iff_toInt_le.mp d_7; omega
      have g_9 : RG p0 0 59 := RG_le1 g_4 g_p2 d_7 (by decide)
      have g_10 : RG p2 0 59 := RG_le2 g_4 g_p2 d_7 (by decide)
      refine lv_iconst (v := 1) hx hb dX11_isWithin_10 kc_iconst_1 ?_
      refine lv_goto (tgt := 15) hx hb dX11_isWithin_11 rfl ?_
      have hK9 := hK.sub (tys' := []) [] rfl
      exact W.zret (v := 1) hx hb hr rfl (fun t ht hW => ⟨⟨1, (), rfl, (Or.inr ⟨rfl, g_9, g_10, (by have := b_8; have := (g_9).2; have := (g_10).1; show p0.toInt ≤ p2.toInt + 0; omega)⟩), by rw [ht]; exact hP, va_K.moved hW.alike hK9, hD⟩, hS.F ht⟩) hS.2.2 dX11_isWithin_15
def wf_c_X11_isWithin_3 : List Cond := .code yX11_isWithin cX11_isWithin 3 (some .boolean) :: ([])
set_option maxHeartbeats 4000000 in
set_option maxRecDepth 100000 in
theorem c_X11_isWithin_3 (l : Launch) (dC : Nat → ClassId) (dI : Nat → Nat → Nat) (sz : Nat) (p0 : Int32) : Met l yX11_isWithin wf_c_X11_isWithin_3 ({ frames := 0, cells := 0, slots := 0, locals := 0 }) (va_Pc [.int p0, .int 0, .int 2] (fun U => U.heap.size = sz ∧ va_P (dC, dI) vwCl [] U.heap ∧ va_K (dC, dI) vwCl [] U ∧ va_D (fun _ => True) [])) (va_Qi (fun (r : Int32) (u : Unit) => (r = 0 ∧ RG p0 (-2147483648) 2147483647) ∨ (r = 1 ∧ RG p0 0 2)) (fun (u : Unit) t => va_P (dC, dI) vwCl [] t.heap ∧ va_K (dC, dI) vwCl [] t ∧ va_D (va_A [] sz) []) (va_A [] sz)) 0 0 (va_A [] sz) := by
  refine Met.ofW (cc := cX11_isWithin) (maxL := 3) (ret := (some .boolean)) (by decide) rfl ?_
  intro p e s m args below meth c s₁ B hml hv
  obtain ⟨rfl, hsz, hP, hK, hD0⟩ := hv
  have hx := B.exec
  have hb := B.bytes
  have hr := B.returns
  have hts := atoms_spec (ws := wf_c_X11_isWithin_3) B.pre
  have hown : s.vm.findClass RX11 = some m.cls := findClass_of_methodNamed B.named
  have hlocks := B.notSynchronized
  subst hsz
  have hD := hD0.self (sz := s.heap.size)
  generalize hAe : va_A [] s.heap.size = A at hD ⊢
  have hA : ∀ q : Nat, s.heap.size ≤ q → A q := fun q h => by rw [← hAe]; exact Or.inr h
  have hP : va_P (dC, dI) vwCl [] s.heap := hP
  have hl := lv_entry ([.int p0, .int 0, .int 2]) (n := 3) (Nat.le_of_ble_eq_true rfl)
  rw [lg_entry_eq]
  generalize (lg_sl ([.int p0, .int 0, .int 2]) ++ List.replicate (3 - (lg_sl ([.int p0, .int 0, .int 2])).length) Slot.unset).toArray = ls at hl ⊢
  have hl : lv_has ls 3 [(0, .int p0), (1, .int 0), (2, .int 2)] := hl
  obtain ⟨H, hHe⟩ : ∃ H : Heap, s.heap = H := ⟨_, rfl⟩
  have hS : va_S A s.heap H [] := by rw [hHe]; exact va_S.rf
  have hP : va_P (dC, dI) vwCl [] H := by rw [← hHe]; exact hP
  rw [hHe]
  refine lv_iload_n hx hb dX11_isWithin_0 rfl (lv_at hl 0 rfl) ?_
  refine lv_iload_n hx hb dX11_isWithin_1 rfl (lv_at hl 1 rfl) ?_
  refine lv_icmp_lt (tgt := 14) hx hb dX11_isWithin_2 rfl (fun c_1 => ?_) (fun c_1 => ?_)
  · have g_2 : RG p0 (-2147483648) (-1) := RG_lt1 (RG_any p0) (RG_k 0 0 rfl) c_1 (by decide)
    refine lv_iconst (v := 0) hx hb dX11_isWithin_14 kc_iconst_0 ?_
    have hK9 := hK.sub (tys' := []) [] rfl
    exact W.zret (v := 0) hx hb hr rfl (fun t ht hW => ⟨⟨0, (), rfl, (Or.inl ⟨rfl, (RG_w g_2 (by decide))⟩), by rw [ht]; exact hP, va_K.moved hW.alike hK9, hD⟩, hS.F ht⟩) hS.2.2 dX11_isWithin_15
  · have d_3 := Int32.not_lt.mp c_1
    have g_4 : RG p0 0 2147483647 := RG_le2 (RG_k 0 0 rfl) (RG_any p0) d_3 (by decide)
    refine lv_iload_n hx hb dX11_isWithin_5 rfl (lv_at hl 0 rfl) ?_
    refine lv_iload_n hx hb dX11_isWithin_6 rfl (lv_at hl 2 rfl) ?_
    refine lv_icmp_gt (tgt := 14) hx hb dX11_isWithin_7 rfl (fun c_5 => ?_) (fun c_5 => ?_)
    · have g_6 : RG p0 3 2147483647 := RG_lt2 (RG_k 2 2 rfl) g_4 c_5 (by decide)
      refine lv_iconst (v := 0) hx hb dX11_isWithin_14 kc_iconst_0 ?_
      have hK9 := hK.sub (tys' := []) [] rfl
      exact W.zret (v := 0) hx hb hr rfl (fun t ht hW => ⟨⟨0, (), rfl, (Or.inl ⟨rfl, (RG_w g_6 (by decide))⟩), by rw [ht]; exact hP, va_K.moved hW.alike hK9, hD⟩, hS.F ht⟩) hS.2.2 dX11_isWithin_15
    · have d_7 := Int32.not_lt.mp c_5
      have g_8 : RG p0 0 2 := RG_le1 g_4 (RG_k 2 2 rfl) d_7 (by decide)
      refine lv_iconst (v := 1) hx hb dX11_isWithin_10 kc_iconst_1 ?_
      refine lv_goto (tgt := 15) hx hb dX11_isWithin_11 rfl ?_
      have hK9 := hK.sub (tys' := []) [] rfl
      exact W.zret (v := 1) hx hb hr rfl (fun t ht hW => ⟨⟨1, (), rfl, (Or.inr ⟨rfl, g_8⟩), by rw [ht]; exact hP, va_K.moved hW.alike hK9, hD⟩, hS.F ht⟩) hS.2.2 dX11_isWithin_15
def wd_c_X3_logged (a0 : Nat) (a1 : Nat) (a2 : Int32) (a3 : Int32) (a4 : Nat) (a5 : Nat) (a6 : Nat) (a7 : Int32) (a8 : Nat) (a9 : ClassId) (a10 : Nat → Int32) : va_W := [(a0, .inr (3, [.ref a1, .int a2, .int a3, .ref a4, .ref a5, .ref a6, .int a7])), (a8, .inl (a9, 300, .inl a10))]
def wf_c_X3_logged : List Cond := .code yX3_logged cX3_logged 3 (some .int) :: ([.fieldLink RX3 18 "BuoyVote$History" "log" "[I"] ++ wsX30)
theorem iw_c_X3_logged_X3 : ∀ w ∈ wsX30, w ∈ wf_c_X3_logged := fun w h => List.mem_cons_of_mem _ (List.mem_append_right _ h)
set_option maxHeartbeats 4000000 in
set_option maxRecDepth 100000 in
theorem c_X3_logged (l : Launch) (dC : Nat → ClassId) (dI : Nat → Nat → Nat) (sz : Nat) (h0 : Nat) (p1 : Int32) (p2 : Int32) (h0_0 : Nat) (h0_f1 : Int32) (h0_f2 : Int32) (h0_3 : Nat) (h0_4 : Nat) (h0_5 : Nat) (h0_f6 : Int32) (h0_3k : ClassId) (h0_3c : Nat → Int32) (g_p1 : RG p1 0 2147483647) (g_p2 : RG p2 0 2) (g_h0_f1 : RG h0_f1 0 39) (g_h0_f2 : RG h0_f2 0 40) (g_h0_f6 : RG h0_f6 0 1) : Met l yX3_logged wf_c_X3_logged ({ frames := 0, cells := 0, slots := 0, locals := 0 }) (va_Pc [.ref h0, .int p1, .int p2] (fun U => U.heap.size = sz ∧ va_P (dC, dI) vwCl (wd_c_X3_logged h0 h0_0 h0_f1 h0_f2 h0_3 h0_4 h0_5 h0_f6 h0_3 h0_3k h0_3c) U.heap ∧ va_K (dC, dI) vwCl [(h0_3k, .int)] U ∧ va_D (fun _ => True) (wd_c_X3_logged h0 h0_0 h0_f1 h0_f2 h0_3 h0_4 h0_5 h0_f6 h0_3 h0_3k h0_3c))) (va_Qi (fun (r : Int32) (u : Unit) => (RG r (-2147483648) 2147483647)) (fun (u : Unit) t => va_P (dC, dI) vwCl (wd_c_X3_logged h0 h0_0 h0_f1 h0_f2 h0_3 h0_4 h0_5 h0_f6 h0_3 h0_3k h0_3c) t.heap ∧ va_K (dC, dI) vwCl [] t ∧ va_D (va_A (wd_c_X3_logged h0 h0_0 h0_f1 h0_f2 h0_3 h0_4 h0_5 h0_f6 h0_3 h0_3k h0_3c) sz) (wd_c_X3_logged h0 h0_0 h0_f1 h0_f2 h0_3 h0_4 h0_5 h0_f6 h0_3 h0_3k h0_3c)) (va_A (wd_c_X3_logged h0 h0_0 h0_f1 h0_f2 h0_3 h0_4 h0_5 h0_f6 h0_3 h0_3k h0_3c) sz)) 0 0 (va_A (wd_c_X3_logged h0 h0_0 h0_f1 h0_f2 h0_3 h0_4 h0_5 h0_f6 h0_3 h0_3k h0_3c) sz) := by
  refine Met.ofW (cc := cX3_logged) (maxL := 3) (ret := (some .int)) (by decide) rfl ?_
  intro p e s m args below meth c s₁ B hml hv
  obtain ⟨rfl, hsz, hP, hK, hD0⟩ := hv
  have hx := B.exec
  have hb := B.bytes
  have hr := B.returns
  have hts := atoms_spec (ws := wf_c_X3_logged) B.pre
  have hown : s.vm.findClass RX3 = some m.cls := findClass_of_methodNamed B.named
  have hlocks := B.notSynchronized
  subst hsz
  have hD := hD0.self (sz := s.heap.size)
  generalize hAe : va_A (wd_c_X3_logged h0 h0_0 h0_f1 h0_f2 h0_3 h0_4 h0_5 h0_f6 h0_3 h0_3k h0_3c) s.heap.size = A at hD ⊢
  have hA : ∀ q : Nat, s.heap.size ≤ q → A q := fun q h => by rw [← hAe]; exact Or.inr h
  have hP : va_P (dC, dI) vwCl (wd_c_X3_logged h0 h0_0 h0_f1 h0_f2 h0_3 h0_4 h0_5 h0_f6 h0_3 h0_3k h0_3c) s.heap := hP
  have hl := lv_entry ([.ref h0, .int p1, .int p2]) (n := 3) (Nat.le_of_ble_eq_true rfl)
  rw [lg_entry_eq]
  generalize (lg_sl ([.ref h0, .int p1, .int p2]) ++ List.replicate (3 - (lg_sl ([.ref h0, .int p1, .int p2])).length) Slot.unset).toArray = ls at hl ⊢
  have hl : lv_has ls 3 [(0, .ref h0), (1, .int p1), (2, .int p2)] := hl
  obtain ⟨H, hHe⟩ : ∃ H : Heap, s.heap = H := ⟨_, rfl⟩
  have hS : va_S A s.heap H [] := by rw [hHe]; exact va_S.rf
  have hP : va_P (dC, dI) vwCl (wd_c_X3_logged h0 h0_0 h0_f1 h0_f2 h0_3 h0_4 h0_5 h0_f6 h0_3 h0_3k h0_3c) H := by rw [← hHe]; exact hP
  rw [hHe]
  refine lv_aload_n hx hb dX3_logged_0 rfl (lv_at hl 0 rfl) ?_
  refine va_get (D := (dC, dI)) (ci := 3) (v := .ref h0_3) (C := RX3) (T := TX3) (N := 7) hx hb hts iw_c_X3_logged_X3 hown hK hP 0 rfl rfl 3 (by decide) (hts (.fieldLink RX3 18 "BuoyVote$History" "log" "[I") (List.mem_of_getElem? (i := 1) rfl)) (fun _ h9 => h9) rfl dX3_logged_1 ?_
  refine lv_iload_n hx hb dX3_logged_4 rfl (lv_at hl 1 rfl) ?_
  refine lv_bipush (v := 100) hx hb dX3_logged_5 kc_bipush_100 ?_
  refine lv_irem hx hb dX3_logged_7 (by decide) ?_
  refine lv_topi (fun x_1 ex_1 => ?_)
  have g_2 : RG x_1 0 99 := RG_rem ex_1 g_p1 (RG_k 100 100 rfl) (by decide)
  refine lv_iconst (v := 3) hx hb dX3_logged_8 kc_iconst_3 ?_
  refine lv_imul hx hb dX3_logged_9 ?_
  refine lv_topi (fun x_3 ex_3 => ?_)
  have g_4 : RG x_3 0 297 := RG_mulc ex_3 (q := 3) rfl g_2 (by decide)
  refine lv_iload_n hx hb dX3_logged_10 rfl (lv_at hl 2 rfl) ?_
  refine lv_iadd hx hb dX3_logged_11 ?_
  refine lv_topi (fun x_5 ex_5 => ?_)
  have g_6 : RG x_5 0 299 := RG_add ex_5 g_4 g_p2 (by decide)
  refine va_iald hx hb hK hP 1 0 rfl rfl (RG_in g_6 (by decide)) dX3_logged_12 ?_
  refine lv_topi (fun x_7 ex_7 => ?_)
  have hK9 := hK.sub (tys' := []) [] rfl
  exact W.iret (v := x_7) hx hb hr (fun t ht hW => ⟨⟨x_7, (), rfl, (RG_any x_7), by rw [ht]; exact hP, va_K.moved hW.alike hK9, hD⟩, hS.F ht⟩) hS.2.2 dX3_logged_13
def wd_c_X11_log (a0 : Nat) (a1 : Nat) (a2 : Nat) (a3 : Nat) (a4 : Nat) (a5 : Nat) (a6 : Int32) (a7 : Nat) (a8 : Nat) (a9 : Nat) (a10 : Nat) (a11 : Nat) (a12 : Nat) (a13 : Nat) (a14 : Nat) (a15 : Nat) (a16 : Int64) (a17 : Nat) (a18 : Int32) (a19 : Int32) (a20 : Int32) (a21 : Int32) (a22 : Nat) (a23 : Nat) (a24 : Nat) (a25 : Nat) (a26 : Nat) (a27 : Nat) (a28 : Nat) (a29 : Nat) (a30 : Nat) (a31 : Nat) (a32 : Nat) (a33 : Int32) (a34 : Int32) (a35 : Nat) (a36 : Nat) (a37 : Nat) (a38 : Int32) (a39 : Nat) (a40 : ClassId) (a41 : Nat → Int32) : va_W := [(a0, .inr (11, [.ref a1, .ref a2, .ref a3, .ref a4, .ref a5, .int a6, .ref a7, .ref a8, .ref a9, .ref a10, .ref a11, .ref a12, .ref a13, .ref a14, .ref a15, .long a16])), (a17, .inr (7, [.int a18, .int a19, .int a20, .int a21, .ref a22, .ref a23, .ref a24, .ref a25, .ref a26, .ref a27, .ref a28, .ref a29, .ref a30])), (a31, .inr (3, [.ref a32, .int a33, .int a34, .ref a35, .ref a36, .ref a37, .int a38])), (a39, .inl (a40, 300, .inl a41))]
def wf_c_X11_log : List Cond := .code yX11_log cX11_log 3 (some .int) :: ([.fieldLink RX11 52 "BuoyVote" "now" "LBuoyVote$Sea;", .methodLink RX11 285 yX7_logLength, .instanceMethod yX7_logLength, .selects RX7 yX7_logLength yX7_logLength, .initialized RX7, .code yX7_logLength cX7_logLength 1 (some .int), .fieldLink RX7 58 "BuoyVote$Sea" "logged" "I", .methodLink RX7 94 Lib.Math.min.name, .static Lib.Math.min.name, .initialized "java/lang/Math", .code Lib.Math.min.name Lib.Math.min.code 2 (some .int), .methodLink RX11 111 yX11_isWithin, .static yX11_isWithin, .initialized RX11, .code yX11_isWithin cX11_isWithin 3 (some .boolean), .fieldLink RX11 62 "BuoyVote" "history" "LBuoyVote$History;", .fieldLink RX11 288 "BuoyVote$Sea" "logged" "I", .methodLink RX11 291 yX3_logged, .instanceMethod yX3_logged, .selects RX3 yX3_logged yX3_logged, .initialized RX3, .code yX3_logged cX3_logged 3 (some .int), .fieldLink RX3 18 "BuoyVote$History" "log" "[I"] ++ wsX110 ++ wsX70 ++ wsX30)
theorem iw_c_X11_log_X11 : ∀ w ∈ wsX110, w ∈ wf_c_X11_log := fun w h => List.mem_cons_of_mem _ (List.mem_append_left _ (List.mem_append_left _ (List.mem_append_right _ h)))
theorem iw_c_X11_log_X7 : ∀ w ∈ wsX70, w ∈ wf_c_X11_log := fun w h => List.mem_cons_of_mem _ (List.mem_append_left _ (List.mem_append_right _ h))
theorem iw_c_X11_log_X3 : ∀ w ∈ wsX30, w ∈ wf_c_X11_log := fun w h => List.mem_cons_of_mem _ (List.mem_append_right _ h)
set_option maxRecDepth 20000 in
theorem gf_c_X11_log_c_X7_logLength_1 : GoodIn wf_c_X11_log (wsV RX11 285 RX7 yX7_logLength wf_c_X7_logLength_1) := goodIn_app (gi_cons (j := 2) rfl rfl (gi_cons (j := 3) rfl rfl (gi_cons (j := 4) rfl rfl (gi_cons (j := 5) rfl rfl (gi_nil))))) (gi_cons (j := 6) rfl rfl (goodIn_app (gi_cons (j := 7) rfl rfl (gi_cons (j := 8) rfl rfl (gi_cons (j := 9) rfl rfl (gi_cons (j := 10) rfl rfl (gi_cons (j := 11) rfl rfl (gi_nil)))))) (goodIn_sub iw_c_X11_log_X7 gw_X7)))
set_option maxRecDepth 20000 in
theorem gf_c_X11_log_c_X11_isWithin_2 : GoodIn wf_c_X11_log (va_wsS RX11 111 yX11_isWithin wf_c_X11_isWithin_2) := goodIn_app (gi_cons (j := 12) rfl rfl (gi_cons (j := 13) rfl rfl (gi_cons (j := 14) rfl rfl (gi_nil)))) (gi_cons (j := 15) rfl rfl (gi_nil))
set_option maxRecDepth 20000 in
theorem gf_c_X11_log_c_X11_isWithin_3 : GoodIn wf_c_X11_log (va_wsS RX11 111 yX11_isWithin wf_c_X11_isWithin_3) := goodIn_app (gi_cons (j := 12) rfl rfl (gi_cons (j := 13) rfl rfl (gi_cons (j := 14) rfl rfl (gi_nil)))) (gi_cons (j := 15) rfl rfl (gi_nil))
set_option maxRecDepth 20000 in
theorem gf_c_X11_log_c_X3_logged : GoodIn wf_c_X11_log (wsV RX11 291 RX3 yX3_logged wf_c_X3_logged) := goodIn_app (gi_cons (j := 18) rfl rfl (gi_cons (j := 19) rfl rfl (gi_cons (j := 20) rfl rfl (gi_cons (j := 21) rfl rfl (gi_nil))))) (gi_cons (j := 22) rfl rfl (goodIn_app (gi_cons (j := 23) rfl rfl (gi_nil)) (goodIn_sub iw_c_X11_log_X3 gw_X3)))
set_option maxHeartbeats 4000000 in
set_option maxRecDepth 100000 in
theorem c_X11_log (l : Launch) (dC : Nat → ClassId) (dI : Nat → Nat → Nat) (sz : Nat) (h0 : Nat) (p1 : Int32) (p2 : Int32) (h0_0 : Nat) (h0_1 : Nat) (h0_2 : Nat) (h0_3 : Nat) (h0_4 : Nat) (h0_f5 : Int32) (h0_6 : Nat) (h0_7 : Nat) (h0_8 : Nat) (h0_9 : Nat) (h0_10 : Nat) (h0_11 : Nat) (h0_12 : Nat) (h0_13 : Nat) (h0_14 : Nat) (h0_f15 : Int64) (h0_7_f0 : Int32) (h0_7_f1 : Int32) (h0_7_f2 : Int32) (h0_7_f3 : Int32) (h0_7_4 : Nat) (h0_7_5 : Nat) (h0_7_6 : Nat) (h0_7_7 : Nat) (h0_7_8 : Nat) (h0_7_9 : Nat) (h0_7_10 : Nat) (h0_7_11 : Nat) (h0_7_12 : Nat) (h0_9_0 : Nat) (h0_9_f1 : Int32) (h0_9_f2 : Int32) (h0_9_3 : Nat) (h0_9_4 : Nat) (h0_9_5 : Nat) (h0_9_f6 : Int32) (h0_9_3k : ClassId) (h0_9_3c : Nat → Int32) (g_h0_f5 : RG h0_f5 0 4) (g_h0_7_f2 : RG h0_7_f2 0 9999) (g_h0_7_f3 : RG h0_7_f3 0 9999) (g_h0_9_f1 : RG h0_9_f1 0 39) (g_h0_9_f2 : RG h0_9_f2 0 40) (g_h0_9_f6 : RG h0_9_f6 0 1) : Met l yX11_log wf_c_X11_log ({ frames := 2, cells := 0, slots := 0, locals := 33 }) (va_Pc [.ref h0, .int p1, .int p2] (fun U => U.heap.size = sz ∧ va_P (dC, dI) vwCl (wd_c_X11_log h0 h0_0 h0_1 h0_2 h0_3 h0_4 h0_f5 h0_6 h0_7 h0_8 h0_9 h0_10 h0_11 h0_12 h0_13 h0_14 h0_f15 h0_7 h0_7_f0 h0_7_f1 h0_7_f2 h0_7_f3 h0_7_4 h0_7_5 h0_7_6 h0_7_7 h0_7_8 h0_7_9 h0_7_10 h0_7_11 h0_7_12 h0_9 h0_9_0 h0_9_f1 h0_9_f2 h0_9_3 h0_9_4 h0_9_5 h0_9_f6 h0_9_3 h0_9_3k h0_9_3c) U.heap ∧ va_K (dC, dI) vwCl [(h0_9_3k, .int)] U ∧ va_D (fun _ => True) (wd_c_X11_log h0 h0_0 h0_1 h0_2 h0_3 h0_4 h0_f5 h0_6 h0_7 h0_8 h0_9 h0_10 h0_11 h0_12 h0_13 h0_14 h0_f15 h0_7 h0_7_f0 h0_7_f1 h0_7_f2 h0_7_f3 h0_7_4 h0_7_5 h0_7_6 h0_7_7 h0_7_8 h0_7_9 h0_7_10 h0_7_11 h0_7_12 h0_9 h0_9_0 h0_9_f1 h0_9_f2 h0_9_3 h0_9_4 h0_9_5 h0_9_f6 h0_9_3 h0_9_3k h0_9_3c))) (va_Qi (fun (r : Int32) (u : Unit) => (r = (-1)) ∨ (RG r (-2147483648) 2147483647 ∧ RG p1 0 59 ∧ RG p2 0 2)) (fun (u : Unit) t => va_P (dC, dI) vwCl (wd_c_X11_log h0 h0_0 h0_1 h0_2 h0_3 h0_4 h0_f5 h0_6 h0_7 h0_8 h0_9 h0_10 h0_11 h0_12 h0_13 h0_14 h0_f15 h0_7 h0_7_f0 h0_7_f1 h0_7_f2 h0_7_f3 h0_7_4 h0_7_5 h0_7_6 h0_7_7 h0_7_8 h0_7_9 h0_7_10 h0_7_11 h0_7_12 h0_9 h0_9_0 h0_9_f1 h0_9_f2 h0_9_3 h0_9_4 h0_9_5 h0_9_f6 h0_9_3 h0_9_3k h0_9_3c) t.heap ∧ va_K (dC, dI) vwCl [] t ∧ va_D (va_A (wd_c_X11_log h0 h0_0 h0_1 h0_2 h0_3 h0_4 h0_f5 h0_6 h0_7 h0_8 h0_9 h0_10 h0_11 h0_12 h0_13 h0_14 h0_f15 h0_7 h0_7_f0 h0_7_f1 h0_7_f2 h0_7_f3 h0_7_4 h0_7_5 h0_7_6 h0_7_7 h0_7_8 h0_7_9 h0_7_10 h0_7_11 h0_7_12 h0_9 h0_9_0 h0_9_f1 h0_9_f2 h0_9_3 h0_9_4 h0_9_5 h0_9_f6 h0_9_3 h0_9_3k h0_9_3c) sz) (wd_c_X11_log h0 h0_0 h0_1 h0_2 h0_3 h0_4 h0_f5 h0_6 h0_7 h0_8 h0_9 h0_10 h0_11 h0_12 h0_13 h0_14 h0_f15 h0_7 h0_7_f0 h0_7_f1 h0_7_f2 h0_7_f3 h0_7_4 h0_7_5 h0_7_6 h0_7_7 h0_7_8 h0_7_9 h0_7_10 h0_7_11 h0_7_12 h0_9 h0_9_0 h0_9_f1 h0_9_f2 h0_9_3 h0_9_4 h0_9_5 h0_9_f6 h0_9_3 h0_9_3k h0_9_3c)) (va_A (wd_c_X11_log h0 h0_0 h0_1 h0_2 h0_3 h0_4 h0_f5 h0_6 h0_7 h0_8 h0_9 h0_10 h0_11 h0_12 h0_13 h0_14 h0_f15 h0_7 h0_7_f0 h0_7_f1 h0_7_f2 h0_7_f3 h0_7_4 h0_7_5 h0_7_6 h0_7_7 h0_7_8 h0_7_9 h0_7_10 h0_7_11 h0_7_12 h0_9 h0_9_0 h0_9_f1 h0_9_f2 h0_9_3 h0_9_4 h0_9_5 h0_9_f6 h0_9_3 h0_9_3k h0_9_3c) sz)) 0 0 (va_A (wd_c_X11_log h0 h0_0 h0_1 h0_2 h0_3 h0_4 h0_f5 h0_6 h0_7 h0_8 h0_9 h0_10 h0_11 h0_12 h0_13 h0_14 h0_f15 h0_7 h0_7_f0 h0_7_f1 h0_7_f2 h0_7_f3 h0_7_4 h0_7_5 h0_7_6 h0_7_7 h0_7_8 h0_7_9 h0_7_10 h0_7_11 h0_7_12 h0_9 h0_9_0 h0_9_f1 h0_9_f2 h0_9_3 h0_9_4 h0_9_5 h0_9_f6 h0_9_3 h0_9_3k h0_9_3c) sz) := by
  refine Met.ofW (cc := cX11_log) (maxL := 3) (ret := (some .int)) (by decide) rfl ?_
  intro p e s m args below meth c s₁ B hml hv
  obtain ⟨rfl, hsz, hP, hK, hD0⟩ := hv
  have hx := B.exec
  have hb := B.bytes
  have hr := B.returns
  have hts := atoms_spec (ws := wf_c_X11_log) B.pre
  have hown : s.vm.findClass RX11 = some m.cls := findClass_of_methodNamed B.named
  have hlocks := B.notSynchronized
  subst hsz
  have hD := hD0.self (sz := s.heap.size)
  generalize hAe : va_A (wd_c_X11_log h0 h0_0 h0_1 h0_2 h0_3 h0_4 h0_f5 h0_6 h0_7 h0_8 h0_9 h0_10 h0_11 h0_12 h0_13 h0_14 h0_f15 h0_7 h0_7_f0 h0_7_f1 h0_7_f2 h0_7_f3 h0_7_4 h0_7_5 h0_7_6 h0_7_7 h0_7_8 h0_7_9 h0_7_10 h0_7_11 h0_7_12 h0_9 h0_9_0 h0_9_f1 h0_9_f2 h0_9_3 h0_9_4 h0_9_5 h0_9_f6 h0_9_3 h0_9_3k h0_9_3c) s.heap.size = A at hD ⊢
  have hA : ∀ q : Nat, s.heap.size ≤ q → A q := fun q h => by rw [← hAe]; exact Or.inr h
  have hP : va_P (dC, dI) vwCl (wd_c_X11_log h0 h0_0 h0_1 h0_2 h0_3 h0_4 h0_f5 h0_6 h0_7 h0_8 h0_9 h0_10 h0_11 h0_12 h0_13 h0_14 h0_f15 h0_7 h0_7_f0 h0_7_f1 h0_7_f2 h0_7_f3 h0_7_4 h0_7_5 h0_7_6 h0_7_7 h0_7_8 h0_7_9 h0_7_10 h0_7_11 h0_7_12 h0_9 h0_9_0 h0_9_f1 h0_9_f2 h0_9_3 h0_9_4 h0_9_5 h0_9_f6 h0_9_3 h0_9_3k h0_9_3c) s.heap := hP
  have hl := lv_entry ([.ref h0, .int p1, .int p2]) (n := 3) (Nat.le_of_ble_eq_true rfl)
  rw [lg_entry_eq]
  generalize (lg_sl ([.ref h0, .int p1, .int p2]) ++ List.replicate (3 - (lg_sl ([.ref h0, .int p1, .int p2])).length) Slot.unset).toArray = ls at hl ⊢
  have hl : lv_has ls 3 [(0, .ref h0), (1, .int p1), (2, .int p2)] := hl
  obtain ⟨H, hHe⟩ : ∃ H : Heap, s.heap = H := ⟨_, rfl⟩
  have hS : va_S A s.heap H [] := by rw [hHe]; exact va_S.rf
  have hP : va_P (dC, dI) vwCl (wd_c_X11_log h0 h0_0 h0_1 h0_2 h0_3 h0_4 h0_f5 h0_6 h0_7 h0_8 h0_9 h0_10 h0_11 h0_12 h0_13 h0_14 h0_f15 h0_7 h0_7_f0 h0_7_f1 h0_7_f2 h0_7_f3 h0_7_4 h0_7_5 h0_7_6 h0_7_7 h0_7_8 h0_7_9 h0_7_10 h0_7_11 h0_7_12 h0_9 h0_9_0 h0_9_f1 h0_9_f2 h0_9_3 h0_9_4 h0_9_5 h0_9_f6 h0_9_3 h0_9_3k h0_9_3c) H := by rw [← hHe]; exact hP
  rw [hHe]
  refine lv_iload_n hx hb dX11_log_0 rfl (lv_at hl 1 rfl) ?_
  refine lv_iconst (v := 0) hx hb dX11_log_1 kc_iconst_0 ?_
  refine lv_aload_n hx hb dX11_log_2 rfl (lv_at hl 0 rfl) ?_
  refine va_get (D := (dC, dI)) (ci := 11) (v := .ref h0_7) (C := RX11) (T := TX11) (N := 16) hx hb hts iw_c_X11_log_X11 hown hK hP 0 rfl rfl 7 (by decide) (hts (.fieldLink RX11 52 "BuoyVote" "now" "LBuoyVote$Sea;") (List.mem_of_getElem? (i := 1) rfl)) (fun _ h9 => h9) rfl dX11_log_3 ?_
  have hPc := hP.sub (ws' := (wd_c_X7_logLength_1 h0_7 h0_7_f0 h0_7_f1 h0_7_f2 h0_7_f3 h0_7_4 h0_7_5 h0_7_6 h0_7_7 h0_7_8 h0_7_9 h0_7_10 h0_7_11 h0_7_12)) [1] rfl
  have hDc := hD.sub (ws' := (wd_c_X7_logLength_1 h0_7 h0_7_f0 h0_7_f1 h0_7_f2 h0_7_f3 h0_7_4 h0_7_5 h0_7_6 h0_7_7 h0_7_8 h0_7_9 h0_7_10 h0_7_11 h0_7_12)) [1] (by decide) rfl
  have hKc := hK.sub (tys' := []) [] rfl
  have hFc := va_free (wc := (wd_c_X7_logLength_1 h0_7 h0_7_f0 h0_7_f1 h0_7_f2 h0_7_f3 h0_7_4 h0_7_5 h0_7_6 h0_7_7 h0_7_8 h0_7_9 h0_7_10 h0_7_11 h0_7_12)) hD hS hA [1] rfl
  refine va_calli (va_runV (As := []) (rest := [.int 0, .int p1]) ⟨hx, hb, hml, hown, hts⟩ (c_X7_logLength_1 l dC dI H.size h0_7 h0_7_f0 h0_7_f1 h0_7_f2 h0_7_f3 h0_7_4 h0_7_5 h0_7_6 h0_7_7 h0_7_8 h0_7_9 h0_7_10 h0_7_11 h0_7_12 g_h0_7_f3) (cwV 0 hts gf_c_X11_log_c_X7_logLength_1 rfl rfl rfl (by decide +kernel) ⟨Nat.le_of_ble_eq_true rfl, Nat.le_of_ble_eq_true rfl⟩) ⟨fun a U g mk q => by obtain ⟨q0, q1, qP, qK, qD⟩ := q; exact ⟨q0, q1, qP, va_K.moved (u := U) (U := U.calling g mk a) (Vm.Alike.refl U.vm) qK, qD⟩, va_recv hKc hPc (ci := 7) (q0 := 0) rfl rfl, fun U hU hW => ⟨rfl, by rw [hU], by rw [hU]; exact hPc, va_K.moved hW.alike hKc, hDc.weaken (fun _ _ _ _ => trivial)⟩⟩ rfl rfl hl.1 rfl (lv_room (Nat.le_of_ble_eq_true rfl)) dX11_log_6 ⟨Nat.le_of_ble_eq_true rfl, Nat.le_of_ble_eq_true rfl⟩) hS (fun q _ h => hFc q h) hFc (fun r_1 u t H1 locs ht hvm hw hB hz1 hk1 hS => ?_)
  obtain ⟨hP1, hK1, hD1⟩ := hB
  rw [ht] at hP1
  obtain ⟨hP, hD⟩ := va_join (wr := [(h0, .inr (11, [.ref h0_0, .ref h0_1, .ref h0_2, .ref h0_3, .ref h0_4, .int h0_f5, .ref h0_6, .ref h0_7, .ref h0_8, .ref h0_9, .ref h0_10, .ref h0_11, .ref h0_12, .ref h0_13, .ref h0_14, .long h0_f15])), (h0_9, .inr (3, [.ref h0_9_0, .int h0_9_f1, .int h0_9_f2, .ref h0_9_3, .ref h0_9_4, .ref h0_9_5, .int h0_9_f6])), (h0_9_3, .inl (h0_9_3k, 300, .inl h0_9_3c))]) (w1 := (wd_c_X7_logLength_1 h0_7 h0_7_f0 h0_7_f1 h0_7_f2 h0_7_f3 h0_7_4 h0_7_5 h0_7_6 h0_7_7 h0_7_8 h0_7_9 h0_7_10 h0_7_11 h0_7_12)) hP hD [1] [0, 2, 3] rfl rfl (by decide) (by decide) hk1 hFc hP1 hD1
  have hP := hP.sub (ws' := (wd_c_X11_log h0 h0_0 h0_1 h0_2 h0_3 h0_4 h0_f5 h0_6 h0_7 h0_8 h0_9 h0_10 h0_11 h0_12 h0_13 h0_14 h0_f15 h0_7 h0_7_f0 h0_7_f1 h0_7_f2 h0_7_f3 h0_7_4 h0_7_5 h0_7_6 h0_7_7 h0_7_8 h0_7_9 h0_7_10 h0_7_11 h0_7_12 h0_9 h0_9_0 h0_9_f1 h0_9_f2 h0_9_3 h0_9_4 h0_9_5 h0_9_f6 h0_9_3 h0_9_3k h0_9_3c)) [0, 3, 1, 2] rfl
  have hD := hD.sub (ws' := (wd_c_X11_log h0 h0_0 h0_1 h0_2 h0_3 h0_4 h0_f5 h0_6 h0_7 h0_8 h0_9 h0_10 h0_11 h0_12 h0_13 h0_14 h0_f15 h0_7 h0_7_f0 h0_7_f1 h0_7_f2 h0_7_f3 h0_7_4 h0_7_5 h0_7_6 h0_7_7 h0_7_8 h0_7_9 h0_7_10 h0_7_11 h0_7_12 h0_9 h0_9_0 h0_9_f1 h0_9_f2 h0_9_3 h0_9_4 h0_9_5 h0_9_f6 h0_9_3 h0_9_3k h0_9_3c)) [0, 3, 1, 2] (by decide) rfl
  generalize H1 = H at hP hS ⊢
  rcases hw with ⟨h_2, h_3⟩
  refine lv_iconst (v := 1) hx hb dX11_log_9 kc_iconst_1 ?_
  refine lv_isub hx hb dX11_log_10 ?_
  refine lv_topi (fun x_4 ex_4 => ?_)
  have g_5 : RG x_4 (-1) 59 := RG_sub ex_4 h_2 (RG_k 1 1 rfl) (by decide)
  have hPc := hP.sub (ws' := []) [] rfl
  have hDc := hD.sub (ws' := []) [] (by decide) rfl
  have hKc := hK.sub (tys' := []) [] rfl
  have hFc := va_free (wc := []) hD hS hA [] rfl
  refine va_calli (va_runS (As := [.int p1, .int 0, .int x_4]) (rest := []) ⟨hx, hb, hml, hown, hts⟩ (c_X11_isWithin_2 l dC dI H.size p1 x_4 g_5) (va_cwS 3 hts gf_c_X11_log_c_X11_isWithin_2 rfl rfl rfl (by decide +kernel) ⟨Nat.le_of_ble_eq_true rfl, Nat.le_of_ble_eq_true rfl⟩) ⟨fun a U g mk q => by obtain ⟨q0, q1, qP, qK, qD⟩ := q; exact ⟨q0, q1, qP, va_K.moved (u := U) (U := U.calling g mk a) (Vm.Alike.refl U.vm) qK, qD⟩, fun U hU hW => ⟨rfl, by rw [hU], by rw [hU]; exact hPc, va_K.moved hW.alike hKc, hDc.weaken (fun _ _ _ _ => trivial)⟩⟩ rfl rfl hl.1 rfl (lv_room (Nat.le_of_ble_eq_true rfl)) dX11_log_11 ⟨Nat.le_of_ble_eq_true rfl, Nat.le_of_ble_eq_true rfl⟩) hS (fun q _ h => hFc q h) hFc (fun r_6 u t H1 locs ht hvm hw hB hz1 hk1 hS => ?_)
  obtain ⟨hP1, hK1, hD1⟩ := hB
  rw [ht] at hP1
  have hP := bv_still hP hk1
  generalize H1 = H at hP hS ⊢
  rcases hw with ⟨h_7, h_8⟩ | ⟨h_9, h_10, h_11, h_12⟩
  · rw [h_7]
    refine lv_if_eq (tgt := 26) hx hb dX11_log_14 rfl (fun c_13 => ?_) (fun c_13 => absurd c_13 (by decide))
    refine lv_iconst (v := (-1)) hx hb dX11_log_26 kc_iconst_m1 ?_
    have hK9 := hK.sub (tys' := []) [] rfl
    exact W.iret (v := (-1)) hx hb hr (fun t ht hW => ⟨⟨(-1), (), rfl, (Or.inl rfl), by rw [ht]; exact hP, va_K.moved hW.alike hK9, hD⟩, hS.F ht⟩) hS.2.2 dX11_log_27
  · rw [h_9]
    have g_14 : RG r_1 1 60 := RG_addb (RG_sc (d := (-1)) ex_4 rfl) (q := (-1)) rfl h_2 h_11 (by decide)
    refine lv_if_eq (tgt := 26) hx hb dX11_log_14 rfl (fun c_15 => absurd c_15 (by decide)) (fun c_15 => ?_)
    refine lv_iload_n hx hb dX11_log_17 rfl (lv_at hl 2 rfl) ?_
    refine lv_iconst (v := 0) hx hb dX11_log_18 kc_iconst_0 ?_
    refine lv_iconst (v := 2) hx hb dX11_log_19 kc_iconst_2 ?_
    have hPc := hP.sub (ws' := []) [] rfl
    have hDc := hD.sub (ws' := []) [] (by decide) rfl
    have hKc := hK.sub (tys' := []) [] rfl
    have hFc := va_free (wc := []) hD hS hA [] rfl
    refine va_calli (va_runS (As := [.int p2, .int 0, .int 2]) (rest := []) ⟨hx, hb, hml, hown, hts⟩ (c_X11_isWithin_3 l dC dI H.size p2) (va_cwS 3 hts gf_c_X11_log_c_X11_isWithin_3 rfl rfl rfl (by decide +kernel) ⟨Nat.le_of_ble_eq_true rfl, Nat.le_of_ble_eq_true rfl⟩) ⟨fun a U g mk q => by obtain ⟨q0, q1, qP, qK, qD⟩ := q; exact ⟨q0, q1, qP, va_K.moved (u := U) (U := U.calling g mk a) (Vm.Alike.refl U.vm) qK, qD⟩, fun U hU hW => ⟨rfl, by rw [hU], by rw [hU]; exact hPc, va_K.moved hW.alike hKc, hDc.weaken (fun _ _ _ _ => trivial)⟩⟩ rfl rfl hl.1 rfl (lv_room (Nat.le_of_ble_eq_true rfl)) dX11_log_20 ⟨Nat.le_of_ble_eq_true rfl, Nat.le_of_ble_eq_true rfl⟩) hS (fun q _ h => hFc q h) hFc (fun r_16 u t H1 locs ht hvm hw hB hz1 hk1 hS => ?_)
    obtain ⟨hP1, hK1, hD1⟩ := hB
    rw [ht] at hP1
    have hP := bv_still hP hk1
    generalize H1 = H at hP hS ⊢
    rcases hw with ⟨h_17, h_18⟩ | ⟨h_19, h_20⟩
    · rw [h_17]
      refine lv_if_ne (tgt := 28) hx hb dX11_log_23 rfl (fun c_21 => absurd c_21 (by decide)) (fun c_21 => ?_)
      refine lv_iconst (v := (-1)) hx hb dX11_log_26 kc_iconst_m1 ?_
      have hK9 := hK.sub (tys' := []) [] rfl
      exact W.iret (v := (-1)) hx hb hr (fun t ht hW => ⟨⟨(-1), (), rfl, (Or.inl rfl), by rw [ht]; exact hP, va_K.moved hW.alike hK9, hD⟩, hS.F ht⟩) hS.2.2 dX11_log_27
    · rw [h_19]
      refine lv_if_ne (tgt := 28) hx hb dX11_log_23 rfl (fun c_22 => ?_) (fun c_22 => absurd c_22 (by decide))
      refine lv_aload_n hx hb dX11_log_28 rfl (lv_at hl 0 rfl) ?_
      refine va_get (D := (dC, dI)) (ci := 11) (v := .ref h0_9) (C := RX11) (T := TX11) (N := 16) hx hb hts iw_c_X11_log_X11 hown hK hP 0 rfl rfl 9 (by decide) (hts (.fieldLink RX11 62 "BuoyVote" "history" "LBuoyVote$History;") (List.mem_of_getElem? (i := 16) rfl)) (fun _ h9 => h9) rfl dX11_log_29 ?_
      refine lv_aload_n hx hb dX11_log_32 rfl (lv_at hl 0 rfl) ?_
      refine va_get (D := (dC, dI)) (ci := 11) (v := .ref h0_7) (C := RX11) (T := TX11) (N := 16) hx hb hts iw_c_X11_log_X11 hown hK hP 0 rfl rfl 7 (by decide) (hts (.fieldLink RX11 52 "BuoyVote" "now" "LBuoyVote$Sea;") (List.mem_of_getElem? (i := 1) rfl)) (fun _ h9 => h9) rfl dX11_log_33 ?_
      refine va_get (D := (dC, dI)) (ci := 7) (v := .int h0_7_f3) (C := RX7) (T := TX7) (N := 13) hx hb hts iw_c_X11_log_X7 hown hK hP 1 rfl rfl 3 (by decide) (hts (.fieldLink RX11 288 "BuoyVote$Sea" "logged" "I") (List.mem_of_getElem? (i := 17) rfl)) (fun _ h9 => h9) rfl dX11_log_36 ?_
      refine lv_iconst (v := 1) hx hb dX11_log_39 kc_iconst_1 ?_
      refine lv_isub hx hb dX11_log_40 ?_
      refine lv_topi (fun x_23 ex_23 => ?_)
      have g_24 : RG x_23 (-1) 9998 := RG_sub ex_23 g_h0_7_f3 (RG_k 1 1 rfl) (by decide)
      refine lv_iload_n hx hb dX11_log_41 rfl (lv_at hl 1 rfl) ?_
      refine lv_isub hx hb dX11_log_42 ?_
      refine lv_topi (fun x_25 ex_25 => ?_)
      have g_26 : RG x_25 0 9998 := RG_subd ex_25 g_24 h_10 (c := 0) (by have := h_12; have := eq_add (RG_sc (d := (-1)) ex_4 rfl) g_14 (q := (-1)) rfl (by decide); have := h_3; have := eq_add (RG_sc (d := (-1)) ex_23 rfl) g_h0_7_f3 (q := (-1)) rfl (by decide); have := (g_24).1; have := (h_10).2; omega) (by decide)
      refine lv_iload_n hx hb dX11_log_43 rfl (lv_at hl 2 rfl) ?_
      have hPc := hP.sub (ws' := (wd_c_X3_logged h0_9 h0_9_0 h0_9_f1 h0_9_f2 h0_9_3 h0_9_4 h0_9_5 h0_9_f6 h0_9_3 h0_9_3k h0_9_3c)) [2, 3] rfl
      have hDc := hD.sub (ws' := (wd_c_X3_logged h0_9 h0_9_0 h0_9_f1 h0_9_f2 h0_9_3 h0_9_4 h0_9_5 h0_9_f6 h0_9_3 h0_9_3k h0_9_3c)) [2, 3] (by decide) rfl
      have hKc := hK.sub (tys' := [(h0_9_3k, .int)]) [0] rfl
      have hFc := va_free (wc := (wd_c_X3_logged h0_9 h0_9_0 h0_9_f1 h0_9_f2 h0_9_3 h0_9_4 h0_9_5 h0_9_f6 h0_9_3 h0_9_3k h0_9_3c)) hD hS hA [2, 3] rfl
      refine va_calli (va_runV (As := [.int x_25, .int p2]) (rest := []) ⟨hx, hb, hml, hown, hts⟩ (c_X3_logged l dC dI H.size h0_9 x_25 p2 h0_9_0 h0_9_f1 h0_9_f2 h0_9_3 h0_9_4 h0_9_5 h0_9_f6 h0_9_3k h0_9_3c (RG_w g_26 (by decide)) h_20 g_h0_9_f1 g_h0_9_f2 g_h0_9_f6) (cwV 2 hts gf_c_X11_log_c_X3_logged rfl rfl rfl (by decide +kernel) ⟨Nat.le_of_ble_eq_true rfl, Nat.le_of_ble_eq_true rfl⟩) ⟨fun a U g mk q => by obtain ⟨q0, q1, qP, qK, qD⟩ := q; exact ⟨q0, q1, qP, va_K.moved (u := U) (U := U.calling g mk a) (Vm.Alike.refl U.vm) qK, qD⟩, va_recv hKc hPc (ci := 3) (q0 := 0) rfl rfl, fun U hU hW => ⟨rfl, by rw [hU], by rw [hU]; exact hPc, va_K.moved hW.alike hKc, hDc.weaken (fun _ _ _ _ => trivial)⟩⟩ rfl rfl hl.1 rfl (lv_room (Nat.le_of_ble_eq_true rfl)) dX11_log_44 ⟨Nat.le_of_ble_eq_true rfl, Nat.le_of_ble_eq_true rfl⟩) hS (fun q _ h => hFc q h) hFc (fun r_27 u t H1 locs ht hvm hw hB hz1 hk1 hS => ?_)
      obtain ⟨hP1, hK1, hD1⟩ := hB
      rw [ht] at hP1
      obtain ⟨hP, hD⟩ := va_join (wr := [(h0, .inr (11, [.ref h0_0, .ref h0_1, .ref h0_2, .ref h0_3, .ref h0_4, .int h0_f5, .ref h0_6, .ref h0_7, .ref h0_8, .ref h0_9, .ref h0_10, .ref h0_11, .ref h0_12, .ref h0_13, .ref h0_14, .long h0_f15])), (h0_7, .inr (7, [.int h0_7_f0, .int h0_7_f1, .int h0_7_f2, .int h0_7_f3, .ref h0_7_4, .ref h0_7_5, .ref h0_7_6, .ref h0_7_7, .ref h0_7_8, .ref h0_7_9, .ref h0_7_10, .ref h0_7_11, .ref h0_7_12]))]) (w1 := (wd_c_X3_logged h0_9 h0_9_0 h0_9_f1 h0_9_f2 h0_9_3 h0_9_4 h0_9_5 h0_9_f6 h0_9_3 h0_9_3k h0_9_3c)) hP hD [2, 3] [0, 1] rfl rfl (by decide) (by decide) hk1 hFc hP1 hD1
      have hP := hP.sub (ws' := (wd_c_X11_log h0 h0_0 h0_1 h0_2 h0_3 h0_4 h0_f5 h0_6 h0_7 h0_8 h0_9 h0_10 h0_11 h0_12 h0_13 h0_14 h0_f15 h0_7 h0_7_f0 h0_7_f1 h0_7_f2 h0_7_f3 h0_7_4 h0_7_5 h0_7_6 h0_7_7 h0_7_8 h0_7_9 h0_7_10 h0_7_11 h0_7_12 h0_9 h0_9_0 h0_9_f1 h0_9_f2 h0_9_3 h0_9_4 h0_9_5 h0_9_f6 h0_9_3 h0_9_3k h0_9_3c)) [0, 1, 2, 3] rfl
      have hD := hD.sub (ws' := (wd_c_X11_log h0 h0_0 h0_1 h0_2 h0_3 h0_4 h0_f5 h0_6 h0_7 h0_8 h0_9 h0_10 h0_11 h0_12 h0_13 h0_14 h0_f15 h0_7 h0_7_f0 h0_7_f1 h0_7_f2 h0_7_f3 h0_7_4 h0_7_5 h0_7_6 h0_7_7 h0_7_8 h0_7_9 h0_7_10 h0_7_11 h0_7_12 h0_9 h0_9_0 h0_9_f1 h0_9_f2 h0_9_3 h0_9_4 h0_9_5 h0_9_f6 h0_9_3 h0_9_3k h0_9_3c)) [0, 1, 2, 3] (by decide) rfl
      generalize H1 = H at hP hS ⊢
      have h_28 := hw
      have hK9 := hK.sub (tys' := []) [] rfl
      exact W.iret (v := r_27) hx hb hr (fun t ht hW => ⟨⟨r_27, (), rfl, (Or.inr ⟨h_28, h_10, h_20⟩), by rw [ht]; exact hP, va_K.moved hW.alike hK9, hD⟩, hS.F ht⟩) hS.2.2 dX11_log_47
def wd_c_X11_isPlan (a0 : Nat) (a1 : Nat) (a2 : Nat) (a3 : Nat) (a4 : Nat) (a5 : Nat) (a6 : Int32) (a7 : Nat) (a8 : Nat) (a9 : Nat) (a10 : Nat) (a11 : Nat) (a12 : Nat) (a13 : Nat) (a14 : Nat) (a15 : Nat) (a16 : Int64) : va_W := [(a0, .inr (11, [.ref a1, .ref a2, .ref a3, .ref a4, .ref a5, .int a6, .ref a7, .ref a8, .ref a9, .ref a10, .ref a11, .ref a12, .ref a13, .ref a14, .ref a15, .long a16]))]
def wf_c_X11_isPlan : List Cond := .code yX11_isPlan cX11_isPlan 2 (some .boolean) :: ([.fieldLink RX11 126 "BuoyVote" "planCount" "I"] ++ wsX110)
theorem iw_c_X11_isPlan_X11 : ∀ w ∈ wsX110, w ∈ wf_c_X11_isPlan := fun w h => List.mem_cons_of_mem _ (List.mem_append_right _ h)
set_option maxHeartbeats 4000000 in
set_option maxRecDepth 100000 in
theorem c_X11_isPlan (l : Launch) (dC : Nat → ClassId) (dI : Nat → Nat → Nat) (sz : Nat) (h0 : Nat) (p1 : Int32) (h0_0 : Nat) (h0_1 : Nat) (h0_2 : Nat) (h0_3 : Nat) (h0_4 : Nat) (h0_f5 : Int32) (h0_6 : Nat) (h0_7 : Nat) (h0_8 : Nat) (h0_9 : Nat) (h0_10 : Nat) (h0_11 : Nat) (h0_12 : Nat) (h0_13 : Nat) (h0_14 : Nat) (h0_f15 : Int64) (g_h0_f5 : RG h0_f5 0 4) : Met l yX11_isPlan wf_c_X11_isPlan ({ frames := 0, cells := 0, slots := 0, locals := 0 }) (va_Pc [.ref h0, .int p1] (fun U => U.heap.size = sz ∧ va_P (dC, dI) vwCl (wd_c_X11_isPlan h0 h0_0 h0_1 h0_2 h0_3 h0_4 h0_f5 h0_6 h0_7 h0_8 h0_9 h0_10 h0_11 h0_12 h0_13 h0_14 h0_f15) U.heap ∧ va_K (dC, dI) vwCl [] U ∧ va_D (fun _ => True) (wd_c_X11_isPlan h0 h0_0 h0_1 h0_2 h0_3 h0_4 h0_f5 h0_6 h0_7 h0_8 h0_9 h0_10 h0_11 h0_12 h0_13 h0_14 h0_f15))) (va_Qi (fun (r : Int32) (u : Unit) => (r = 0 ∧ RG p1 (-2147483648) 2147483647) ∨ (r = 1 ∧ RG h0_f5 1 4 ∧ RG p1 0 3)) (fun (u : Unit) t => va_P (dC, dI) vwCl (wd_c_X11_isPlan h0 h0_0 h0_1 h0_2 h0_3 h0_4 h0_f5 h0_6 h0_7 h0_8 h0_9 h0_10 h0_11 h0_12 h0_13 h0_14 h0_f15) t.heap ∧ va_K (dC, dI) vwCl [] t ∧ va_D (va_A (wd_c_X11_isPlan h0 h0_0 h0_1 h0_2 h0_3 h0_4 h0_f5 h0_6 h0_7 h0_8 h0_9 h0_10 h0_11 h0_12 h0_13 h0_14 h0_f15) sz) (wd_c_X11_isPlan h0 h0_0 h0_1 h0_2 h0_3 h0_4 h0_f5 h0_6 h0_7 h0_8 h0_9 h0_10 h0_11 h0_12 h0_13 h0_14 h0_f15)) (va_A (wd_c_X11_isPlan h0 h0_0 h0_1 h0_2 h0_3 h0_4 h0_f5 h0_6 h0_7 h0_8 h0_9 h0_10 h0_11 h0_12 h0_13 h0_14 h0_f15) sz)) 0 0 (va_A (wd_c_X11_isPlan h0 h0_0 h0_1 h0_2 h0_3 h0_4 h0_f5 h0_6 h0_7 h0_8 h0_9 h0_10 h0_11 h0_12 h0_13 h0_14 h0_f15) sz) := by
  refine Met.ofW (cc := cX11_isPlan) (maxL := 2) (ret := (some .boolean)) (by decide) rfl ?_
  intro p e s m args below meth c s₁ B hml hv
  obtain ⟨rfl, hsz, hP, hK, hD0⟩ := hv
  have hx := B.exec
  have hb := B.bytes
  have hr := B.returns
  have hts := atoms_spec (ws := wf_c_X11_isPlan) B.pre
  have hown : s.vm.findClass RX11 = some m.cls := findClass_of_methodNamed B.named
  have hlocks := B.notSynchronized
  subst hsz
  have hD := hD0.self (sz := s.heap.size)
  generalize hAe : va_A (wd_c_X11_isPlan h0 h0_0 h0_1 h0_2 h0_3 h0_4 h0_f5 h0_6 h0_7 h0_8 h0_9 h0_10 h0_11 h0_12 h0_13 h0_14 h0_f15) s.heap.size = A at hD ⊢
  have hA : ∀ q : Nat, s.heap.size ≤ q → A q := fun q h => by rw [← hAe]; exact Or.inr h
  have hP : va_P (dC, dI) vwCl (wd_c_X11_isPlan h0 h0_0 h0_1 h0_2 h0_3 h0_4 h0_f5 h0_6 h0_7 h0_8 h0_9 h0_10 h0_11 h0_12 h0_13 h0_14 h0_f15) s.heap := hP
  have hl := lv_entry ([.ref h0, .int p1]) (n := 2) (Nat.le_of_ble_eq_true rfl)
  rw [lg_entry_eq]
  generalize (lg_sl ([.ref h0, .int p1]) ++ List.replicate (2 - (lg_sl ([.ref h0, .int p1])).length) Slot.unset).toArray = ls at hl ⊢
  have hl : lv_has ls 2 [(0, .ref h0), (1, .int p1)] := hl
  obtain ⟨H, hHe⟩ : ∃ H : Heap, s.heap = H := ⟨_, rfl⟩
  have hS : va_S A s.heap H [] := by rw [hHe]; exact va_S.rf
  have hP : va_P (dC, dI) vwCl (wd_c_X11_isPlan h0 h0_0 h0_1 h0_2 h0_3 h0_4 h0_f5 h0_6 h0_7 h0_8 h0_9 h0_10 h0_11 h0_12 h0_13 h0_14 h0_f15) H := by rw [← hHe]; exact hP
  rw [hHe]
  refine lv_iload_n hx hb dX11_isPlan_0 rfl (lv_at hl 1 rfl) ?_
  refine lv_if_lt (tgt := 16) hx hb dX11_isPlan_1 rfl (fun c_1 => ?_) (fun c_1 => ?_)
  · have g_2 : RG p1 (-2147483648) (-1) := RG_lt1 (RG_any p1) (RG_k 0 0 rfl) c_1 (by decide)
    refine lv_iconst (v := 0) hx hb dX11_isPlan_16 kc_iconst_0 ?_
    have hK9 := hK.sub (tys' := []) [] rfl
    exact W.zret (v := 0) hx hb hr rfl (fun t ht hW => ⟨⟨0, (), rfl, (Or.inl ⟨rfl, (RG_w g_2 (by decide))⟩), by rw [ht]; exact hP, va_K.moved hW.alike hK9, hD⟩, hS.F ht⟩) hS.2.2 dX11_isPlan_17
  · have d_3 := Int32.not_lt.mp c_1
    have g_4 : RG p1 0 2147483647 := RG_le2 (RG_k 0 0 rfl) (RG_any p1) d_3 (by decide)
    refine lv_iload_n hx hb dX11_isPlan_4 rfl (lv_at hl 1 rfl) ?_
    refine lv_aload_n hx hb dX11_isPlan_5 rfl (lv_at hl 0 rfl) ?_
    refine va_get (D := (dC, dI)) (ci := 11) (v := .int h0_f5) (C := RX11) (T := TX11) (N := 16) hx hb hts iw_c_X11_isPlan_X11 hown hK hP 0 rfl rfl 5 (by decide) (hts (.fieldLink RX11 126 "BuoyVote" "planCount" "I") (List.mem_of_getElem? (i := 1) rfl)) (fun _ h9 => h9) rfl dX11_isPlan_6 ?_
    refine lv_icmp_ge (tgt := 16) hx hb dX11_isPlan_9 rfl (fun c_5 => ?_) (fun c_5 => ?_)
    · refine lv_iconst (v := 0) hx hb dX11_isPlan_16 kc_iconst_0 ?_
      have hK9 := hK.sub (tys' := []) [] rfl
      exact W.zret (v := 0) hx hb hr rfl (fun t ht hW => ⟨⟨0, (), rfl, (Or.inl ⟨rfl, (RG_w g_4 (by decide))⟩), by rw [ht]; exact hP, va_K.moved hW.alike hK9, hD⟩, hS.F ht⟩) hS.2.2 dX11_isPlan_17
    · have d_6 := Int32.not_le.mp c_5
      have g_7 : RG p1 0 3 := RG_lt1 g_4 g_h0_f5 d_6 (by decide)
      have g_8 : RG h0_f5 1 4 := RG_lt2 g_4 g_h0_f5 d_6 (by decide)
      refine lv_iconst (v := 1) hx hb dX11_isPlan_12 kc_iconst_1 ?_
      refine lv_goto (tgt := 17) hx hb dX11_isPlan_13 rfl ?_
      have hK9 := hK.sub (tys' := []) [] rfl
      exact W.zret (v := 1) hx hb hr rfl (fun t ht hW => ⟨⟨1, (), rfl, (Or.inr ⟨rfl, g_8, g_7⟩), by rw [ht]; exact hP, va_K.moved hW.alike hK9, hD⟩, hS.F ht⟩) hS.2.2 dX11_isPlan_17
def wf_c_X11_isWithin_4 : List Cond := .code yX11_isWithin cX11_isWithin 3 (some .boolean) :: ([])
set_option maxHeartbeats 4000000 in
set_option maxRecDepth 100000 in
theorem c_X11_isWithin_4 (l : Launch) (dC : Nat → ClassId) (dI : Nat → Nat → Nat) (sz : Nat) (p0 : Int32) (p2 : Int32) (g_p2 : RG p2 (-1) 15) : Met l yX11_isWithin wf_c_X11_isWithin_4 ({ frames := 0, cells := 0, slots := 0, locals := 0 }) (va_Pc [.int p0, .int 0, .int p2] (fun U => U.heap.size = sz ∧ va_P (dC, dI) vwCl [] U.heap ∧ va_K (dC, dI) vwCl [] U ∧ va_D (fun _ => True) [])) (va_Qi (fun (r : Int32) (u : Unit) => (r = 0 ∧ RG p0 (-2147483648) 2147483647) ∨ (r = 1 ∧ RG p0 0 15 ∧ RG p2 0 15 ∧ p0.toInt ≤ p2.toInt + 0)) (fun (u : Unit) t => va_P (dC, dI) vwCl [] t.heap ∧ va_K (dC, dI) vwCl [] t ∧ va_D (va_A [] sz) []) (va_A [] sz)) 0 0 (va_A [] sz) := by
  refine Met.ofW (cc := cX11_isWithin) (maxL := 3) (ret := (some .boolean)) (by decide) rfl ?_
  intro p e s m args below meth c s₁ B hml hv
  obtain ⟨rfl, hsz, hP, hK, hD0⟩ := hv
  have hx := B.exec
  have hb := B.bytes
  have hr := B.returns
  have hts := atoms_spec (ws := wf_c_X11_isWithin_4) B.pre
  have hown : s.vm.findClass RX11 = some m.cls := findClass_of_methodNamed B.named
  have hlocks := B.notSynchronized
  subst hsz
  have hD := hD0.self (sz := s.heap.size)
  generalize hAe : va_A [] s.heap.size = A at hD ⊢
  have hA : ∀ q : Nat, s.heap.size ≤ q → A q := fun q h => by rw [← hAe]; exact Or.inr h
  have hP : va_P (dC, dI) vwCl [] s.heap := hP
  have hl := lv_entry ([.int p0, .int 0, .int p2]) (n := 3) (Nat.le_of_ble_eq_true rfl)
  rw [lg_entry_eq]
  generalize (lg_sl ([.int p0, .int 0, .int p2]) ++ List.replicate (3 - (lg_sl ([.int p0, .int 0, .int p2])).length) Slot.unset).toArray = ls at hl ⊢
  have hl : lv_has ls 3 [(0, .int p0), (1, .int 0), (2, .int p2)] := hl
  obtain ⟨H, hHe⟩ : ∃ H : Heap, s.heap = H := ⟨_, rfl⟩
  have hS : va_S A s.heap H [] := by rw [hHe]; exact va_S.rf
  have hP : va_P (dC, dI) vwCl [] H := by rw [← hHe]; exact hP
  rw [hHe]
  refine lv_iload_n hx hb dX11_isWithin_0 rfl (lv_at hl 0 rfl) ?_
  refine lv_iload_n hx hb dX11_isWithin_1 rfl (lv_at hl 1 rfl) ?_
  refine lv_icmp_lt (tgt := 14) hx hb dX11_isWithin_2 rfl (fun c_1 => ?_) (fun c_1 => ?_)
  · have g_2 : RG p0 (-2147483648) (-1) := RG_lt1 (RG_any p0) (RG_k 0 0 rfl) c_1 (by decide)
    refine lv_iconst (v := 0) hx hb dX11_isWithin_14 kc_iconst_0 ?_
    have hK9 := hK.sub (tys' := []) [] rfl
    exact W.zret (v := 0) hx hb hr rfl (fun t ht hW => ⟨⟨0, (), rfl, (Or.inl ⟨rfl, (RG_w g_2 (by decide))⟩), by rw [ht]; exact hP, va_K.moved hW.alike hK9, hD⟩, hS.F ht⟩) hS.2.2 dX11_isWithin_15
  · have d_3 := Int32.not_lt.mp c_1
    have g_4 : RG p0 0 2147483647 := RG_le2 (RG_k 0 0 rfl) (RG_any p0) d_3 (by decide)
    refine lv_iload_n hx hb dX11_isWithin_5 rfl (lv_at hl 0 rfl) ?_
    refine lv_iload_n hx hb dX11_isWithin_6 rfl (lv_at hl 2 rfl) ?_
    refine lv_icmp_gt (tgt := 14) hx hb dX11_isWithin_7 rfl (fun c_5 => ?_) (fun c_5 => ?_)
    · have b_6 : p2.toInt ≤ p0.toInt + (-1) := by have := Int32.lt_iff_toInt_lt.mp c_5; omega
      refine lv_iconst (v := 0) hx hb dX11_isWithin_14 kc_iconst_0 ?_
      have hK9 := hK.sub (tys' := []) [] rfl
      exact W.zret (v := 0) hx hb hr rfl (fun t ht hW => ⟨⟨0, (), rfl, (Or.inl ⟨rfl, (RG_w g_4 (by decide))⟩), by rw [ht]; exact hP, va_K.moved hW.alike hK9, hD⟩, hS.F ht⟩) hS.2.2 dX11_isWithin_15
    · have d_7 := Int32.not_lt.mp c_5
      have b_8 : p0.toInt ≤ p2.toInt + 0 := by have := Int32.le_iff_toInt_le.mp d_7; omega
      have g_9 : RG p0 0 15 := RG_le1 g_4 g_p2 d_7 (by decide)
      have g_10 : RG p2 0 15 := RG_le2 g_4 g_p2 d_7 (by decide)
      refine lv_iconst (v := 1) hx hb dX11_isWithin_10 kc_iconst_1 ?_
      refine lv_goto (tgt := 15) hx hb dX11_isWithin_11 rfl ?_
      have hK9 := hK.sub (tys' := []) [] rfl
      exact W.zret (v := 1) hx hb hr rfl (fun t ht hW => ⟨⟨1, (), rfl, (Or.inr ⟨rfl, g_9, g_10, (by have := b_8; have := (g_9).2; have := (g_10).1; show p0.toInt ≤ p2.toInt + 0; omega)⟩), by rw [ht]; exact hP, va_K.moved hW.alike hK9, hD⟩, hS.F ht⟩) hS.2.2 dX11_isWithin_15
def wf_c_X11_isWithin_5 : List Cond := .code yX11_isWithin cX11_isWithin 3 (some .boolean) :: ([])
set_option maxHeartbeats 4000000 in
set_option maxRecDepth 100000 in
theorem c_X11_isWithin_5 (l : Launch) (dC : Nat → ClassId) (dI : Nat → Nat → Nat) (sz : Nat) (p0 : Int32) : Met l yX11_isWithin wf_c_X11_isWithin_5 ({ frames := 0, cells := 0, slots := 0, locals := 0 }) (va_Pc [.int p0, .int 0, .int 3] (fun U => U.heap.size = sz ∧ va_P (dC, dI) vwCl [] U.heap ∧ va_K (dC, dI) vwCl [] U ∧ va_D (fun _ => True) [])) (va_Qi (fun (r : Int32) (u : Unit) => (r = 0 ∧ RG p0 (-2147483648) 2147483647) ∨ (r = 1 ∧ RG p0 0 3)) (fun (u : Unit) t => va_P (dC, dI) vwCl [] t.heap ∧ va_K (dC, dI) vwCl [] t ∧ va_D (va_A [] sz) []) (va_A [] sz)) 0 0 (va_A [] sz) := by
  refine Met.ofW (cc := cX11_isWithin) (maxL := 3) (ret := (some .boolean)) (by decide) rfl ?_
  intro p e s m args below meth c s₁ B hml hv
  obtain ⟨rfl, hsz, hP, hK, hD0⟩ := hv
  have hx := B.exec
  have hb := B.bytes
  have hr := B.returns
  have hts := atoms_spec (ws := wf_c_X11_isWithin_5) B.pre
  have hown : s.vm.findClass RX11 = some m.cls := findClass_of_methodNamed B.named
  have hlocks := B.notSynchronized
  subst hsz
  have hD := hD0.self (sz := s.heap.size)
  generalize hAe : va_A [] s.heap.size = A at hD ⊢
  have hA : ∀ q : Nat, s.heap.size ≤ q → A q := fun q h => by rw [← hAe]; exact Or.inr h
  have hP : va_P (dC, dI) vwCl [] s.heap := hP
  have hl := lv_entry ([.int p0, .int 0, .int 3]) (n := 3) (Nat.le_of_ble_eq_true rfl)
  rw [lg_entry_eq]
  generalize (lg_sl ([.int p0, .int 0, .int 3]) ++ List.replicate (3 - (lg_sl ([.int p0, .int 0, .int 3])).length) Slot.unset).toArray = ls at hl ⊢
  have hl : lv_has ls 3 [(0, .int p0), (1, .int 0), (2, .int 3)] := hl
  obtain ⟨H, hHe⟩ : ∃ H : Heap, s.heap = H := ⟨_, rfl⟩
  have hS : va_S A s.heap H [] := by rw [hHe]; exact va_S.rf
  have hP : va_P (dC, dI) vwCl [] H := by rw [← hHe]; exact hP
  rw [hHe]
  refine lv_iload_n hx hb dX11_isWithin_0 rfl (lv_at hl 0 rfl) ?_
  refine lv_iload_n hx hb dX11_isWithin_1 rfl (lv_at hl 1 rfl) ?_
  refine lv_icmp_lt (tgt := 14) hx hb dX11_isWithin_2 rfl (fun c_1 => ?_) (fun c_1 => ?_)
  · have g_2 : RG p0 (-2147483648) (-1) := RG_lt1 (RG_any p0) (RG_k 0 0 rfl) c_1 (by decide)
    refine lv_iconst (v := 0) hx hb dX11_isWithin_14 kc_iconst_0 ?_
    have hK9 := hK.sub (tys' := []) [] rfl
    exact W.zret (v := 0) hx hb hr rfl (fun t ht hW => ⟨⟨0, (), rfl, (Or.inl ⟨rfl, (RG_w g_2 (by decide))⟩), by rw [ht]; exact hP, va_K.moved hW.alike hK9, hD⟩, hS.F ht⟩) hS.2.2 dX11_isWithin_15
  · have d_3 := Int32.not_lt.mp c_1
    have g_4 : RG p0 0 2147483647 := RG_le2 (RG_k 0 0 rfl) (RG_any p0) d_3 (by decide)
    refine lv_iload_n hx hb dX11_isWithin_5 rfl (lv_at hl 0 rfl) ?_
    refine lv_iload_n hx hb dX11_isWithin_6 rfl (lv_at hl 2 rfl) ?_
    refine lv_icmp_gt (tgt := 14) hx hb dX11_isWithin_7 rfl (fun c_5 => ?_) (fun c_5 => ?_)
    · have g_6 : RG p0 4 2147483647 := RG_lt2 (RG_k 3 3 rfl) g_4 c_5 (by decide)
      refine lv_iconst (v := 0) hx hb dX11_isWithin_14 kc_iconst_0 ?_
      have hK9 := hK.sub (tys' := []) [] rfl
      exact W.zret (v := 0) hx hb hr rfl (fun t ht hW => ⟨⟨0, (), rfl, (Or.inl ⟨rfl, (RG_w g_6 (by decide))⟩), by rw [ht]; exact hP, va_K.moved hW.alike hK9, hD⟩, hS.F ht⟩) hS.2.2 dX11_isWithin_15
    · have d_7 := Int32.not_lt.mp c_5
      have g_8 : RG p0 0 3 := RG_le1 g_4 (RG_k 3 3 rfl) d_7 (by decide)
      refine lv_iconst (v := 1) hx hb dX11_isWithin_10 kc_iconst_1 ?_
      refine lv_goto (tgt := 15) hx hb dX11_isWithin_11 rfl ?_
      have hK9 := hK.sub (tys' := []) [] rfl
      exact W.zret (v := 1) hx hb hr rfl (fun t ht hW => ⟨⟨1, (), rfl, (Or.inr ⟨rfl, g_8⟩), by rw [ht]; exact hP, va_K.moved hW.alike hK9, hD⟩, hS.F ht⟩) hS.2.2 dX11_isWithin_15
def wd_c_X6_part (a0 : Nat) (a1 : Nat) (a2 : Int32) (a3 : Nat) (a4 : ClassId) (a5 : Nat → Int32) : va_W := [(a0, .inr (6, [.ref a1, .int a2])), (a3, .inl (a4, 64, .inl a5))]
def wf_c_X6_part : List Cond := .code yX6_part cX6_part 3 (some .int) :: ([.fieldLink RX6 11 "BuoyVote$Plan" "cells" "[I"] ++ wsX60)
theorem iw_c_X6_part_X6 : ∀ w ∈ wsX60, w ∈ wf_c_X6_part := fun w h => List.mem_cons_of_mem _ (List.mem_append_right _ h)
set_option maxHeartbeats 4000000 in
set_option maxRecDepth 100000 in
theorem c_X6_part (l : Launch) (dC : Nat → ClassId) (dI : Nat → Nat → Nat) (sz : Nat) (h0 : Nat) (p1 : Int32) (p2 : Int32) (h0_0 : Nat) (h0_f1 : Int32) (h0_0k : ClassId) (h0_0c : Nat → Int32) (g_p1 : RG p1 0 15) (g_p2 : RG p2 0 3) (g_h0_f1 : RG h0_f1 0 16) (a_h0_0c : AI h0_0c (-1) 9) : Met l yX6_part wf_c_X6_part ({ frames := 0, cells := 0, slots := 0, locals := 0 }) (va_Pc [.ref h0, .int p1, .int p2] (fun U => U.heap.size = sz ∧ va_P (dC, dI) vwCl (wd_c_X6_part h0 h0_0 h0_f1 h0_0 h0_0k h0_0c) U.heap ∧ va_K (dC, dI) vwCl [(h0_0k, .int)] U ∧ va_D (fun _ => True) (wd_c_X6_part h0 h0_0 h0_f1 h0_0 h0_0k h0_0c))) (va_Qi (fun (r : Int32) (u : Unit) => (RG r (-1) 9 ∧ r = h0_0c (p1 * 4 + p2).toNatClampNeg)) (fun (u : Unit) t => va_P (dC, dI) vwCl (wd_c_X6_part h0 h0_0 h0_f1 h0_0 h0_0k h0_0c) t.heap ∧ va_K (dC, dI) vwCl [] t ∧ va_D (va_A (wd_c_X6_part h0 h0_0 h0_f1 h0_0 h0_0k h0_0c) sz) (wd_c_X6_part h0 h0_0 h0_f1 h0_0 h0_0k h0_0c)) (va_A (wd_c_X6_part h0 h0_0 h0_f1 h0_0 h0_0k h0_0c) sz)) 0 0 (va_A (wd_c_X6_part h0 h0_0 h0_f1 h0_0 h0_0k h0_0c) sz) := by
  refine Met.ofW (cc := cX6_part) (maxL := 3) (ret := (some .int)) (by decide) rfl ?_
  intro p e s m args below meth c s₁ B hml hv
  obtain ⟨rfl, hsz, hP, hK, hD0⟩ := hv
  have hx := B.exec
  have hb := B.bytes
  have hr := B.returns
  have hts := atoms_spec (ws := wf_c_X6_part) B.pre
  have hown : s.vm.findClass RX6 = some m.cls := findClass_of_methodNamed B.named
  have hlocks := B.notSynchronized
  subst hsz
  have hD := hD0.self (sz := s.heap.size)
  generalize hAe : va_A (wd_c_X6_part h0 h0_0 h0_f1 h0_0 h0_0k h0_0c) s.heap.size = A at hD ⊢
  have hA : ∀ q : Nat, s.heap.size ≤ q → A q := fun q h => by rw [← hAe]; exact Or.inr h
  have hP : va_P (dC, dI) vwCl (wd_c_X6_part h0 h0_0 h0_f1 h0_0 h0_0k h0_0c) s.heap := hP
  have hl := lv_entry ([.ref h0, .int p1, .int p2]) (n := 3) (Nat.le_of_ble_eq_true rfl)
  rw [lg_entry_eq]
  generalize (lg_sl ([.ref h0, .int p1, .int p2]) ++ List.replicate (3 - (lg_sl ([.ref h0, .int p1, .int p2])).length) Slot.unset).toArray = ls at hl ⊢
  have hl : lv_has ls 3 [(0, .ref h0), (1, .int p1), (2, .int p2)] := hl
  obtain ⟨H, hHe⟩ : ∃ H : Heap, s.heap = H := ⟨_, rfl⟩
  have hS : va_S A s.heap H [] := by rw [hHe]; exact va_S.rf
  have hP : va_P (dC, dI) vwCl (wd_c_X6_part h0 h0_0 h0_f1 h0_0 h0_0k h0_0c) H := by rw [← hHe]; exact hP
  rw [hHe]
  refine lv_aload_n hx hb dX6_part_0 rfl (lv_at hl 0 rfl) ?_
  refine va_get (D := (dC, dI)) (ci := 6) (v := .ref h0_0) (C := RX6) (T := TX6) (N := 2) hx hb hts iw_c_X6_part_X6 hown hK hP 0 rfl rfl 0 (by decide) (hts (.fieldLink RX6 11 "BuoyVote$Plan" "cells" "[I") (List.mem_of_getElem? (i := 1) rfl)) (fun _ h9 => h9) rfl dX6_part_1 ?_
  refine lv_iload_n hx hb dX6_part_4 rfl (lv_at hl 1 rfl) ?_
  refine lv_iconst (v := 4) hx hb dX6_part_5 kc_iconst_4 ?_
  refine lv_imul hx hb dX6_part_6 ?_
  refine lv_topi (fun x_1 ex_1 => ?_)
  have g_2 : RG x_1 0 60 := RG_mulc ex_1 (q := 4) rfl g_p1 (by decide)
  refine lv_iload_n hx hb dX6_part_7 rfl (lv_at hl 2 rfl) ?_
  refine lv_iadd hx hb dX6_part_8 ?_
  refine lv_topi (fun x_3 ex_3 => ?_)
  have g_4 : RG x_3 0 63 := RG_add ex_3 g_2 g_p2 (by decide)
  refine va_iald hx hb hK hP 1 0 rfl rfl (RG_in g_4 (by decide)) dX6_part_9 ?_
  refine lv_topi (fun x_5 ex_5 => ?_)
  have g_6 : RG x_5 (-1) 9 := AI_rd a_h0_0c ex_5
  have hK9 := hK.sub (tys' := []) [] rfl
  exact W.iret (v := x_5) hx hb hr (fun t ht hW => ⟨⟨x_5, (), rfl, ⟨g_6, (by rw [ex_5, ex_3, ex_1])⟩, by rw [ht]; exact hP, va_K.moved hW.alike hK9, hD⟩, hS.F ht⟩) hS.2.2 dX6_part_10
def wd_c_X11_step (a0 : Nat) (a1 : Nat) (a2 : Nat) (a3 : Nat) (a4 : Nat) (a5 : Nat) (a6 : Int32) (a7 : Nat) (a8 : Nat) (a9 : Nat) (a10 : Nat) (a11 : Nat) (a12 : Nat) (a13 : Nat) (a14 : Nat) (a15 : Nat) (a16 : Int64) (a17 : Nat) (a18 : ClassId) (a19 : Nat → Option Nat) (a20 : Nat) (a21 : Nat) (a22 : Int32) (a23 : Nat) (a24 : ClassId) (a25 : Nat → Int32) (a26 : Nat) (a27 : Nat) (a28 : Int32) (a29 : Nat) (a30 : ClassId) (a31 : Nat → Int32) (a32 : Nat) (a33 : Nat) (a34 : Int32) (a35 : Nat) (a36 : ClassId) (a37 : Nat → Int32) (a38 : Nat) (a39 : Nat) (a40 : Int32) (a41 : Nat) (a42 : ClassId) (a43 : Nat → Int32) : va_W := [(a0, .inr (11, [.ref a1, .ref a2, .ref a3, .ref a4, .ref a5, .int a6, .ref a7, .ref a8, .ref a9, .ref a10, .ref a11, .ref a12, .ref a13, .ref a14, .ref a15, .long a16])), (a17, .inl (a18, 5, .inr (.inr (.inr (.inr a19))))), (a20, .inr (6, [.ref a21, .int a22])), (a23, .inl (a24, 64, .inl a25)), (a26, .inr (6, [.ref a27, .int a28])), (a29, .inl (a30, 64, .inl a31)), (a32, .inr (6, [.ref a33, .int a34])), (a35, .inl (a36, 64, .inl a37)), (a38, .inr (6, [.ref a39, .int a40])), (a41, .inl (a42, 64, .inl a43))]
def wf_c_X11_step : List Cond := .code yX11_step cX11_step 4 (some .int) :: ([.methodLink RX11 293 yX11_isPlan, .instanceMethod yX11_isPlan, .selects RX11 yX11_isPlan yX11_isPlan, .initialized RX11, .code yX11_isPlan cX11_isPlan 2 (some .boolean), .fieldLink RX11 126 "BuoyVote" "planCount" "I", .constant RX11 228 (-1000000), .fieldLink RX11 35 "BuoyVote" "plans" "[LBuoyVote$Plan;", .fieldLink RX11 296 "BuoyVote$Plan" "steps" "I", .methodLink RX11 111 yX11_isWithin, .static yX11_isWithin, .code yX11_isWithin cX11_isWithin 3 (some .boolean), .methodLink RX11 299 yX6_part, .instanceMethod yX6_part, .selects RX6 yX6_part yX6_part, .initialized RX6, .code yX6_part cX6_part 3 (some .int), .fieldLink RX6 11 "BuoyVote$Plan" "cells" "[I"] ++ wsX110 ++ wsX60)
theorem iw_c_X11_step_X11 : ∀ w ∈ wsX110, w ∈ wf_c_X11_step := fun w h => List.mem_cons_of_mem _ (List.mem_append_left _ (List.mem_append_right _ h))
theorem iw_c_X11_step_X6 : ∀ w ∈ wsX60, w ∈ wf_c_X11_step := fun w h => List.mem_cons_of_mem _ (List.mem_append_right _ h)
set_option maxRecDepth 20000 in
theorem gf_c_X11_step_c_X11_isPlan : GoodIn wf_c_X11_step (wsV RX11 293 RX11 yX11_isPlan wf_c_X11_isPlan) := goodIn_app (gi_cons (j := 1) rfl rfl (gi_cons (j := 2) rfl rfl (gi_cons (j := 3) rfl rfl (gi_cons (j := 4) rfl rfl (gi_nil))))) (gi_cons (j := 5) rfl rfl (goodIn_app (gi_cons (j := 6) rfl rfl (gi_nil)) (goodIn_sub iw_c_X11_step_X11 gw_X11)))
set_option maxRecDepth 20000 in
theorem gf_c_X11_step_c_X11_isWithin_4 : GoodIn wf_c_X11_step (va_wsS RX11 111 yX11_isWithin wf_c_X11_isWithin_4) := goodIn_app (gi_cons (j := 10) rfl rfl (gi_cons (j := 11) rfl rfl (gi_cons (j := 4) rfl rfl (gi_nil)))) (gi_cons (j := 12) rfl rfl (gi_nil))
set_option maxRecDepth 20000 in
theorem gf_c_X11_step_c_X11_isWithin_5 : GoodIn wf_c_X11_step (va_wsS RX11 111 yX11_isWithin wf_c_X11_isWithin_5) := goodIn_app (gi_cons (j := 10) rfl rfl (gi_cons (j := 11) rfl rfl (gi_cons (j := 4) rfl rfl (gi_nil)))) (gi_cons (j := 12) rfl rfl (gi_nil))
set_option maxRecDepth 20000 in
theorem gf_c_X11_step_c_X6_part : GoodIn wf_c_X11_step (wsV RX11 299 RX6 yX6_part wf_c_X6_part) := goodIn_app (gi_cons (j := 13) rfl rfl (gi_cons (j := 14) rfl rfl (gi_cons (j := 15) rfl rfl (gi_cons (j := 16) rfl rfl (gi_nil))))) (gi_cons (j := 17) rfl rfl (goodIn_app (gi_cons (j := 18) rfl rfl (gi_nil)) (goodIn_sub iw_c_X11_step_X6 gw_X6)))
set_option maxHeartbeats 4000000 in
set_option maxRecDepth 100000 in
theorem c_X11_step (l : Launch) (dC : Nat → ClassId) (dI : Nat → Nat → Nat) (sz : Nat) (h0 : Nat) (p1 : Int32) (p2 : Int32) (p3 : Int32) (h0_0 : Nat) (h0_1 : Nat) (h0_2 : Nat) (h0_3 : Nat) (h0_4 : Nat) (h0_f5 : Int32) (h0_6 : Nat) (h0_7 : Nat) (h0_8 : Nat) (h0_9 : Nat) (h0_10 : Nat) (h0_11 : Nat) (h0_12 : Nat) (h0_13 : Nat) (h0_14 : Nat) (h0_f15 : Int64) (h0_4k : ClassId) (h0_4c : Nat → Option Nat) (h0_4_e0 : Nat) (h0_4_e1 : Nat) (h0_4_e2 : Nat) (h0_4_e3 : Nat) (h0_4_e4 : Nat) (h0_4_e0_0 : Nat) (h0_4_e0_f1 : Int32) (h0_4_e0_0k : ClassId) (h0_4_e0_0c : Nat → Int32) (h0_4_e1_0 : Nat) (h0_4_e1_f1 : Int32) (h0_4_e1_0k : ClassId) (h0_4_e1_0c : Nat → Int32) (h0_4_e2_0 : Nat) (h0_4_e2_f1 : Int32) (h0_4_e2_0k : ClassId) (h0_4_e2_0c : Nat → Int32) (h0_4_e3_0 : Nat) (h0_4_e3_f1 : Int32) (h0_4_e3_0k : ClassId) (h0_4_e3_0c : Nat → Int32) (g_h0_f5 : RG h0_f5 0 4) (e_h0_4_e0 : h0_4c 0 = some h0_4_e0) (e_h0_4_e1 : h0_4c 1 = some h0_4_e1) (e_h0_4_e2 : h0_4c 2 = some h0_4_e2) (e_h0_4_e3 : h0_4c 3 = some h0_4_e3) (e_h0_4_e4 : h0_4c 4 = some h0_4_e4) (g_h0_4_e0_f1 : RG h0_4_e0_f1 0 16) (a_h0_4_e0_0c : AI h0_4_e0_0c (-1) 9) (g_h0_4_e1_f1 : RG h0_4_e1_f1 0 16) (a_h0_4_e1_0c : AI h0_4_e1_0c (-1) 9) (g_h0_4_e2_f1 : RG h0_4_e2_f1 0 16) (a_h0_4_e2_0c : AI h0_4_e2_0c (-1) 9) (g_h0_4_e3_f1 : RG h0_4_e3_f1 0 16) (a_h0_4_e3_0c : AI h0_4_e3_0c (-1) 9) : Met l yX11_step wf_c_X11_step ({ frames := 1, cells := 0, slots := 0, locals := 22 }) (va_Pc [.ref h0, .int p1, .int p2, .int p3] (fun U => U.heap.size = sz ∧ va_P (dC, dI) vwCl (wd_c_X11_step h0 h0_0 h0_1 h0_2 h0_3 h0_4 h0_f5 h0_6 h0_7 h0_8 h0_9 h0_10 h0_11 h0_12 h0_13 h0_14 h0_f15 h0_4 h0_4k h0_4c h0_4_e0 h0_4_e0_0 h0_4_e0_f1 h0_4_e0_0 h0_4_e0_0k h0_4_e0_0c h0_4_e1 h0_4_e1_0 h0_4_e1_f1 h0_4_e1_0 h0_4_e1_0k h0_4_e1_0c h0_4_e2 h0_4_e2_0 h0_4_e2_f1 h0_4_e2_0 h0_4_e2_0k h0_4_e2_0c h0_4_e3 h0_4_e3_0 h0_4_e3_f1 h0_4_e3_0 h0_4_e3_0k h0_4_e3_0c) U.heap ∧ va_K (dC, dI) vwCl [(h0_4k, .object RX6), (h0_4_e0_0k, .int), (h0_4_e1_0k, .int), (h0_4_e2_0k, .int), (h0_4_e3_0k, .int)] U ∧ va_D (fun _ => True) (wd_c_X11_step h0 h0_0 h0_1 h0_2 h0_3 h0_4 h0_f5 h0_6 h0_7 h0_8 h0_9 h0_10 h0_11 h0_12 h0_13 h0_14 h0_f15 h0_4 h0_4k h0_4c h0_4_e0 h0_4_e0_0 h0_4_e0_f1 h0_4_e0_0 h0_4_e0_0k h0_4_e0_0c h0_4_e1 h0_4_e1_0 h0_4_e1_f1 h0_4_e1_0 h0_4_e1_0k h0_4_e1_0c h0_4_e2 h0_4_e2_0 h0_4_e2_f1 h0_4_e2_0 h0_4_e2_0k h0_4_e2_0c h0_4_e3 h0_4_e3_0 h0_4_e3_f1 h0_4_e3_0 h0_4_e3_0k h0_4_e3_0c))) (va_Qi (fun (r : Int32) (u : Unit) => (r = (-1000000)) ∨ (RG r (-1) 9 ∧ RG h0_f5 1 4 ∧ RG p1 0 3 ∧ RG p2 0 15 ∧ RG p3 0 3)) (fun (u : Unit) t => va_P (dC, dI) vwCl (wd_c_X11_step h0 h0_0 h0_1 h0_2 h0_3 h0_4 h0_f5 h0_6 h0_7 h0_8 h0_9 h0_10 h0_11 h0_12 h0_13 h0_14 h0_f15 h0_4 h0_4k h0_4c h0_4_e0 h0_4_e0_0 h0_4_e0_f1 h0_4_e0_0 h0_4_e0_0k h0_4_e0_0c h0_4_e1 h0_4_e1_0 h0_4_e1_f1 h0_4_e1_0 h0_4_e1_0k h0_4_e1_0c h0_4_e2 h0_4_e2_0 h0_4_e2_f1 h0_4_e2_0 h0_4_e2_0k h0_4_e2_0c h0_4_e3 h0_4_e3_0 h0_4_e3_f1 h0_4_e3_0 h0_4_e3_0k h0_4_e3_0c) t.heap ∧ va_K (dC, dI) vwCl [] t ∧ va_D (va_A (wd_c_X11_step h0 h0_0 h0_1 h0_2 h0_3 h0_4 h0_f5 h0_6 h0_7 h0_8 h0_9 h0_10 h0_11 h0_12 h0_13 h0_14 h0_f15 h0_4 h0_4k h0_4c h0_4_e0 h0_4_e0_0 h0_4_e0_f1 h0_4_e0_0 h0_4_e0_0k h0_4_e0_0c h0_4_e1 h0_4_e1_0 h0_4_e1_f1 h0_4_e1_0 h0_4_e1_0k h0_4_e1_0c h0_4_e2 h0_4_e2_0 h0_4_e2_f1 h0_4_e2_0 h0_4_e2_0k h0_4_e2_0c h0_4_e3 h0_4_e3_0 h0_4_e3_f1 h0_4_e3_0 h0_4_e3_0k h0_4_e3_0c) sz) (wd_c_X11_step h0 h0_0 h0_1 h0_2 h0_3 h0_4 h0_f5 h0_6 h0_7 h0_8 h0_9 h0_10 h0_11 h0_12 h0_13 h0_14 h0_f15 h0_4 h0_4k h0_4c h0_4_e0 h0_4_e0_0 h0_4_e0_f1 h0_4_e0_0 h0_4_e0_0k h0_4_e0_0c h0_4_e1 h0_4_e1_0 h0_4_e1_f1 h0_4_e1_0 h0_4_e1_0k h0_4_e1_0c h0_4_e2 h0_4_e2_0 h0_4_e2_f1 h0_4_e2_0 h0_4_e2_0k h0_4_e2_0c h0_4_e3 h0_4_e3_0 h0_4_e3_f1 h0_4_e3_0 h0_4_e3_0k h0_4_e3_0c)) (va_A (wd_c_X11_step h0 h0_0 h0_1 h0_2 h0_3 h0_4 h0_f5 h0_6 h0_7 h0_8 h0_9 h0_10 h0_11 h0_12 h0_13 h0_14 h0_f15 h0_4 h0_4k h0_4c h0_4_e0 h0_4_e0_0 h0_4_e0_f1 h0_4_e0_0 h0_4_e0_0k h0_4_e0_0c h0_4_e1 h0_4_e1_0 h0_4_e1_f1 h0_4_e1_0 h0_4_e1_0k h0_4_e1_0c h0_4_e2 h0_4_e2_0 h0_4_e2_f1 h0_4_e2_0 h0_4_e2_0k h0_4_e2_0c h0_4_e3 h0_4_e3_0 h0_4_e3_f1 h0_4_e3_0 h0_4_e3_0k h0_4_e3_0c) sz)) 0 0 (va_A (wd_c_X11_step h0 h0_0 h0_1 h0_2 h0_3 h0_4 h0_f5 h0_6 h0_7 h0_8 h0_9 h0_10 h0_11 h0_12 h0_13 h0_14 h0_f15 h0_4 h0_4k h0_4c h0_4_e0 h0_4_e0_0 h0_4_e0_f1 h0_4_e0_0 h0_4_e0_0k h0_4_e0_0c h0_4_e1 h0_4_e1_0 h0_4_e1_f1 h0_4_e1_0 h0_4_e1_0k h0_4_e1_0c h0_4_e2 h0_4_e2_0 h0_4_e2_f1 h0_4_e2_0 h0_4_e2_0k h0_4_e2_0c h0_4_e3 h0_4_e3_0 h0_4_e3_f1 h0_4_e3_0 h0_4_e3_0k h0_4_e3_0c) sz) := by
  refine Met.ofW (cc := cX11_step) (maxL := 4) (ret := (some .int)) (by decide) rfl ?_
  intro p e s m args below meth c s₁ B hml hv
  obtain ⟨rfl, hsz, hP, hK, hD0⟩ := hv
  have hx := B.exec
  have hb := B.bytes
  have hr := B.returns
  have hts := atoms_spec (ws := wf_c_X11_step) B.pre
  have hown : s.vm.findClass RX11 = some m.cls := findClass_of_methodNamed B.named
  have hlocks := B.notSynchronized
  subst hsz
  have hD := hD0.self (sz := s.heap.size)
  generalize hAe : va_A (wd_c_X11_step h0 h0_0 h0_1 h0_2 h0_3 h0_4 h0_f5 h0_6 h0_7 h0_8 h0_9 h0_10 h0_11 h0_12 h0_13 h0_14 h0_f15 h0_4 h0_4k h0_4c h0_4_e0 h0_4_e0_0 h0_4_e0_f1 h0_4_e0_0 h0_4_e0_0k h0_4_e0_0c h0_4_e1 h0_4_e1_0 h0_4_e1_f1 h0_4_e1_0 h0_4_e1_0k h0_4_e1_0c h0_4_e2 h0_4_e2_0 h0_4_e2_f1 h0_4_e2_0 h0_4_e2_0k h0_4_e2_0c h0_4_e3 h0_4_e3_0 h0_4_e3_f1 h0_4_e3_0 h0_4_e3_0k h0_4_e3_0c) s.heap.size = A at hD ⊢
  have hA : ∀ q : Nat, s.heap.size ≤ q → A q := fun q h => by rw [← hAe]; exact Or.inr h
  have hP : va_P (dC, dI) vwCl (wd_c_X11_step h0 h0_0 h0_1 h0_2 h0_3 h0_4 h0_f5 h0_6 h0_7 h0_8 h0_9 h0_10 h0_11 h0_12 h0_13 h0_14 h0_f15 h0_4 h0_4k h0_4c h0_4_e0 h0_4_e0_0 h0_4_e0_f1 h0_4_e0_0 h0_4_e0_0k h0_4_e0_0c h0_4_e1 h0_4_e1_0 h0_4_e1_f1 h0_4_e1_0 h0_4_e1_0k h0_4_e1_0c h0_4_e2 h0_4_e2_0 h0_4_e2_f1 h0_4_e2_0 h0_4_e2_0k h0_4_e2_0c h0_4_e3 h0_4_e3_0 h0_4_e3_f1 h0_4_e3_0 h0_4_e3_0k h0_4_e3_0c) s.heap := hP
  have hl := lv_entry ([.ref h0, .int p1, .int p2, .int p3]) (n := 4) (Nat.le_of_ble_eq_true rfl)
  rw [lg_entry_eq]
  generalize (lg_sl ([.ref h0, .int p1, .int p2, .int p3]) ++ List.replicate (4 - (lg_sl ([.ref h0, .int p1, .int p2, .int p3])).length) Slot.unset).toArray = ls at hl ⊢
  have hl : lv_has ls 4 [(0, .ref h0), (1, .int p1), (2, .int p2), (3, .int p3)] := hl
  obtain ⟨H, hHe⟩ : ∃ H : Heap, s.heap = H := ⟨_, rfl⟩
  have hS : va_S A s.heap H [] := by rw [hHe]; exact va_S.rf
  have hP : va_P (dC, dI) vwCl (wd_c_X11_step h0 h0_0 h0_1 h0_2 h0_3 h0_4 h0_f5 h0_6 h0_7 h0_8 h0_9 h0_10 h0_11 h0_12 h0_13 h0_14 h0_f15 h0_4 h0_4k h0_4c h0_4_e0 h0_4_e0_0 h0_4_e0_f1 h0_4_e0_0 h0_4_e0_0k h0_4_e0_0c h0_4_e1 h0_4_e1_0 h0_4_e1_f1 h0_4_e1_0 h0_4_e1_0k h0_4_e1_0c h0_4_e2 h0_4_e2_0 h0_4_e2_f1 h0_4_e2_0 h0_4_e2_0k h0_4_e2_0c h0_4_e3 h0_4_e3_0 h0_4_e3_f1 h0_4_e3_0 h0_4_e3_0k h0_4_e3_0c) H := by rw [← hHe]; exact hP
  rw [hHe]
  refine lv_aload_n hx hb dX11_step_0 rfl (lv_at hl 0 rfl) ?_
  refine lv_iload_n hx hb dX11_step_1 rfl (lv_at hl 1 rfl) ?_
  have hPc := hP.sub (ws' := (wd_c_X11_isPlan h0 h0_0 h0_1 h0_2 h0_3 h0_4 h0_f5 h0_6 h0_7 h0_8 h0_9 h0_10 h0_11 h0_12 h0_13 h0_14 h0_f15)) [0] rfl
  have hDc := hD.sub (ws' := (wd_c_X11_isPlan h0 h0_0 h0_1 h0_2 h0_3 h0_4 h0_f5 h0_6 h0_7 h0_8 h0_9 h0_10 h0_11 h0_12 h0_13 h0_14 h0_f15)) [0] (by decide) rfl
  have hKc := hK.sub (tys' := []) [] rfl
  have hFc := va_free (wc := (wd_c_X11_isPlan h0 h0_0 h0_1 h0_2 h0_3 h0_4 h0_f5 h0_6 h0_7 h0_8 h0_9 h0_10 h0_11 h0_12 h0_13 h0_14 h0_f15)) hD hS hA [0] rfl
  refine va_calli (va_runV (As := [.int p1]) (rest := []) ⟨hx, hb, hml, hown, hts⟩ (c_X11_isPlan l dC dI H.size h0 p1 h0_0 h0_1 h0_2 h0_3 h0_4 h0_f5 h0_6 h0_7 h0_8 h0_9 h0_10 h0_11 h0_12 h0_13 h0_14 h0_f15 g_h0_f5) (cwV 1 hts gf_c_X11_step_c_X11_isPlan rfl rfl rfl (by decide +kernel) ⟨Nat.le_of_ble_eq_true rfl, Nat.le_of_ble_eq_true rfl⟩) ⟨fun a U g mk q => by obtain ⟨q0, q1, qP, qK, qD⟩ := q; exact ⟨q0, q1, qP, va_K.moved (u := U) (U := U.calling g mk a) (Vm.Alike.refl U.vm) qK, qD⟩, va_recv hKc hPc (ci := 11) (q0 := 0) rfl rfl, fun U hU hW => ⟨rfl, by rw [hU], by rw [hU]; exact hPc, va_K.moved hW.alike hKc, hDc.weaken (fun _ _ _ _ => trivial)⟩⟩ rfl rfl hl.1 rfl (lv_room (Nat.le_of_ble_eq_true rfl)) dX11_step_2 ⟨Nat.le_of_ble_eq_true rfl, Nat.le_of_ble_eq_true rfl⟩) hS (fun q _ h => hFc q h) hFc (fun r_1 u t H1 locs ht hvm hw hB hz1 hk1 hS => ?_)
  obtain ⟨hP1, hK1, hD1⟩ := hB
  rw [ht] at hP1
  obtain ⟨hP, hD⟩ := va_join (wr := [(h0_4, .inl (h0_4k, 5, .inr (.inr (.inr (.inr h0_4c))))), (h0_4_e0, .inr (6, [.ref h0_4_e0_0, .int h0_4_e0_f1])), (h0_4_e0_0, .inl (h0_4_e0_0k, 64, .inl h0_4_e0_0c)), (h0_4_e1, .inr (6, [.ref h0_4_e1_0, .int h0_4_e1_f1])), (h0_4_e1_0, .inl (h0_4_e1_0k, 64, .inl h0_4_e1_0c)), (h0_4_e2, .inr (6, [.ref h0_4_e2_0, .int h0_4_e2_f1])), (h0_4_e2_0, .inl (h0_4_e2_0k, 64, .inl h0_4_e2_0c)), (h0_4_e3, .inr (6, [.ref h0_4_e3_0, .int h0_4_e3_f1])), (h0_4_e3_0, .inl (h0_4_e3_0k, 64, .inl h0_4_e3_0c))]) (w1 := (wd_c_X11_isPlan h0 h0_0 h0_1 h0_2 h0_3 h0_4 h0_f5 h0_6 h0_7 h0_8 h0_9 h0_10 h0_11 h0_12 h0_13 h0_14 h0_f15)) hP hD [0] [1, 2, 3, 4, 5, 6, 7, 8, 9] rfl rfl (by decide) (by decide) hk1 hFc hP1 hD1
  have hP := hP.sub (ws' := (wd_c_X11_step h0 h0_0 h0_1 h0_2 h0_3 h0_4 h0_f5 h0_6 h0_7 h0_8 h0_9 h0_10 h0_11 h0_12 h0_13 h0_14 h0_f15 h0_4 h0_4k h0_4c h0_4_e0 h0_4_e0_0 h0_4_e0_f1 h0_4_e0_0 h0_4_e0_0k h0_4_e0_0c h0_4_e1 h0_4_e1_0 h0_4_e1_f1 h0_4_e1_0 h0_4_e1_0k h0_4_e1_0c h0_4_e2 h0_4_e2_0 h0_4_e2_f1 h0_4_e2_0 h0_4_e2_0k h0_4_e2_0c h0_4_e3 h0_4_e3_0 h0_4_e3_f1 h0_4_e3_0 h0_4_e3_0k h0_4_e3_0c)) [9, 0, 1, 2, 3, 4, 5, 6, 7, 8] rfl
  have hD := hD.sub (ws' := (wd_c_X11_step h0 h0_0 h0_1 h0_2 h0_3 h0_4 h0_f5 h0_6 h0_7 h0_8 h0_9 h0_10 h0_11 h0_12 h0_13 h0_14 h0_f15 h0_4 h0_4k h0_4c h0_4_e0 h0_4_e0_0 h0_4_e0_f1 h0_4_e0_0 h0_4_e0_0k h0_4_e0_0c h0_4_e1 h0_4_e1_0 h0_4_e1_f1 h0_4_e1_0 h0_4_e1_0k h0_4_e1_0c h0_4_e2 h0_4_e2_0 h0_4_e2_f1 h0_4_e2_0 h0_4_e2_0k h0_4_e2_0c h0_4_e3 h0_4_e3_0 h0_4_e3_f1 h0_4_e3_0 h0_4_e3_0k h0_4_e3_0c)) [9, 0, 1, 2, 3, 4, 5, 6, 7, 8] (by decide) rfl
  generalize H1 = H at hP hS ⊢
  rcases hw with ⟨h_2, h_3⟩ | ⟨h_4, h_5, h_6⟩
  · rw [h_2]
    refine lv_if_eq (tgt := 36) hx hb dX11_step_5 rfl (fun c_7 => ?_) (fun c_7 => absurd c_7 (by decide))
    refine lv_ldc hx hb hown (hts (.constant RX11 228 (-1000000)) (List.mem_of_getElem? (i := 7) rfl)) dX11_step_36 ?_
    have hK9 := hK.sub (tys' := []) [] rfl
    exact W.iret (v := (-1000000)) hx hb hr (fun t ht hW => ⟨⟨(-1000000), (), rfl, (Or.inl rfl), by rw [ht]; exact hP, va_K.moved hW.alike hK9, hD⟩, hS.F ht⟩) hS.2.2 dX11_step_38
  · rw [h_4]
    refine lv_if_eq (tgt := 36) hx hb dX11_step_5 rfl (fun c_8 => absurd c_8 (by decide)) (fun c_8 => ?_)
    refine lv_iload_n hx hb dX11_step_8 rfl (lv_at hl 2 rfl) ?_
    refine lv_iconst (v := 0) hx hb dX11_step_9 kc_iconst_0 ?_
    refine lv_aload_n hx hb dX11_step_10 rfl (lv_at hl 0 rfl) ?_
    refine va_get (D := (dC, dI)) (ci := 11) (v := .ref h0_4) (C := RX11) (T := TX11) (N := 16) hx hb hts iw_c_X11_step_X11 hown hK hP 0 rfl rfl 4 (by decide) (hts (.fieldLink RX11 35 "BuoyVote" "plans" "[LBuoyVote$Plan;") (List.mem_of_getElem? (i := 8) rfl)) (fun _ h9 => h9) rfl dX11_step_11 ?_
    refine lv_iload_n hx hb dX11_step_14 rfl (lv_at hl 1 rfl) ?_
    by_cases c_9 : p1 = 0
    · refine W.eq (g2 := F0 m 15 ls [.int 0, .ref h0_4, .int 0, .int p2]) (by rw [c_9]) ?_
      have g_10 : RG p1 0 0 := RG_k _ _ (by rw [c_9]; rfl)
      refine va_aldq hx hb hK hP 1 0 rfl rfl (by unfold vp_in; decide) dX11_step_15 ?_
      rw [show h0_4c (0 : Int32).toNatClampNeg = some h0_4_e0 from e_h0_4_e0]
      refine W.eq (g2 := F0 m 16 ls [.ref h0_4_e0, .int 0, .int p2]) rfl ?_
      refine va_get (D := (dC, dI)) (ci := 6) (v := .int h0_4_e0_f1) (C := RX6) (T := TX6) (N := 2) hx hb hts iw_c_X11_step_X6 hown hK hP 2 rfl rfl 1 (by decide) (hts (.fieldLink RX11 296 "BuoyVote$Plan" "steps" "I") (List.mem_of_getElem? (i := 9) rfl)) (fun _ h9 => h9) rfl dX11_step_16 ?_
      refine lv_iconst (v := 1) hx hb dX11_step_19 kc_iconst_1 ?_
      refine lv_isub hx hb dX11_step_20 ?_
      refine lv_topi (fun x_11 ex_11 => ?_)
      have g_12 : RG x_11 (-1) 15 := RG_sub ex_11 g_h0_4_e0_f1 (RG_k 1 1 rfl) (by decide)
      have hPc := hP.sub (ws' := []) [] rfl
      have hDc := hD.sub (ws' := []) [] (by decide) rfl
      have hKc := hK.sub (tys' := []) [] rfl
      have hFc := va_free (wc := []) hD hS hA [] rfl
      refine va_calli (va_runS (As := [.int p2, .int 0, .int x_11]) (rest := []) ⟨hx, hb, hml, hown, hts⟩ (c_X11_isWithin_4 l dC dI H.size p2 x_11 g_12) (va_cwS 3 hts gf_c_X11_step_c_X11_isWithin_4 rfl rfl rfl (by decide +kernel) ⟨Nat.le_of_ble_eq_true rfl, Nat.le_of_ble_eq_true rfl⟩) ⟨fun a U g mk q => by obtain ⟨q0, q1, qP, qK, qD⟩ := q; exact ⟨q0, q1, qP, va_K.moved (u := U) (U := U.calling g mk a) (Vm.Alike.refl U.vm) qK, qD⟩, fun U hU hW => ⟨rfl, by rw [hU], by rw [hU]; exact hPc, va_K.moved hW.alike hKc, hDc.weaken (fun _ _ _ _ => trivial)⟩⟩ rfl rfl hl.1 rfl (lv_room (Nat.le_of_ble_eq_true rfl)) dX11_step_21 ⟨Nat.le_of_ble_eq_true rfl, Nat.le_of_ble_eq_true rfl⟩) hS (fun q _ h => hFc q h) hFc (fun r_13 u t H1 locs ht hvm hw hB hz1 hk1 hS => ?_)
      obtain ⟨hP1, hK1, hD1⟩ := hB
      rw [ht] at hP1
      have hP := bv_still hP hk1
      generalize H1 = H at hP hS ⊢
      rcases hw with ⟨h_14, h_15⟩ | ⟨h_16, h_17, h_18, h_19⟩
      · rw [h_14]
        refine lv_if_eq (tgt := 36) hx hb dX11_step_24 rfl (fun c_20 => ?_) (fun c_20 => absurd c_20 (by decide))
        refine lv_ldc hx hb hown (hts (.constant RX11 228 (-1000000)) (List.mem_of_getElem? (i := 7) rfl)) dX11_step_36 ?_
        have hK9 := hK.sub (tys' := []) [] rfl
        exact W.iret (v := (-1000000)) hx hb hr (fun t ht hW => ⟨⟨(-1000000), (), rfl, (Or.inl rfl), by rw [ht]; exact hP, va_K.moved hW.alike hK9, hD⟩, hS.F ht⟩) hS.2.2 dX11_step_38
      · rw [h_16]
        have g_21 : RG h0_4_e0_f1 1 16 := RG_addb (RG_sc (d := (-1)) ex_11 rfl) (q := (-1)) rfl g_h0_4_e0_f1 h_18 (by decide)
        refine lv_if_eq (tgt := 36) hx hb dX11_step_24 rfl (fun c_22 => absurd c_22 (by decide)) (fun c_22 => ?_)
        refine lv_iload_n hx hb dX11_step_27 rfl (lv_at hl 3 rfl) ?_
        refine lv_iconst (v := 0) hx hb dX11_step_28 kc_iconst_0 ?_
        refine lv_iconst (v := 3) hx hb dX11_step_29 kc_iconst_3 ?_
        have hPc := hP.sub (ws' := []) [] rfl
        have hDc := hD.sub (ws' := []) [] (by decide) rfl
        have hKc := hK.sub (tys' := []) [] rfl
        have hFc := va_free (wc := []) hD hS hA [] rfl
        refine va_calli (va_runS (As := [.int p3, .int 0, .int 3]) (rest := []) ⟨hx, hb, hml, hown, hts⟩ (c_X11_isWithin_5 l dC dI H.size p3) (va_cwS 3 hts gf_c_X11_step_c_X11_isWithin_5 rfl rfl rfl (by decide +kernel) ⟨Nat.le_of_ble_eq_true rfl, Nat.le_of_ble_eq_true rfl⟩) ⟨fun a U g mk q => by obtain ⟨q0, q1, qP, qK, qD⟩ := q; exact ⟨q0, q1, qP, va_K.moved (u := U) (U := U.calling g mk a) (Vm.Alike.refl U.vm) qK, qD⟩, fun U hU hW => ⟨rfl, by rw [hU], by rw [hU]; exact hPc, va_K.moved hW.alike hKc, hDc.weaken (fun _ _ _ _ => trivial)⟩⟩ rfl rfl hl.1 rfl (lv_room (Nat.le_of_ble_eq_true rfl)) dX11_step_30 ⟨Nat.le_of_ble_eq_true rfl, Nat.le_of_ble_eq_true rfl⟩) hS (fun q _ h => hFc q h) hFc (fun r_23 u t H1 locs ht hvm hw hB hz1 hk1 hS => ?_)
        obtain ⟨hP1, hK1, hD1⟩ := hB
        rw [ht] at hP1
        have hP := bv_still hP hk1
        generalize H1 = H at hP hS ⊢
        rcases hw with ⟨h_24, h_25⟩ | ⟨h_26, h_27⟩
        · rw [h_24]
          refine lv_if_ne (tgt := 39) hx hb dX11_step_33 rfl (fun c_28 => absurd c_28 (by decide)) (fun c_28 => ?_)
          refine lv_ldc hx hb hown (hts (.constant RX11 228 (-1000000)) (List.mem_of_getElem? (i := 7) rfl)) dX11_step_36 ?_
          have hK9 := hK.sub (tys' := []) [] rfl
          exact W.iret (v := (-1000000)) hx hb hr (fun t ht hW => ⟨⟨(-1000000), (), rfl, (Or.inl rfl), by rw [ht]; exact hP, va_K.moved hW.alike hK9, hD⟩, hS.F ht⟩) hS.2.2 dX11_step_38
        · rw [h_26]
          refine lv_if_ne (tgt := 39) hx hb dX11_step_33 rfl (fun c_29 => ?_) (fun c_29 => absurd c_29 (by decide))
          refine lv_aload_n hx hb dX11_step_39 rfl (lv_at hl 0 rfl) ?_
          refine va_get (D := (dC, dI)) (ci := 11) (v := .ref h0_4) (C := RX11) (T := TX11) (N := 16) hx hb hts iw_c_X11_step_X11 hown hK hP 0 rfl rfl 4 (by decide) (hts (.fieldLink RX11 35 "BuoyVote" "plans" "[LBuoyVote$Plan;") (List.mem_of_getElem? (i := 8) rfl)) (fun _ h9 => h9) rfl dX11_step_40 ?_
          refine lv_iload_n hx hb dX11_step_43 rfl (lv_at hl 1 rfl) ?_
          by_cases c_30 : p1 = 0
          · refine W.eq (g2 := F0 m 44 ls [.int 0, .ref h0_4]) (by rw [c_30]) ?_
            have g_31 : RG p1 0 0 := RG_k _ _ (by rw [c_30]; rfl)
            refine va_aldq hx hb hK hP 1 0 rfl rfl (by unfold vp_in; decide) dX11_step_44 ?_
            rw [show h0_4c (0 : Int32).toNatClampNeg = some h0_4_e0 from e_h0_4_e0]
            refine W.eq (g2 := F0 m 45 ls [.ref h0_4_e0]) rfl ?_
            refine lv_iload_n hx hb dX11_step_45 rfl (lv_at hl 2 rfl) ?_
            refine lv_iload_n hx hb dX11_step_46 rfl (lv_at hl 3 rfl) ?_
            have hPc := hP.sub (ws' := (wd_c_X6_part h0_4_e0 h0_4_e0_0 h0_4_e0_f1 h0_4_e0_0 h0_4_e0_0k h0_4_e0_0c)) [2, 3] rfl
            have hDc := hD.sub (ws' := (wd_c_X6_part h0_4_e0 h0_4_e0_0 h0_4_e0_f1 h0_4_e0_0 h0_4_e0_0k h0_4_e0_0c)) [2, 3] (by decide) rfl
            have hKc := hK.sub (tys' := [(h0_4_e0_0k, .int)]) [1] rfl
            have hFc := va_free (wc := (wd_c_X6_part h0_4_e0 h0_4_e0_0 h0_4_e0_f1 h0_4_e0_0 h0_4_e0_0k h0_4_e0_0c)) hD hS hA [2, 3] rfl
            refine va_calli (va_runV (As := [.int p2, .int p3]) (rest := []) ⟨hx, hb, hml, hown, hts⟩ (c_X6_part l dC dI H.size h0_4_e0 p2 p3 h0_4_e0_0 h0_4_e0_f1 h0_4_e0_0k h0_4_e0_0c h_17 h_27 (RG_w g_21 (by decide)) a_h0_4_e0_0c) (cwV 2 hts gf_c_X11_step_c_X6_part rfl rfl rfl (by decide +kernel) ⟨Nat.le_of_ble_eq_true rfl, Nat.le_of_ble_eq_true rfl⟩) ⟨fun a U g mk q => by obtain ⟨q0, q1, qP, qK, qD⟩ := q; exact ⟨q0, q1, qP, va_K.moved (u := U) (U := U.calling g mk a) (Vm.Alike.refl U.vm) qK, qD⟩, va_recv hKc hPc (ci := 6) (q0 := 0) rfl rfl, fun U hU hW => ⟨rfl, by rw [hU], by rw [hU]; exact hPc, va_K.moved hW.alike hKc, hDc.weaken (fun _ _ _ _ => trivial)⟩⟩ rfl rfl hl.1 rfl (lv_room (Nat.le_of_ble_eq_true rfl)) dX11_step_47 ⟨Nat.le_of_ble_eq_true rfl, Nat.le_of_ble_eq_true rfl⟩) hS (fun q _ h => hFc q h) hFc (fun r_32 u t H1 locs ht hvm hw hB hz1 hk1 hS => ?_)
            obtain ⟨hP1, hK1, hD1⟩ := hB
            rw [ht] at hP1
            obtain ⟨hP, hD⟩ := va_join (wr := [(h0, .inr (11, [.ref h0_0, .ref h0_1, .ref h0_2, .ref h0_3, .ref h0_4, .int h0_f5, .ref h0_6, .ref h0_7, .ref h0_8, .ref h0_9, .ref h0_10, .ref h0_11, .ref h0_12, .ref h0_13, .ref h0_14, .long h0_f15])), (h0_4, .inl (h0_4k, 5, .inr (.inr (.inr (.inr h0_4c))))), (h0_4_e1, .inr (6, [.ref h0_4_e1_0, .int h0_4_e1_f1])), (h0_4_e1_0, .inl (h0_4_e1_0k, 64, .inl h0_4_e1_0c)), (h0_4_e2, .inr (6, [.ref h0_4_e2_0, .int h0_4_e2_f1])), (h0_4_e2_0, .inl (h0_4_e2_0k, 64, .inl h0_4_e2_0c)), (h0_4_e3, .inr (6, [.ref h0_4_e3_0, .int h0_4_e3_f1])), (h0_4_e3_0, .inl (h0_4_e3_0k, 64, .inl h0_4_e3_0c))]) (w1 := (wd_c_X6_part h0_4_e0 h0_4_e0_0 h0_4_e0_f1 h0_4_e0_0 h0_4_e0_0k h0_4_e0_0c)) hP hD [2, 3] [0, 1, 4, 5, 6, 7, 8, 9] rfl rfl (by decide) (by decide) hk1 hFc hP1 hD1
            have hP := hP.sub (ws' := (wd_c_X11_step h0 h0_0 h0_1 h0_2 h0_3 h0_4 h0_f5 h0_6 h0_7 h0_8 h0_9 h0_10 h0_11 h0_12 h0_13 h0_14 h0_f15 h0_4 h0_4k h0_4c h0_4_e0 h0_4_e0_0 h0_4_e0_f1 h0_4_e0_0 h0_4_e0_0k h0_4_e0_0c h0_4_e1 h0_4_e1_0 h0_4_e1_f1 h0_4_e1_0 h0_4_e1_0k h0_4_e1_0c h0_4_e2 h0_4_e2_0 h0_4_e2_f1 h0_4_e2_0 h0_4_e2_0k h0_4_e2_0c h0_4_e3 h0_4_e3_0 h0_4_e3_f1 h0_4_e3_0 h0_4_e3_0k h0_4_e3_0c)) [0, 1, 8, 9, 2, 3, 4, 5, 6, 7] rfl
            have hD := hD.sub (ws' := (wd_c_X11_step h0 h0_0 h0_1 h0_2 h0_3 h0_4 h0_f5 h0_6 h0_7 h0_8 h0_9 h0_10 h0_11 h0_12 h0_13 h0_14 h0_f15 h0_4 h0_4k h0_4c h0_4_e0 h0_4_e0_0 h0_4_e0_f1 h0_4_e0_0 h0_4_e0_0k h0_4_e0_0c h0_4_e1 h0_4_e1_0 h0_4_e1_f1 h0_4_e1_0 h0_4_e1_0k h0_4_e1_0c h0_4_e2 h0_4_e2_0 h0_4_e2_f1 h0_4_e2_0 h0_4_e2_0k h0_4_e2_0c h0_4_e3 h0_4_e3_0 h0_4_e3_f1 h0_4_e3_0 h0_4_e3_0k h0_4_e3_0c)) [0, 1, 8, 9, 2, 3, 4, 5, 6, 7] (by decide) rfl
            generalize H1 = H at hP hS ⊢
            rcases hw with ⟨h_33, h_34⟩
            have hK9 := hK.sub (tys' := []) [] rfl
            exact W.iret (v := r_32) hx hb hr (fun t ht hW => ⟨⟨r_32, (), rfl, (Or.inr ⟨h_33, h_5, (RG_w g_31 (by decide)), h_17, h_27⟩), by rw [ht]; exact hP, va_K.moved hW.alike hK9, hD⟩, hS.F ht⟩) hS.2.2 dX11_step_50
          exfalso
          have zc_30 := lv_neT c_30 (a := 0) (by decide)
          have zg1 := (g_10).1
          have zg2 := (g_10).2
          omega
    by_cases c_35 : p1 = 1
    · refine W.eq (g2 := F0 m 15 ls [.int 1, .ref h0_4, .int 0, .int p2]) (by rw [c_35]) ?_
      have g_36 : RG p1 1 1 := RG_k _ _ (by rw [c_35]; rfl)
      refine va_aldq hx hb hK hP 1 0 rfl rfl (by unfold vp_in; decide) dX11_step_15 ?_
      rw [show h0_4c (1 : Int32).toNatClampNeg = some h0_4_e1 from e_h0_4_e1]
      refine W.eq (g2 := F0 m 16 ls [.ref h0_4_e1, .int 0, .int p2]) rfl ?_
      refine va_get (D := (dC, dI)) (ci := 6) (v := .int h0_4_e1_f1) (C := RX6) (T := TX6) (N := 2) hx hb hts iw_c_X11_step_X6 hown hK hP 4 rfl rfl 1 (by decide) (hts (.fieldLink RX11 296 "BuoyVote$Plan" "steps" "I") (List.mem_of_getElem? (i := 9) rfl)) (fun _ h9 => h9) rfl dX11_step_16 ?_
      refine lv_iconst (v := 1) hx hb dX11_step_19 kc_iconst_1 ?_
      refine lv_isub hx hb dX11_step_20 ?_
      refine lv_topi (fun x_37 ex_37 => ?_)
      have g_38 : RG x_37 (-1) 15 := RG_sub ex_37 g_h0_4_e1_f1 (RG_k 1 1 rfl) (by decide)
      have hPc := hP.sub (ws' := []) [] rfl
      have hDc := hD.sub (ws' := []) [] (by decide) rfl
      have hKc := hK.sub (tys' := []) [] rfl
      have hFc := va_free (wc := []) hD hS hA [] rfl
      refine va_calli (va_runS (As := [.int p2, .int 0, .int x_37]) (rest := []) ⟨hx, hb, hml, hown, hts⟩ (c_X11_isWithin_4 l dC dI H.size p2 x_37 g_38) (va_cwS 3 hts gf_c_X11_step_c_X11_isWithin_4 rfl rfl rfl (by decide +kernel) ⟨Nat.le_of_ble_eq_true rfl, Nat.le_of_ble_eq_true rfl⟩) ⟨fun a U g mk q => by obtain ⟨q0, q1, qP, qK, qD⟩ := q; exact ⟨q0, q1, qP, va_K.moved (u := U) (U := U.calling g mk a) (Vm.Alike.refl U.vm) qK, qD⟩, fun U hU hW => ⟨rfl, by rw [hU], by rw [hU]; exact hPc, va_K.moved hW.alike hKc, hDc.weaken (fun _ _ _ _ => trivial)⟩⟩ rfl rfl hl.1 rfl (lv_room (Nat.le_of_ble_eq_true rfl)) dX11_step_21 ⟨Nat.le_of_ble_eq_true rfl, Nat.le_of_ble_eq_true rfl⟩) hS (fun q _ h => hFc q h) hFc (fun r_39 u t H1 locs ht hvm hw hB hz1 hk1 hS => ?_)
      obtain ⟨hP1, hK1, hD1⟩ := hB
      rw [ht] at hP1
      have hP := bv_still hP hk1
      generalize H1 = H at hP hS ⊢
      rcases hw with ⟨h_40, h_41⟩ | ⟨h_42, h_43, h_44, h_45⟩
      · rw [h_40]
        refine lv_if_eq (tgt := 36) hx hb dX11_step_24 rfl (fun c_46 => ?_) (fun c_46 => absurd c_46 (by decide))
        refine lv_ldc hx hb hown (hts (.constant RX11 228 (-1000000)) (List.mem_of_getElem? (i := 7) rfl)) dX11_step_36 ?_
        have hK9 := hK.sub (tys' := []) [] rfl
        exact W.iret (v := (-1000000)) hx hb hr (fun t ht hW => ⟨⟨(-1000000), (), rfl, (Or.inl rfl), by rw [ht]; exact hP, va_K.moved hW.alike hK9, hD⟩, hS.F ht⟩) hS.2.2 dX11_step_38
      · rw [h_42]
        have g_47 : RG h0_4_e1_f1 1 16 := RG_addb (RG_sc (d := (-1)) ex_37 rfl) (q := (-1)) rfl g_h0_4_e1_f1 h_44 (by decide)
        refine lv_if_eq (tgt := 36) hx hb dX11_step_24 rfl (fun c_48 => absurd c_48 (by decide)) (fun c_48 => ?_)
        refine lv_iload_n hx hb dX11_step_27 rfl (lv_at hl 3 rfl) ?_
        refine lv_iconst (v := 0) hx hb dX11_step_28 kc_iconst_0 ?_
        refine lv_iconst (v := 3) hx hb dX11_step_29 kc_iconst_3 ?_
        have hPc := hP.sub (ws' := []) [] rfl
        have hDc := hD.sub (ws' := []) [] (by decide) rfl
        have hKc := hK.sub (tys' := []) [] rfl
        have hFc := va_free (wc := []) hD hS hA [] rfl
        refine va_calli (va_runS (As := [.int p3, .int 0, .int 3]) (rest := []) ⟨hx, hb, hml, hown, hts⟩ (c_X11_isWithin_5 l dC dI H.size p3) (va_cwS 3 hts gf_c_X11_step_c_X11_isWithin_5 rfl rfl rfl (by decide +kernel) ⟨Nat.le_of_ble_eq_true rfl, Nat.le_of_ble_eq_true rfl⟩) ⟨fun a U g mk q => by obtain ⟨q0, q1, qP, qK, qD⟩ := q; exact ⟨q0, q1, qP, va_K.moved (u := U) (U := U.calling g mk a) (Vm.Alike.refl U.vm) qK, qD⟩, fun U hU hW => ⟨rfl, by rw [hU], by rw [hU]; exact hPc, va_K.moved hW.alike hKc, hDc.weaken (fun _ _ _ _ => trivial)⟩⟩ rfl rfl hl.1 rfl (lv_room (Nat.le_of_ble_eq_true rfl)) dX11_step_30 ⟨Nat.le_of_ble_eq_true rfl, Nat.le_of_ble_eq_true rfl⟩) hS (fun q _ h => hFc q h) hFc (fun r_49 u t H1 locs ht hvm hw hB hz1 hk1 hS => ?_)
        obtain ⟨hP1, hK1, hD1⟩ := hB
        rw [ht] at hP1
        have hP := bv_still hP hk1
        generalize H1 = H at hP hS ⊢
        rcases hw with ⟨h_50, h_51⟩ | ⟨h_52, h_53⟩
        · rw [h_50]
          refine lv_if_ne (tgt := 39) hx hb dX11_step_33 rfl (fun c_54 => absurd c_54 (by decide)) (fun c_54 => ?_)
          refine lv_ldc hx hb hown (hts (.constant RX11 228 (-1000000)) (List.mem_of_getElem? (i := 7) rfl)) dX11_step_36 ?_
          have hK9 := hK.sub (tys' := []) [] rfl
          exact W.iret (v := (-1000000)) hx hb hr (fun t ht hW => ⟨⟨(-1000000), (), rfl, (Or.inl rfl), by rw [ht]; exact hP, va_K.moved hW.alike hK9, hD⟩, hS.F ht⟩) hS.2.2 dX11_step_38
        · rw [h_52]
          refine lv_if_ne (tgt := 39) hx hb dX11_step_33 rfl (fun c_55 => ?_) (fun c_55 => absurd c_55 (by decide))
          refine lv_aload_n hx hb dX11_step_39 rfl (lv_at hl 0 rfl) ?_
          refine va_get (D := (dC, dI)) (ci := 11) (v := .ref h0_4) (C := RX11) (T := TX11) (N := 16) hx hb hts iw_c_X11_step_X11 hown hK hP 0 rfl rfl 4 (by decide) (hts (.fieldLink RX11 35 "BuoyVote" "plans" "[LBuoyVote$Plan;") (List.mem_of_getElem? (i := 8) rfl)) (fun _ h9 => h9) rfl dX11_step_40 ?_
          refine lv_iload_n hx hb dX11_step_43 rfl (lv_at hl 1 rfl) ?_
          by_cases c_56 : p1 = 1
          · refine W.eq (g2 := F0 m 44 ls [.int 1, .ref h0_4]) (by rw [c_56]) ?_
            have g_57 : RG p1 1 1 := RG_k _ _ (by rw [c_56]; rfl)
            refine va_aldq hx hb hK hP 1 0 rfl rfl (by unfold vp_in; decide) dX11_step_44 ?_
            rw [show h0_4c (1 : Int32).toNatClampNeg = some h0_4_e1 from e_h0_4_e1]
            refine W.eq (g2 := F0 m 45 ls [.ref h0_4_e1]) rfl ?_
            refine lv_iload_n hx hb dX11_step_45 rfl (lv_at hl 2 rfl) ?_
            refine lv_iload_n hx hb dX11_step_46 rfl (lv_at hl 3 rfl) ?_
            have hPc := hP.sub (ws' := (wd_c_X6_part h0_4_e1 h0_4_e1_0 h0_4_e1_f1 h0_4_e1_0 h0_4_e1_0k h0_4_e1_0c)) [4, 5] rfl
            have hDc := hD.sub (ws' := (wd_c_X6_part h0_4_e1 h0_4_e1_0 h0_4_e1_f1 h0_4_e1_0 h0_4_e1_0k h0_4_e1_0c)) [4, 5] (by decide) rfl
            have hKc := hK.sub (tys' := [(h0_4_e1_0k, .int)]) [2] rfl
            have hFc := va_free (wc := (wd_c_X6_part h0_4_e1 h0_4_e1_0 h0_4_e1_f1 h0_4_e1_0 h0_4_e1_0k h0_4_e1_0c)) hD hS hA [4, 5] rfl
            refine va_calli (va_runV (As := [.int p2, .int p3]) (rest := []) ⟨hx, hb, hml, hown, hts⟩ (c_X6_part l dC dI H.size h0_4_e1 p2 p3 h0_4_e1_0 h0_4_e1_f1 h0_4_e1_0k h0_4_e1_0c h_43 h_53 (RG_w g_47 (by decide)) a_h0_4_e1_0c) (cwV 2 hts gf_c_X11_step_c_X6_part rfl rfl rfl (by decide +kernel) ⟨Nat.le_of_ble_eq_true rfl, Nat.le_of_ble_eq_true rfl⟩) ⟨fun a U g mk q => by obtain ⟨q0, q1, qP, qK, qD⟩ := q; exact ⟨q0, q1, qP, va_K.moved (u := U) (U := U.calling g mk a) (Vm.Alike.refl U.vm) qK, qD⟩, va_recv hKc hPc (ci := 6) (q0 := 0) rfl rfl, fun U hU hW => ⟨rfl, by rw [hU], by rw [hU]; exact hPc, va_K.moved hW.alike hKc, hDc.weaken (fun _ _ _ _ => trivial)⟩⟩ rfl rfl hl.1 rfl (lv_room (Nat.le_of_ble_eq_true rfl)) dX11_step_47 ⟨Nat.le_of_ble_eq_true rfl, Nat.le_of_ble_eq_true rfl⟩) hS (fun q _ h => hFc q h) hFc (fun r_58 u t H1 locs ht hvm hw hB hz1 hk1 hS => ?_)
            obtain ⟨hP1, hK1, hD1⟩ := hB
            rw [ht] at hP1
            obtain ⟨hP, hD⟩ := va_join (wr := [(h0, .inr (11, [.ref h0_0, .ref h0_1, .ref h0_2, .ref h0_3, .ref h0_4, .int h0_f5, .ref h0_6, .ref h0_7, .ref h0_8, .ref h0_9, .ref h0_10, .ref h0_11, .ref h0_12, .ref h0_13, .ref h0_14, .long h0_f15])), (h0_4, .inl (h0_4k, 5, .inr (.inr (.inr (.inr h0_4c))))), (h0_4_e0, .inr (6, [.ref h0_4_e0_0, .int h0_4_e0_f1])), (h0_4_e0_0, .inl (h0_4_e0_0k, 64, .inl h0_4_e0_0c)), (h0_4_e2, .inr (6, [.ref h0_4_e2_0, .int h0_4_e2_f1])), (h0_4_e2_0, .inl (h0_4_e2_0k, 64, .inl h0_4_e2_0c)), (h0_4_e3, .inr (6, [.ref h0_4_e3_0, .int h0_4_e3_f1])), (h0_4_e3_0, .inl (h0_4_e3_0k, 64, .inl h0_4_e3_0c))]) (w1 := (wd_c_X6_part h0_4_e1 h0_4_e1_0 h0_4_e1_f1 h0_4_e1_0 h0_4_e1_0k h0_4_e1_0c)) hP hD [4, 5] [0, 1, 2, 3, 6, 7, 8, 9] rfl rfl (by decide) (by decide) hk1 hFc hP1 hD1
            have hP := hP.sub (ws' := (wd_c_X11_step h0 h0_0 h0_1 h0_2 h0_3 h0_4 h0_f5 h0_6 h0_7 h0_8 h0_9 h0_10 h0_11 h0_12 h0_13 h0_14 h0_f15 h0_4 h0_4k h0_4c h0_4_e0 h0_4_e0_0 h0_4_e0_f1 h0_4_e0_0 h0_4_e0_0k h0_4_e0_0c h0_4_e1 h0_4_e1_0 h0_4_e1_f1 h0_4_e1_0 h0_4_e1_0k h0_4_e1_0c h0_4_e2 h0_4_e2_0 h0_4_e2_f1 h0_4_e2_0 h0_4_e2_0k h0_4_e2_0c h0_4_e3 h0_4_e3_0 h0_4_e3_f1 h0_4_e3_0 h0_4_e3_0k h0_4_e3_0c)) [0, 1, 2, 3, 8, 9, 4, 5, 6, 7] rfl
            have hD := hD.sub (ws' := (wd_c_X11_step h0 h0_0 h0_1 h0_2 h0_3 h0_4 h0_f5 h0_6 h0_7 h0_8 h0_9 h0_10 h0_11 h0_12 h0_13 h0_14 h0_f15 h0_4 h0_4k h0_4c h0_4_e0 h0_4_e0_0 h0_4_e0_f1 h0_4_e0_0 h0_4_e0_0k h0_4_e0_0c h0_4_e1 h0_4_e1_0 h0_4_e1_f1 h0_4_e1_0 h0_4_e1_0k h0_4_e1_0c h0_4_e2 h0_4_e2_0 h0_4_e2_f1 h0_4_e2_0 h0_4_e2_0k h0_4_e2_0c h0_4_e3 h0_4_e3_0 h0_4_e3_f1 h0_4_e3_0 h0_4_e3_0k h0_4_e3_0c)) [0, 1, 2, 3, 8, 9, 4, 5, 6, 7] (by decide) rfl
            generalize H1 = H at hP hS ⊢
            rcases hw with ⟨h_59, h_60⟩
            have hK9 := hK.sub (tys' := []) [] rfl
            exact W.iret (v := r_58) hx hb hr (fun t ht hW => ⟨⟨r_58, (), rfl, (Or.inr ⟨h_59, h_5, (RG_w g_57 (by decide)), h_43, h_53⟩), by rw [ht]; exact hP, va_K.moved hW.alike hK9, hD⟩, hS.F ht⟩) hS.2.2 dX11_step_50
          exfalso
          have zc_56 := lv_neT c_56 (a := 1) (by decide)
          have zg1 := (g_36).1
          have zg2 := (g_36).2
          omega
    by_cases c_61 : p1 = 2
    · refine W.eq (g2 := F0 m 15 ls [.int 2, .ref h0_4, .int 0, .int p2]) (by rw [c_61]) ?_
      have g_62 : RG p1 2 2 := RG_k _ _ (by rw [c_61]; rfl)
      refine va_aldq hx hb hK hP 1 0 rfl rfl (by unfold vp_in; decide) dX11_step_15 ?_
      rw [show h0_4c (2 : Int32).toNatClampNeg = some h0_4_e2 from e_h0_4_e2]
      refine W.eq (g2 := F0 m 16 ls [.ref h0_4_e2, .int 0, .int p2]) rfl ?_
      refine va_get (D := (dC, dI)) (ci := 6) (v := .int h0_4_e2_f1) (C := RX6) (T := TX6) (N := 2) hx hb hts iw_c_X11_step_X6 hown hK hP 6 rfl rfl 1 (by decide) (hts (.fieldLink RX11 296 "BuoyVote$Plan" "steps" "I") (List.mem_of_getElem? (i := 9) rfl)) (fun _ h9 => h9) rfl dX11_step_16 ?_
      refine lv_iconst (v := 1) hx hb dX11_step_19 kc_iconst_1 ?_
      refine lv_isub hx hb dX11_step_20 ?_
      refine lv_topi (fun x_63 ex_63 => ?_)
      have g_64 : RG x_63 (-1) 15 := RG_sub ex_63 g_h0_4_e2_f1 (RG_k 1 1 rfl) (by decide)
      have hPc := hP.sub (ws' := []) [] rfl
      have hDc := hD.sub (ws' := []) [] (by decide) rfl
      have hKc := hK.sub (tys' := []) [] rfl
      have hFc := va_free (wc := []) hD hS hA [] rfl
      refine va_calli (va_runS (As := [.int p2, .int 0, .int x_63]) (rest := []) ⟨hx, hb, hml, hown, hts⟩ (c_X11_isWithin_4 l dC dI H.size p2 x_63 g_64) (va_cwS 3 hts gf_c_X11_step_c_X11_isWithin_4 rfl rfl rfl (by decide +kernel) ⟨Nat.le_of_ble_eq_true rfl, Nat.le_of_ble_eq_true rfl⟩) ⟨fun a U g mk q => by obtain ⟨q0, q1, qP, qK, qD⟩ := q; exact ⟨q0, q1, qP, va_K.moved (u := U) (U := U.calling g mk a) (Vm.Alike.refl U.vm) qK, qD⟩, fun U hU hW => ⟨rfl, by rw [hU], by rw [hU]; exact hPc, va_K.moved hW.alike hKc, hDc.weaken (fun _ _ _ _ => trivial)⟩⟩ rfl rfl hl.1 rfl (lv_room (Nat.le_of_ble_eq_true rfl)) dX11_step_21 ⟨Nat.le_of_ble_eq_true rfl, Nat.le_of_ble_eq_true rfl⟩) hS (fun q _ h => hFc q h) hFc (fun r_65 u t H1 locs ht hvm hw hB hz1 hk1 hS => ?_)
      obtain ⟨hP1, hK1, hD1⟩ := hB
      rw [ht] at hP1
      have hP := bv_still hP hk1
      generalize H1 = H at hP hS ⊢
      rcases hw with ⟨h_66, h_67⟩ | ⟨h_68, h_69, h_70, h_71⟩
      · rw [h_66]
        refine lv_if_eq (tgt := 36) hx hb dX11_step_24 rfl (fun c_72 => ?_) (fun c_72 => absurd c_72 (by decide))
        refine lv_ldc hx hb hown (hts (.constant RX11 228 (-1000000)) (List.mem_of_getElem? (i := 7) rfl)) dX11_step_36 ?_
        have hK9 := hK.sub (tys' := []) [] rfl
        exact W.iret (v := (-1000000)) hx hb hr (fun t ht hW => ⟨⟨(-1000000), (), rfl, (Or.inl rfl), by rw [ht]; exact hP, va_K.moved hW.alike hK9, hD⟩, hS.F ht⟩) hS.2.2 dX11_step_38
      · rw [h_68]
        have g_73 : RG h0_4_e2_f1 1 16 := RG_addb (RG_sc (d := (-1)) ex_63 rfl) (q := (-1)) rfl g_h0_4_e2_f1 h_70 (by decide)
        refine lv_if_eq (tgt := 36) hx hb dX11_step_24 rfl (fun c_74 => absurd c_74 (by decide)) (fun c_74 => ?_)
        refine lv_iload_n hx hb dX11_step_27 rfl (lv_at hl 3 rfl) ?_
        refine lv_iconst (v := 0) hx hb dX11_step_28 kc_iconst_0 ?_
        refine lv_iconst (v := 3) hx hb dX11_step_29 kc_iconst_3 ?_
        have hPc := hP.sub (ws' := []) [] rfl
        have hDc := hD.sub (ws' := []) [] (by decide) rfl
        have hKc := hK.sub (tys' := []) [] rfl
        have hFc := va_free (wc := []) hD hS hA [] rfl
        refine va_calli (va_runS (As := [.int p3, .int 0, .int 3]) (rest := []) ⟨hx, hb, hml, hown, hts⟩ (c_X11_isWithin_5 l dC dI H.size p3) (va_cwS 3 hts gf_c_X11_step_c_X11_isWithin_5 rfl rfl rfl (by decide +kernel) ⟨Nat.le_of_ble_eq_true rfl, Nat.le_of_ble_eq_true rfl⟩) ⟨fun a U g mk q => by obtain ⟨q0, q1, qP, qK, qD⟩ := q; exact ⟨q0, q1, qP, va_K.moved (u := U) (U := U.calling g mk a) (Vm.Alike.refl U.vm) qK, qD⟩, fun U hU hW => ⟨rfl, by rw [hU], by rw [hU]; exact hPc, va_K.moved hW.alike hKc, hDc.weaken (fun _ _ _ _ => trivial)⟩⟩ rfl rfl hl.1 rfl (lv_room (Nat.le_of_ble_eq_true rfl)) dX11_step_30 ⟨Nat.le_of_ble_eq_true rfl, Nat.le_of_ble_eq_true rfl⟩) hS (fun q _ h => hFc q h) hFc (fun r_75 u t H1 locs ht hvm hw hB hz1 hk1 hS => ?_)
        obtain ⟨hP1, hK1, hD1⟩ := hB
        rw [ht] at hP1
        have hP := bv_still hP hk1
        generalize H1 = H at hP hS ⊢
        rcases hw with ⟨h_76, h_77⟩ | ⟨h_78, h_79⟩
        · rw [h_76]
          refine lv_if_ne (tgt := 39) hx hb dX11_step_33 rfl (fun c_80 => absurd c_80 (by decide)) (fun c_80 => ?_)
          refine lv_ldc hx hb hown (hts (.constant RX11 228 (-1000000)) (List.mem_of_getElem? (i := 7) rfl)) dX11_step_36 ?_
          have hK9 := hK.sub (tys' := []) [] rfl
          exact W.iret (v := (-1000000)) hx hb hr (fun t ht hW => ⟨⟨(-1000000), (), rfl, (Or.inl rfl), by rw [ht]; exact hP, va_K.moved hW.alike hK9, hD⟩, hS.F ht⟩) hS.2.2 dX11_step_38
        · rw [h_78]
          refine lv_if_ne (tgt := 39) hx hb dX11_step_33 rfl (fun c_81 => ?_) (fun c_81 => absurd c_81 (by decide))
          refine lv_aload_n hx hb dX11_step_39 rfl (lv_at hl 0 rfl) ?_
          refine va_get (D := (dC, dI)) (ci := 11) (v := .ref h0_4) (C := RX11) (T := TX11) (N := 16) hx hb hts iw_c_X11_step_X11 hown hK hP 0 rfl rfl 4 (by decide) (hts (.fieldLink RX11 35 "BuoyVote" "plans" "[LBuoyVote$Plan;") (List.mem_of_getElem? (i := 8) rfl)) (fun _ h9 => h9) rfl dX11_step_40 ?_
          refine lv_iload_n hx hb dX11_step_43 rfl (lv_at hl 1 rfl) ?_
          by_cases c_82 : p1 = 2
          · refine W.eq (g2 := F0 m 44 ls [.int 2, .ref h0_4]) (by rw [c_82]) ?_
            have g_83 : RG p1 2 2 := RG_k _ _ (by rw [c_82]; rfl)
            refine va_aldq hx hb hK hP 1 0 rfl rfl (by unfold vp_in; decide) dX11_step_44 ?_
            rw [show h0_4c (2 : Int32).toNatClampNeg = some h0_4_e2 from e_h0_4_e2]
            refine W.eq (g2 := F0 m 45 ls [.ref h0_4_e2]) rfl ?_
            refine lv_iload_n hx hb dX11_step_45 rfl (lv_at hl 2 rfl) ?_
            refine lv_iload_n hx hb dX11_step_46 rfl (lv_at hl 3 rfl) ?_
            have hPc := hP.sub (ws' := (wd_c_X6_part h0_4_e2 h0_4_e2_0 h0_4_e2_f1 h0_4_e2_0 h0_4_e2_0k h0_4_e2_0c)) [6, 7] rfl
            have hDc := hD.sub (ws' := (wd_c_X6_part h0_4_e2 h0_4_e2_0 h0_4_e2_f1 h0_4_e2_0 h0_4_e2_0k h0_4_e2_0c)) [6, 7] (by decide) rfl
            have hKc := hK.sub (tys' := [(h0_4_e2_0k, .int)]) [3] rfl
            have hFc := va_free (wc := (wd_c_X6_part h0_4_e2 h0_4_e2_0 h0_4_e2_f1 h0_4_e2_0 h0_4_e2_0k h0_4_e2_0c)) hD hS hA [6, 7] rfl
            refine va_calli (va_runV (As := [.int p2, .int p3]) (rest := []) ⟨hx, hb, hml, hown, hts⟩ (c_X6_part l dC dI H.size h0_4_e2 p2 p3 h0_4_e2_0 h0_4_e2_f1 h0_4_e2_0k h0_4_e2_0c h_69 h_79 (RG_w g_73 (by decide)) a_h0_4_e2_0c) (cwV 2 hts gf_c_X11_step_c_X6_part rfl rfl rfl (by decide +kernel) ⟨Nat.le_of_ble_eq_true rfl, Nat.le_of_ble_eq_true rfl⟩) ⟨fun a U g mk q => by obtain ⟨q0, q1, qP, qK, qD⟩ := q; exact ⟨q0, q1, qP, va_K.moved (u := U) (U := U.calling g mk a) (Vm.Alike.refl U.vm) qK, qD⟩, va_recv hKc hPc (ci := 6) (q0 := 0) rfl rfl, fun U hU hW => ⟨rfl, by rw [hU], by rw [hU]; exact hPc, va_K.moved hW.alike hKc, hDc.weaken (fun _ _ _ _ => trivial)⟩⟩ rfl rfl hl.1 rfl (lv_room (Nat.le_of_ble_eq_true rfl)) dX11_step_47 ⟨Nat.le_of_ble_eq_true rfl, Nat.le_of_ble_eq_true rfl⟩) hS (fun q _ h => hFc q h) hFc (fun r_84 u t H1 locs ht hvm hw hB hz1 hk1 hS => ?_)
            obtain ⟨hP1, hK1, hD1⟩ := hB
            rw [ht] at hP1
            obtain ⟨hP, hD⟩ := va_join (wr := [(h0, .inr (11, [.ref h0_0, .ref h0_1, .ref h0_2, .ref h0_3, .ref h0_4, .int h0_f5, .ref h0_6, .ref h0_7, .ref h0_8, .ref h0_9, .ref h0_10, .ref h0_11, .ref h0_12, .ref h0_13, .ref h0_14, .long h0_f15])), (h0_4, .inl (h0_4k, 5, .inr (.inr (.inr (.inr h0_4c))))), (h0_4_e0, .inr (6, [.ref h0_4_e0_0, .int h0_4_e0_f1])), (h0_4_e0_0, .inl (h0_4_e0_0k, 64, .inl h0_4_e0_0c)), (h0_4_e1, .inr (6, [.ref h0_4_e1_0, .int h0_4_e1_f1])), (h0_4_e1_0, .inl (h0_4_e1_0k, 64, .inl h0_4_e1_0c)), (h0_4_e3, .inr (6, [.ref h0_4_e3_0, .int h0_4_e3_f1])), (h0_4_e3_0, .inl (h0_4_e3_0k, 64, .inl h0_4_e3_0c))]) (w1 := (wd_c_X6_part h0_4_e2 h0_4_e2_0 h0_4_e2_f1 h0_4_e2_0 h0_4_e2_0k h0_4_e2_0c)) hP hD [6, 7] [0, 1, 2, 3, 4, 5, 8, 9] rfl rfl (by decide) (by decide) hk1 hFc hP1 hD1
            have hP := hP.sub (ws' := (wd_c_X11_step h0 h0_0 h0_1 h0_2 h0_3 h0_4 h0_f5 h0_6 h0_7 h0_8 h0_9 h0_10 h0_11 h0_12 h0_13 h0_14 h0_f15 h0_4 h0_4k h0_4c h0_4_e0 h0_4_e0_0 h0_4_e0_f1 h0_4_e0_0 h0_4_e0_0k h0_4_e0_0c h0_4_e1 h0_4_e1_0 h0_4_e1_f1 h0_4_e1_0 h0_4_e1_0k h0_4_e1_0c h0_4_e2 h0_4_e2_0 h0_4_e2_f1 h0_4_e2_0 h0_4_e2_0k h0_4_e2_0c h0_4_e3 h0_4_e3_0 h0_4_e3_f1 h0_4_e3_0 h0_4_e3_0k h0_4_e3_0c)) [0, 1, 2, 3, 4, 5, 8, 9, 6, 7] rfl
            have hD := hD.sub (ws' := (wd_c_X11_step h0 h0_0 h0_1 h0_2 h0_3 h0_4 h0_f5 h0_6 h0_7 h0_8 h0_9 h0_10 h0_11 h0_12 h0_13 h0_14 h0_f15 h0_4 h0_4k h0_4c h0_4_e0 h0_4_e0_0 h0_4_e0_f1 h0_4_e0_0 h0_4_e0_0k h0_4_e0_0c h0_4_e1 h0_4_e1_0 h0_4_e1_f1 h0_4_e1_0 h0_4_e1_0k h0_4_e1_0c h0_4_e2 h0_4_e2_0 h0_4_e2_f1 h0_4_e2_0 h0_4_e2_0k h0_4_e2_0c h0_4_e3 h0_4_e3_0 h0_4_e3_f1 h0_4_e3_0 h0_4_e3_0k h0_4_e3_0c)) [0, 1, 2, 3, 4, 5, 8, 9, 6, 7] (by decide) rfl
            generalize H1 = H at hP hS ⊢
            rcases hw with ⟨h_85, h_86⟩
            have hK9 := hK.sub (tys' := []) [] rfl
            exact W.iret (v := r_84) hx hb hr (fun t ht hW => ⟨⟨r_84, (), rfl, (Or.inr ⟨h_85, h_5, (RG_w g_83 (by decide)), h_69, h_79⟩), by rw [ht]; exact hP, va_K.moved hW.alike hK9, hD⟩, hS.F ht⟩) hS.2.2 dX11_step_50
          exfalso
          have zc_82 := lv_neT c_82 (a := 2) (by decide)
          have zg1 := (g_62).1
          have zg2 := (g_62).2
          omega
    by_cases c_87 : p1 = 3
    · refine W.eq (g2 := F0 m 15 ls [.int 3, .ref h0_4, .int 0, .int p2]) (by rw [c_87]) ?_
      have g_88 : RG p1 3 3 := RG_k _ _ (by rw [c_87]; rfl)
      refine va_aldq hx hb hK hP 1 0 rfl rfl (by unfold vp_in; decide) dX11_step_15 ?_
      rw [show h0_4c (3 : Int32).toNatClampNeg = some h0_4_e3 from e_h0_4_e3]
      refine W.eq (g2 := F0 m 16 ls [.ref h0_4_e3, .int 0, .int p2]) rfl ?_
      refine va_get (D := (dC, dI)) (ci := 6) (v := .int h0_4_e3_f1) (C := RX6) (T := TX6) (N := 2) hx hb hts iw_c_X11_step_X6 hown hK hP 8 rfl rfl 1 (by decide) (hts (.fieldLink RX11 296 "BuoyVote$Plan" "steps" "I") (List.mem_of_getElem? (i := 9) rfl)) (fun _ h9 => h9) rfl dX11_step_16 ?_
      refine lv_iconst (v := 1) hx hb dX11_step_19 kc_iconst_1 ?_
      refine lv_isub hx hb dX11_step_20 ?_
      refine lv_topi (fun x_89 ex_89 => ?_)
      have g_90 : RG x_89 (-1) 15 := RG_sub ex_89 g_h0_4_e3_f1 (RG_k 1 1 rfl) (by decide)
      have hPc := hP.sub (ws' := []) [] rfl
      have hDc := hD.sub (ws' := []) [] (by decide) rfl
      have hKc := hK.sub (tys' := []) [] rfl
      have hFc := va_free (wc := []) hD hS hA [] rfl
      refine va_calli (va_runS (As := [.int p2, .int 0, .int x_89]) (rest := []) ⟨hx, hb, hml, hown, hts⟩ (c_X11_isWithin_4 l dC dI H.size p2 x_89 g_90) (va_cwS 3 hts gf_c_X11_step_c_X11_isWithin_4 rfl rfl rfl (by decide +kernel) ⟨Nat.le_of_ble_eq_true rfl, Nat.le_of_ble_eq_true rfl⟩) ⟨fun a U g mk q => by obtain ⟨q0, q1, qP, qK, qD⟩ := q; exact ⟨q0, q1, qP, va_K.moved (u := U) (U := U.calling g mk a) (Vm.Alike.refl U.vm) qK, qD⟩, fun U hU hW => ⟨rfl, by rw [hU], by rw [hU]; exact hPc, va_K.moved hW.alike hKc, hDc.weaken (fun _ _ _ _ => trivial)⟩⟩ rfl rfl hl.1 rfl (lv_room (Nat.le_of_ble_eq_true rfl)) dX11_step_21 ⟨Nat.le_of_ble_eq_true rfl, Nat.le_of_ble_eq_true rfl⟩) hS (fun q _ h => hFc q h) hFc (fun r_91 u t H1 locs ht hvm hw hB hz1 hk1 hS => ?_)
      obtain ⟨hP1, hK1, hD1⟩ := hB
      rw [ht] at hP1
      have hP := bv_still hP hk1
      generalize H1 = H at hP hS ⊢
      rcases hw with ⟨h_92, h_93⟩ | ⟨h_94, h_95, h_96, h_97⟩
      · rw [h_92]
        refine lv_if_eq (tgt := 36) hx hb dX11_step_24 rfl (fun c_98 => ?_) (fun c_98 => absurd c_98 (by decide))
        refine lv_ldc hx hb hown (hts (.constant RX11 228 (-1000000)) (List.mem_of_getElem? (i := 7) rfl)) dX11_step_36 ?_
        have hK9 := hK.sub (tys' := []) [] rfl
        exact W.iret (v := (-1000000)) hx hb hr (fun t ht hW => ⟨⟨(-1000000), (), rfl, (Or.inl rfl), by rw [ht]; exact hP, va_K.moved hW.alike hK9, hD⟩, hS.F ht⟩) hS.2.2 dX11_step_38
      · rw [h_94]
        have g_99 : RG h0_4_e3_f1 1 16 := RG_addb (RG_sc (d := (-1)) ex_89 rfl) (q := (-1)) rfl g_h0_4_e3_f1 h_96 (by decide)
        refine lv_if_eq (tgt := 36) hx hb dX11_step_24 rfl (fun c_100 => absurd c_100 (by decide)) (fun c_100 => ?_)
        refine lv_iload_n hx hb dX11_step_27 rfl (lv_at hl 3 rfl) ?_
        refine lv_iconst (v := 0) hx hb dX11_step_28 kc_iconst_0 ?_
        refine lv_iconst (v := 3) hx hb dX11_step_29 kc_iconst_3 ?_
        have hPc := hP.sub (ws' := []) [] rfl
        have hDc := hD.sub (ws' := []) [] (by decide) rfl
        have hKc := hK.sub (tys' := []) [] rfl
        have hFc := va_free (wc := []) hD hS hA [] rfl
        refine va_calli (va_runS (As := [.int p3, .int 0, .int 3]) (rest := []) ⟨hx, hb, hml, hown, hts⟩ (c_X11_isWithin_5 l dC dI H.size p3) (va_cwS 3 hts gf_c_X11_step_c_X11_isWithin_5 rfl rfl rfl (by decide +kernel) ⟨Nat.le_of_ble_eq_true rfl, Nat.le_of_ble_eq_true rfl⟩) ⟨fun a U g mk q => by obtain ⟨q0, q1, qP, qK, qD⟩ := q; exact ⟨q0, q1, qP, va_K.moved (u := U) (U := U.calling g mk a) (Vm.Alike.refl U.vm) qK, qD⟩, fun U hU hW => ⟨rfl, by rw [hU], by rw [hU]; exact hPc, va_K.moved hW.alike hKc, hDc.weaken (fun _ _ _ _ => trivial)⟩⟩ rfl rfl hl.1 rfl (lv_room (Nat.le_of_ble_eq_true rfl)) dX11_step_30 ⟨Nat.le_of_ble_eq_true rfl, Nat.le_of_ble_eq_true rfl⟩) hS (fun q _ h => hFc q h) hFc (fun r_101 u t H1 locs ht hvm hw hB hz1 hk1 hS => ?_)
        obtain ⟨hP1, hK1, hD1⟩ := hB
        rw [ht] at hP1
        have hP := bv_still hP hk1
        generalize H1 = H at hP hS ⊢
        rcases hw with ⟨h_102, h_103⟩ | ⟨h_104, h_105⟩
        · rw [h_102]
          refine lv_if_ne (tgt := 39) hx hb dX11_step_33 rfl (fun c_106 => absurd c_106 (by decide)) (fun c_106 => ?_)
          refine lv_ldc hx hb hown (hts (.constant RX11 228 (-1000000)) (List.mem_of_getElem? (i := 7) rfl)) dX11_step_36 ?_
          have hK9 := hK.sub (tys' := []) [] rfl
          exact W.iret (v := (-1000000)) hx hb hr (fun t ht hW => ⟨⟨(-1000000), (), rfl, (Or.inl rfl), by rw [ht]; exact hP, va_K.moved hW.alike hK9, hD⟩, hS.F ht⟩) hS.2.2 dX11_step_38
        · rw [h_104]
          refine lv_if_ne (tgt := 39) hx hb dX11_step_33 rfl (fun c_107 => ?_) (fun c_107 => absurd c_107 (by decide))
          refine lv_aload_n hx hb dX11_step_39 rfl (lv_at hl 0 rfl) ?_
          refine va_get (D := (dC, dI)) (ci := 11) (v := .ref h0_4) (C := RX11) (T := TX11) (N := 16) hx hb hts iw_c_X11_step_X11 hown hK hP 0 rfl rfl 4 (by decide) (hts (.fieldLink RX11 35 "BuoyVote" "plans" "[LBuoyVote$Plan;") (List.mem_of_getElem? (i := 8) rfl)) (fun _ h9 => h9) rfl dX11_step_40 ?_
          refine lv_iload_n hx hb dX11_step_43 rfl (lv_at hl 1 rfl) ?_
          by_cases c_108 : p1 = 3
          · refine W.eq (g2 := F0 m 44 ls [.int 3, .ref h0_4]) (by rw [c_108]) ?_
            have g_109 : RG p1 3 3 := RG_k _ _ (by rw [c_108]; rfl)
            refine va_aldq hx hb hK hP 1 0 rfl rfl (by unfold vp_in; decide) dX11_step_44 ?_
            rw [show h0_4c (3 : Int32).toNatClampNeg = some h0_4_e3 from e_h0_4_e3]
            refine W.eq (g2 := F0 m 45 ls [.ref h0_4_e3]) rfl ?_
            refine lv_iload_n hx hb dX11_step_45 rfl (lv_at hl 2 rfl) ?_
            refine lv_iload_n hx hb dX11_step_46 rfl (lv_at hl 3 rfl) ?_
            have hPc := hP.sub (ws' := (wd_c_X6_part h0_4_e3 h0_4_e3_0 h0_4_e3_f1 h0_4_e3_0 h0_4_e3_0k h0_4_e3_0c)) [8, 9] rfl
            have hDc := hD.sub (ws' := (wd_c_X6_part h0_4_e3 h0_4_e3_0 h0_4_e3_f1 h0_4_e3_0 h0_4_e3_0k h0_4_e3_0c)) [8, 9] (by decide) rfl
            have hKc := hK.sub (tys' := [(h0_4_e3_0k, .int)]) [4] rfl
            have hFc := va_free (wc := (wd_c_X6_part h0_4_e3 h0_4_e3_0 h0_4_e3_f1 h0_4_e3_0 h0_4_e3_0k h0_4_e3_0c)) hD hS hA [8, 9] rfl
            refine va_calli (va_runV (As := [.int p2, .int p3]) (rest := []) ⟨hx, hb, hml, hown, hts⟩ (c_X6_part l dC dI H.size h0_4_e3 p2 p3 h0_4_e3_0 h0_4_e3_f1 h0_4_e3_0k h0_4_e3_0c h_95 h_105 (RG_w g_99 (by decide)) a_h0_4_e3_0c) (cwV 2 hts gf_c_X11_step_c_X6_part rfl rfl rfl (by decide +kernel) ⟨Nat.le_of_ble_eq_true rfl, Nat.le_of_ble_eq_true rfl⟩) ⟨fun a U g mk q => by obtain ⟨q0, q1, qP, qK, qD⟩ := q; exact ⟨q0, q1, qP, va_K.moved (u := U) (U := U.calling g mk a) (Vm.Alike.refl U.vm) qK, qD⟩, va_recv hKc hPc (ci := 6) (q0 := 0) rfl rfl, fun U hU hW => ⟨rfl, by rw [hU], by rw [hU]; exact hPc, va_K.moved hW.alike hKc, hDc.weaken (fun _ _ _ _ => trivial)⟩⟩ rfl rfl hl.1 rfl (lv_room (Nat.le_of_ble_eq_true rfl)) dX11_step_47 ⟨Nat.le_of_ble_eq_true rfl, Nat.le_of_ble_eq_true rfl⟩) hS (fun q _ h => hFc q h) hFc (fun r_110 u t H1 locs ht hvm hw hB hz1 hk1 hS => ?_)
            obtain ⟨hP1, hK1, hD1⟩ := hB
            rw [ht] at hP1
            obtain ⟨hP, hD⟩ := va_join (wr := [(h0, .inr (11, [.ref h0_0, .ref h0_1, .ref h0_2, .ref h0_3, .ref h0_4, .int h0_f5, .ref h0_6, .ref h0_7, .ref h0_8, .ref h0_9, .ref h0_10, .ref h0_11, .ref h0_12, .ref h0_13, .ref h0_14, .long h0_f15])), (h0_4, .inl (h0_4k, 5, .inr (.inr (.inr (.inr h0_4c))))), (h0_4_e0, .inr (6, [.ref h0_4_e0_0, .int h0_4_e0_f1])), (h0_4_e0_0, .inl (h0_4_e0_0k, 64, .inl h0_4_e0_0c)), (h0_4_e1, .inr (6, [.ref h0_4_e1_0, .int h0_4_e1_f1])), (h0_4_e1_0, .inl (h0_4_e1_0k, 64, .inl h0_4_e1_0c)), (h0_4_e2, .inr (6, [.ref h0_4_e2_0, .int h0_4_e2_f1])), (h0_4_e2_0, .inl (h0_4_e2_0k, 64, .inl h0_4_e2_0c))]) (w1 := (wd_c_X6_part h0_4_e3 h0_4_e3_0 h0_4_e3_f1 h0_4_e3_0 h0_4_e3_0k h0_4_e3_0c)) hP hD [8, 9] [0, 1, 2, 3, 4, 5, 6, 7] rfl rfl (by decide) (by decide) hk1 hFc hP1 hD1
            have hP := hP.sub (ws' := (wd_c_X11_step h0 h0_0 h0_1 h0_2 h0_3 h0_4 h0_f5 h0_6 h0_7 h0_8 h0_9 h0_10 h0_11 h0_12 h0_13 h0_14 h0_f15 h0_4 h0_4k h0_4c h0_4_e0 h0_4_e0_0 h0_4_e0_f1 h0_4_e0_0 h0_4_e0_0k h0_4_e0_0c h0_4_e1 h0_4_e1_0 h0_4_e1_f1 h0_4_e1_0 h0_4_e1_0k h0_4_e1_0c h0_4_e2 h0_4_e2_0 h0_4_e2_f1 h0_4_e2_0 h0_4_e2_0k h0_4_e2_0c h0_4_e3 h0_4_e3_0 h0_4_e3_f1 h0_4_e3_0 h0_4_e3_0k h0_4_e3_0c)) [0, 1, 2, 3, 4, 5, 6, 7, 8, 9] rfl
            have hD := hD.sub (ws' := (wd_c_X11_step h0 h0_0 h0_1 h0_2 h0_3 h0_4 h0_f5 h0_6 h0_7 h0_8 h0_9 h0_10 h0_11 h0_12 h0_13 h0_14 h0_f15 h0_4 h0_4k h0_4c h0_4_e0 h0_4_e0_0 h0_4_e0_f1 h0_4_e0_0 h0_4_e0_0k h0_4_e0_0c h0_4_e1 h0_4_e1_0 h0_4_e1_f1 h0_4_e1_0 h0_4_e1_0k h0_4_e1_0c h0_4_e2 h0_4_e2_0 h0_4_e2_f1 h0_4_e2_0 h0_4_e2_0k h0_4_e2_0c h0_4_e3 h0_4_e3_0 h0_4_e3_f1 h0_4_e3_0 h0_4_e3_0k h0_4_e3_0c)) [0, 1, 2, 3, 4, 5, 6, 7, 8, 9] (by decide) rfl
            generalize H1 = H at hP hS ⊢
            rcases hw with ⟨h_111, h_112⟩
            have hK9 := hK.sub (tys' := []) [] rfl
            exact W.iret (v := r_110) hx hb hr (fun t ht hW => ⟨⟨r_110, (), rfl, (Or.inr ⟨h_111, h_5, (RG_w g_109 (by decide)), h_95, h_105⟩), by rw [ht]; exact hP, va_K.moved hW.alike hK9, hD⟩, hS.F ht⟩) hS.2.2 dX11_step_50
          exfalso
          have zc_108 := lv_neT c_108 (a := 3) (by decide)
          have zg1 := (g_88).1
          have zg2 := (g_88).2
          omega
    exfalso
    have zc_9 := lv_neT c_9 (a := 0) (by decide)
    have zc_35 := lv_neT c_35 (a := 1) (by decide)
    have zc_61 := lv_neT c_61 (a := 2) (by decide)
    have zc_87 := lv_neT c_87 (a := 3) (by decide)
    have zg1 := (h_6).1
    have zg2 := (h_6).2
    omega
def wf_c_X11_isWithin_6 : List Cond := .code yX11_isWithin cX11_isWithin 3 (some .boolean) :: ([])
set_option maxHeartbeats 4000000 in
set_option maxRecDepth 100000 in
theorem c_X11_isWithin_6 (l : Launch) (dC : Nat → ClassId) (dI : Nat → Nat → Nat) (sz : Nat) (p0 : Int32) : Met l yX11_isWithin wf_c_X11_isWithin_6 ({ frames := 0, cells := 0, slots := 0, locals := 0 }) (va_Pc [.int p0, .int 0, .int 18] (fun U => U.heap.size = sz ∧ va_P (dC, dI) vwCl [] U.heap ∧ va_K (dC, dI) vwCl [] U ∧ va_D (fun _ => True) [])) (va_Qi (fun (r : Int32) (u : Unit) => (r = 0 ∧ RG p0 (-2147483648) 2147483647) ∨ (r = 1 ∧ RG p0 0 18)) (fun (u : Unit) t => va_P (dC, dI) vwCl [] t.heap ∧ va_K (dC, dI) vwCl [] t ∧ va_D (va_A [] sz) []) (va_A [] sz)) 0 0 (va_A [] sz) := by
  refine Met.ofW (cc := cX11_isWithin) (maxL := 3) (ret := (some .boolean)) (by decide) rfl ?_
  intro p e s m args below meth c s₁ B hml hv
  obtain ⟨rfl, hsz, hP, hK, hD0⟩ := hv
  have hx := B.exec
  have hb := B.bytes
  have hr := B.returns
  have hts := atoms_spec (ws := wf_c_X11_isWithin_6) B.pre
  have hown : s.vm.findClass RX11 = some m.cls := findClass_of_methodNamed B.named
  have hlocks := B.notSynchronized
  subst hsz
  have hD := hD0.self (sz := s.heap.size)
  generalize hAe : va_A [] s.heap.size = A at hD ⊢
  have hA : ∀ q : Nat, s.heap.size ≤ q → A q := fun q h => by rw [← hAe]; exact Or.inr h
  have hP : va_P (dC, dI) vwCl [] s.heap := hP
  have hl := lv_entry ([.int p0, .int 0, .int 18]) (n := 3) (Nat.le_of_ble_eq_true rfl)
  rw [lg_entry_eq]
  generalize (lg_sl ([.int p0, .int 0, .int 18]) ++ List.replicate (3 - (lg_sl ([.int p0, .int 0, .int 18])).length) Slot.unset).toArray = ls at hl ⊢
  have hl : lv_has ls 3 [(0, .int p0), (1, .int 0), (2, .int 18)] := hl
  obtain ⟨H, hHe⟩ : ∃ H : Heap, s.heap = H := ⟨_, rfl⟩
  have hS : va_S A s.heap H [] := by rw [hHe]; exact va_S.rf
  have hP : va_P (dC, dI) vwCl [] H := by rw [← hHe]; exact hP
  rw [hHe]
  refine lv_iload_n hx hb dX11_isWithin_0 rfl (lv_at hl 0 rfl) ?_
  refine lv_iload_n hx hb dX11_isWithin_1 rfl (lv_at hl 1 rfl) ?_
  refine lv_icmp_lt (tgt := 14) hx hb dX11_isWithin_2 rfl (fun c_1 => ?_) (fun c_1 => ?_)
  · have g_2 : RG p0 (-2147483648) (-1) := RG_lt1 (RG_any p0) (RG_k 0 0 rfl) c_1 (by decide)
    refine lv_iconst (v := 0) hx hb dX11_isWithin_14 kc_iconst_0 ?_
    have hK9 := hK.sub (tys' := []) [] rfl
    exact W.zret (v := 0) hx hb hr rfl (fun t ht hW => ⟨⟨0, (), rfl, (Or.inl ⟨rfl, (RG_w g_2 (by decide))⟩), by rw [ht]; exact hP, va_K.moved hW.alike hK9, hD⟩, hS.F ht⟩) hS.2.2 dX11_isWithin_15
  · have d_3 := Int32.not_lt.mp c_1
    have g_4 : RG p0 0 2147483647 := RG_le2 (RG_k 0 0 rfl) (RG_any p0) d_3 (by decide)
    refine lv_iload_n hx hb dX11_isWithin_5 rfl (lv_at hl 0 rfl) ?_
    refine lv_iload_n hx hb dX11_isWithin_6 rfl (lv_at hl 2 rfl) ?_
    refine lv_icmp_gt (tgt := 14) hx hb dX11_isWithin_7 rfl (fun c_5 => ?_) (fun c_5 => ?_)
    · have g_6 : RG p0 19 2147483647 := RG_lt2 (RG_k 18 18 rfl) g_4 c_5 (by decide)
      refine lv_iconst (v := 0) hx hb dX11_isWithin_14 kc_iconst_0 ?_
      have hK9 := hK.sub (tys' := []) [] rfl
      exact W.zret (v := 0) hx hb hr rfl (fun t ht hW => ⟨⟨0, (), rfl, (Or.inl ⟨rfl, (RG_w g_6 (by decide))⟩), by rw [ht]; exact hP, va_K.moved hW.alike hK9, hD⟩, hS.F ht⟩) hS.2.2 dX11_isWithin_15
    · have d_7 := Int32.not_lt.mp c_5
      have g_8 : RG p0 0 18 := RG_le1 g_4 (RG_k 18 18 rfl) d_7 (by decide)
      refine lv_iconst (v := 1) hx hb dX11_isWithin_10 kc_iconst_1 ?_
      refine lv_goto (tgt := 15) hx hb dX11_isWithin_11 rfl ?_
      have hK9 := hK.sub (tys' := []) [] rfl
      exact W.zret (v := 1) hx hb hr rfl (fun t ht hW => ⟨⟨1, (), rfl, (Or.inr ⟨rfl, g_8⟩), by rw [ht]; exact hP, va_K.moved hW.alike hK9, hD⟩, hS.F ht⟩) hS.2.2 dX11_isWithin_15
def wf_c_J6_bitCount_0f7a4_1 : List Cond := .code yJ6_bitCount_0f7a4 cJ6_bitCount_0f7a4 1 (some .int) :: ([.constant RJ6 265 (1431655765), .constant RJ6 266 (858993459), .constant RJ6 267 (252645135)])
set_option maxHeartbeats 4000000 in
set_option maxRecDepth 100000 in
theorem c_J6_bitCount_0f7a4_1 (l : Launch) (dC : Nat → ClassId) (dI : Nat → Nat → Nat) (sz : Nat) (p0 : Int32) (g_p0 : RG p0 0 255) : Met l yJ6_bitCount_0f7a4 wf_c_J6_bitCount_0f7a4_1 ({ frames := 0, cells := 0, slots := 0, locals := 0 }) (va_Pc [.int p0] (fun U => U.heap.size = sz ∧ va_P (dC, dI) vwCl [] U.heap ∧ va_K (dC, dI) vwCl [] U ∧ va_D (fun _ => True) [])) (va_Qi (fun (r : Int32) (u : Unit) => (RG r 0 63)) (fun (u : Unit) t => va_P (dC, dI) vwCl [] t.heap ∧ va_K (dC, dI) vwCl [] t ∧ va_D (va_A [] sz) []) (va_A [] sz)) 0 0 (va_A [] sz) := by
  refine Met.ofW (cc := cJ6_bitCount_0f7a4) (maxL := 1) (ret := (some .int)) (by decide) rfl ?_
  intro p e s m args below meth c s₁ B hml hv
  obtain ⟨rfl, hsz, hP, hK, hD0⟩ := hv
  have hx := B.exec
  have hb := B.bytes
  have hr := B.returns
  have hts := atoms_spec (ws := wf_c_J6_bitCount_0f7a4_1) B.pre
  have hown : s.vm.findClass RJ6 = some m.cls := findClass_of_methodNamed B.named
  have hlocks := B.notSynchronized
  subst hsz
  have hD := hD0.self (sz := s.heap.size)
  generalize hAe : va_A [] s.heap.size = A at hD ⊢
  have hA : ∀ q : Nat, s.heap.size ≤ q → A q := fun q h => by rw [← hAe]; exact Or.inr h
  have hP : va_P (dC, dI) vwCl [] s.heap := hP
  have hl := lv_entry ([.int p0]) (n := 1) (Nat.le_of_ble_eq_true rfl)
  rw [lg_entry_eq]
  generalize (lg_sl ([.int p0]) ++ List.replicate (1 - (lg_sl ([.int p0])).length) Slot.unset).toArray = ls at hl ⊢
  have hl : lv_has ls 1 [(0, .int p0)] := hl
  obtain ⟨H, hHe⟩ : ∃ H : Heap, s.heap = H := ⟨_, rfl⟩
  have hS : va_S A s.heap H [] := by rw [hHe]; exact va_S.rf
  have hP : va_P (dC, dI) vwCl [] H := by rw [← hHe]; exact hP
  rw [hHe]
  refine lv_iload_n hx hb dJ6_bitCount_0f7a4_0 rfl (lv_at hl 0 rfl) ?_
  refine lv_iload_n hx hb dJ6_bitCount_0f7a4_1 rfl (lv_at hl 0 rfl) ?_
  refine lv_iconst (v := 1) hx hb dJ6_bitCount_0f7a4_2 kc_iconst_1 ?_
  refine lv_iushr hx hb dJ6_bitCount_0f7a4_3 rfl ?_
  refine lv_topi (fun x_1 ex_1 => ?_)
  refine lv_ldcw hx hb hown (hts (.constant RJ6 265 (1431655765)) (List.mem_of_getElem? (i := 1) rfl)) dJ6_bitCount_0f7a4_4 ?_
  refine lv_iand hx hb dJ6_bitCount_0f7a4_7 ?_
  refine lv_topi (fun x_2 ex_2 => ?_)
  have g_3 : RG x_2 0 1431655765 := RG_andr ex_2 (RG_k 1431655765 1431655765 rfl) (by decide)
  refine lv_isub hx hb dJ6_bitCount_0f7a4_8 ?_
  refine lv_topi (fun x_4 ex_4 => ?_)
  have g_5 : RG x_4 (-1431655765) 255 := RG_sub ex_4 g_p0 g_3 (by decide)
  refine lv_istore_n (lv' := [(0, .int x_4)]) hx hb dJ6_bitCount_0f7a4_9 rfl hl (Nat.le_of_ble_eq_true rfl) rfl (fun ls hl => ?_)
  refine lv_iload_n hx hb dJ6_bitCount_0f7a4_10 rfl (lv_at hl 0 rfl) ?_
  refine lv_ldcw hx hb hown (hts (.constant RJ6 266 (858993459)) (List.mem_of_getElem? (i := 2) rfl)) dJ6_bitCount_0f7a4_11 ?_
  refine lv_iand hx hb dJ6_bitCount_0f7a4_14 ?_
  refine lv_topi (fun x_6 ex_6 => ?_)
  have g_7 : RG x_6 0 858993459 := RG_andr ex_6 (RG_k 858993459 858993459 rfl) (by decide)
  refine lv_iload_n hx hb dJ6_bitCount_0f7a4_15 rfl (lv_at hl 0 rfl) ?_
  refine lv_iconst (v := 2) hx hb dJ6_bitCount_0f7a4_16 kc_iconst_2 ?_
  refine lv_iushr hx hb dJ6_bitCount_0f7a4_17 rfl ?_
  refine lv_topi (fun x_8 ex_8 => ?_)
  refine lv_ldcw hx hb hown (hts (.constant RJ6 266 (858993459)) (List.mem_of_getElem? (i := 2) rfl)) dJ6_bitCount_0f7a4_18 ?_
  refine lv_iand hx hb dJ6_bitCount_0f7a4_21 ?_
  refine lv_topi (fun x_9 ex_9 => ?_)
  have g_10 : RG x_9 0 858993459 := RG_andr ex_9 (RG_k 858993459 858993459 rfl) (by decide)
  refine lv_iadd hx hb dJ6_bitCount_0f7a4_22 ?_
  refine lv_topi (fun x_11 ex_11 => ?_)
  have g_12 : RG x_11 0 1717986918 := RG_add ex_11 g_7 g_10 (by decide)
  refine lv_istore_n (lv' := [(0, .int x_11)]) hx hb dJ6_bitCount_0f7a4_23 rfl hl (Nat.le_of_ble_eq_true rfl) rfl (fun ls hl => ?_)
  refine lv_iload_n hx hb dJ6_bitCount_0f7a4_24 rfl (lv_at hl 0 rfl) ?_
  refine lv_iload_n hx hb dJ6_bitCount_0f7a4_25 rfl (lv_at hl 0 rfl) ?_
  refine lv_iconst (v := 4) hx hb dJ6_bitCount_0f7a4_26 kc_iconst_4 ?_
  refine lv_iushr hx hb dJ6_bitCount_0f7a4_27 rfl ?_
  refine lv_topi (fun x_13 ex_13 => ?_)
  refine lv_iadd hx hb dJ6_bitCount_0f7a4_28 ?_
  refine lv_topi (fun x_14 ex_14 => ?_)
  refine lv_ldcw hx hb hown (hts (.constant RJ6 267 (252645135)) (List.mem_of_getElem? (i := 3) rfl)) dJ6_bitCount_0f7a4_29 ?_
  refine lv_iand hx hb dJ6_bitCount_0f7a4_32 ?_
  refine lv_topi (fun x_15 ex_15 => ?_)
  have g_16 : RG x_15 0 252645135 := RG_andr ex_15 (RG_k 252645135 252645135 rfl) (by decide)
  refine lv_istore_n (lv' := [(0, .int x_15)]) hx hb dJ6_bitCount_0f7a4_33 rfl hl (Nat.le_of_ble_eq_true rfl) rfl (fun ls hl => ?_)
  refine lv_iload_n hx hb dJ6_bitCount_0f7a4_34 rfl (lv_at hl 0 rfl) ?_
  refine lv_iload_n hx hb dJ6_bitCount_0f7a4_35 rfl (lv_at hl 0 rfl) ?_
  refine lv_bipush (v := 8) hx hb dJ6_bitCount_0f7a4_36 kc_bipush_8 ?_
  refine lv_iushr hx hb dJ6_bitCount_0f7a4_38 rfl ?_
  refine lv_topi (fun x_17 ex_17 => ?_)
  refine lv_iadd hx hb dJ6_bitCount_0f7a4_39 ?_
  refine lv_topi (fun x_18 ex_18 => ?_)
  refine lv_istore_n (lv' := [(0, .int x_18)]) hx hb dJ6_bitCount_0f7a4_40 rfl hl (Nat.le_of_ble_eq_true rfl) rfl (fun ls hl => ?_)
  refine lv_iload_n hx hb dJ6_bitCount_0f7a4_41 rfl (lv_at hl 0 rfl) ?_
  refine lv_iload_n hx hb dJ6_bitCount_0f7a4_42 rfl (lv_at hl 0 rfl) ?_
  refine lv_bipush (v := 16) hx hb dJ6_bitCount_0f7a4_43 kc_bipush_16 ?_
  refine lv_iushr hx hb dJ6_bitCount_0f7a4_45 rfl ?_
  refine lv_topi (fun x_19 ex_19 => ?_)
  refine lv_iadd hx hb dJ6_bitCount_0f7a4_46 ?_
  refine lv_topi (fun x_20 ex_20 => ?_)
  refine lv_istore_n (lv' := [(0, .int x_20)]) hx hb dJ6_bitCount_0f7a4_47 rfl hl (Nat.le_of_ble_eq_true rfl) rfl (fun ls hl => ?_)
  refine lv_iload_n hx hb dJ6_bitCount_0f7a4_48 rfl (lv_at hl 0 rfl) ?_
  refine lv_bipush (v := 63) hx hb dJ6_bitCount_0f7a4_49 kc_bipush_63 ?_
  refine lv_iand hx hb dJ6_bitCount_0f7a4_51 ?_
  refine lv_topi (fun x_21 ex_21 => ?_)
  have g_22 : RG x_21 0 63 := RG_andr ex_21 (RG_k 63 63 rfl) (by decide)
  have hK9 := hK.sub (tys' := []) [] rfl
  exact W.iret (v := x_21) hx hb hr (fun t ht hW => ⟨⟨x_21, (), rfl, g_22, by rw [ht]; exact hP, va_K.moved hW.alike hK9, hD⟩, hS.F ht⟩) hS.2.2 dJ6_bitCount_0f7a4_52
def wd_c_X0_buoyX (a0 : Nat) (a1 : Nat) (a2 : Int32) (a3 : Int32) (a4 : Int32) (a5 : Nat) (a6 : ClassId) (a7 : Nat → Int32) : va_W := [(a0, .inr (0, [.ref a1, .int a2, .int a3, .int a4])), (a5, .inl (a6, 80, .inl a7))]
def wf_c_X0_buoyX : List Cond := .code yX0_buoyX cX0_buoyX 2 (some .int) :: ([.fieldLink RX0 11 "BuoyVote$Borough" "values" "[I"] ++ wsX00)
theorem iw_c_X0_buoyX_X0 : ∀ w ∈ wsX00, w ∈ wf_c_X0_buoyX := fun w h => List.mem_cons_of_mem _ (List.mem_append_right _ h)
set_option maxHeartbeats 4000000 in
set_option maxRecDepth 100000 in
theorem c_X0_buoyX (l : Launch) (dC : Nat → ClassId) (dI : Nat → Nat → Nat) (sz : Nat) (h0 : Nat) (p1 : Int32) (h0_0 : Nat) (h0_f1 : Int32) (h0_f2 : Int32) (h0_f3 : Int32) (h0_0k : ClassId) (h0_0c : Nat → Int32) (g_p1 : RG p1 0 7) (g_h0_f1 : RG h0_f1 0 8) (g_h0_f2 : RG h0_f2 0 3) (g_h0_f3 : RG h0_f3 0 1) (a_h0_0c : AI h0_0c (-1) 99) : Met l yX0_buoyX wf_c_X0_buoyX ({ frames := 0, cells := 0, slots := 0, locals := 0 }) (va_Pc [.ref h0, .int p1] (fun U => U.heap.size = sz ∧ va_P (dC, dI) vwCl (wd_c_X0_buoyX h0 h0_0 h0_f1 h0_f2 h0_f3 h0_0 h0_0k h0_0c) U.heap ∧ va_K (dC, dI) vwCl [(h0_0k, .int)] U ∧ va_D (fun _ => True) (wd_c_X0_buoyX h0 h0_0 h0_f1 h0_f2 h0_f3 h0_0 h0_0k h0_0c))) (va_Qi (fun (r : Int32) (u : Unit) => (RG r (-1) 99)) (fun (u : Unit) t => va_P (dC, dI) vwCl (wd_c_X0_buoyX h0 h0_0 h0_f1 h0_f2 h0_f3 h0_0 h0_0k h0_0c) t.heap ∧ va_K (dC, dI) vwCl [] t ∧ va_D (va_A (wd_c_X0_buoyX h0 h0_0 h0_f1 h0_f2 h0_f3 h0_0 h0_0k h0_0c) sz) (wd_c_X0_buoyX h0 h0_0 h0_f1 h0_f2 h0_f3 h0_0 h0_0k h0_0c)) (va_A (wd_c_X0_buoyX h0 h0_0 h0_f1 h0_f2 h0_f3 h0_0 h0_0k h0_0c) sz)) 0 0 (va_A (wd_c_X0_buoyX h0 h0_0 h0_f1 h0_f2 h0_f3 h0_0 h0_0k h0_0c) sz) := by
  refine Met.ofW (cc := cX0_buoyX) (maxL := 2) (ret := (some .int)) (by decide) rfl ?_
  intro p e s m args below meth c s₁ B hml hv
  obtain ⟨rfl, hsz, hP, hK, hD0⟩ := hv
  have hx := B.exec
  have hb := B.bytes
  have hr := B.returns
  have hts := atoms_spec (ws := wf_c_X0_buoyX) B.pre
  have hown : s.vm.findClass RX0 = some m.cls := findClass_of_methodNamed B.named
  have hlocks := B.notSynchronized
  subst hsz
  have hD := hD0.self (sz := s.heap.size)
  generalize hAe : va_A (wd_c_X0_buoyX h0 h0_0 h0_f1 h0_f2 h0_f3 h0_0 h0_0k h0_0c) s.heap.size = A at hD ⊢
  have hA : ∀ q : Nat, s.heap.size ≤ q → A q := fun q h => by rw [← hAe]; exact Or.inr h
  have hP : va_P (dC, dI) vwCl (wd_c_X0_buoyX h0 h0_0 h0_f1 h0_f2 h0_f3 h0_0 h0_0k h0_0c) s.heap := hP
  have hl := lv_entry ([.ref h0, .int p1]) (n := 2) (Nat.le_of_ble_eq_true rfl)
  rw [lg_entry_eq]
  generalize (lg_sl ([.ref h0, .int p1]) ++ List.replicate (2 - (lg_sl ([.ref h0, .int p1])).length) Slot.unset).toArray = ls at hl ⊢
  have hl : lv_has ls 2 [(0, .ref h0), (1, .int p1)] := hl
  obtain ⟨H, hHe⟩ : ∃ H : Heap, s.heap = H := ⟨_, rfl⟩
  have hS : va_S A s.heap H [] := by rw [hHe]; exact va_S.rf
  have hP : va_P (dC, dI) vwCl (wd_c_X0_buoyX h0 h0_0 h0_f1 h0_f2 h0_f3 h0_0 h0_0k h0_0c) H := by rw [← hHe]; exact hP
  rw [hHe]
  refine lv_aload_n hx hb dX0_buoyX_0 rfl (lv_at hl 0 rfl) ?_
  refine va_get (D := (dC, dI)) (ci := 0) (v := .ref h0_0) (C := RX0) (T := TX0) (N := 4) hx hb hts iw_c_X0_buoyX_X0 hown hK hP 0 rfl rfl 0 (by decide) (hts (.fieldLink RX0 11 "BuoyVote$Borough" "values" "[I") (List.mem_of_getElem? (i := 1) rfl)) (fun _ h9 => h9) rfl dX0_buoyX_1 ?_
  refine lv_iconst (v := 4) hx hb dX0_buoyX_4 kc_iconst_4 ?_
  refine lv_iload_n hx hb dX0_buoyX_5 rfl (lv_at hl 1 rfl) ?_
  refine lv_bipush (v := 8) hx hb dX0_buoyX_6 kc_bipush_8 ?_
  refine lv_imul hx hb dX0_buoyX_8 ?_
  refine lv_topi (fun x_1 ex_1 => ?_)
  have g_2 : RG x_1 0 56 := RG_mulc ex_1 (q := 8) rfl g_p1 (by decide)
  refine lv_iadd hx hb dX0_buoyX_9 ?_
  refine lv_topi (fun x_3 ex_3 => ?_)
  have g_4 : RG x_3 4 60 := RG_add ex_3 (RG_k 4 4 rfl) g_2 (by decide)
  refine va_iald hx hb hK hP 1 0 rfl rfl (RG_in g_4 (by decide)) dX0_buoyX_10 ?_
  refine lv_topi (fun x_5 ex_5 => ?_)
  have g_6 : RG x_5 (-1) 99 := AI_rd a_h0_0c ex_5
  have hK9 := hK.sub (tys' := []) [] rfl
  exact W.iret (v := x_5) hx hb hr (fun t ht hW => ⟨⟨x_5, (), rfl, g_6, by rw [ht]; exact hP, va_K.moved hW.alike hK9, hD⟩, hS.F ht⟩) hS.2.2 dX0_buoyX_11
def wd_c_X0_buoyY (a0 : Nat) (a1 : Nat) (a2 : Int32) (a3 : Int32) (a4 : Int32) (a5 : Nat) (a6 : ClassId) (a7 : Nat → Int32) : va_W := [(a0, .inr (0, [.ref a1, .int a2, .int a3, .int a4])), (a5, .inl (a6, 80, .inl a7))]
def wf_c_X0_buoyY : List Cond := .code yX0_buoyY cX0_buoyY 2 (some .int) :: ([.fieldLink RX0 11 "BuoyVote$Borough" "values" "[I"] ++ wsX00)
theorem iw_c_X0_buoyY_X0 : ∀ w ∈ wsX00, w ∈ wf_c_X0_buoyY := fun w h => List.mem_cons_of_mem _ (List.mem_append_right _ h)
set_option maxHeartbeats 4000000 in
set_option maxRecDepth 100000 in
theorem c_X0_buoyY (l : Launch) (dC : Nat → ClassId) (dI : Nat → Nat → Nat) (sz : Nat) (h0 : Nat) (p1 : Int32) (h0_0 : Nat) (h0_f1 : Int32) (h0_f2 : Int32) (h0_f3 : Int32) (h0_0k : ClassId) (h0_0c : Nat → Int32) (g_p1 : RG p1 0 7) (g_h0_f1 : RG h0_f1 0 8) (g_h0_f2 : RG h0_f2 0 3) (g_h0_f3 : RG h0_f3 0 1) (a_h0_0c : AI h0_0c (-1) 99) : Met l yX0_buoyY wf_c_X0_buoyY ({ frames := 0, cells := 0, slots := 0, locals := 0 }) (va_Pc [.ref h0, .int p1] (fun U => U.heap.size = sz ∧ va_P (dC, dI) vwCl (wd_c_X0_buoyY h0 h0_0 h0_f1 h0_f2 h0_f3 h0_0 h0_0k h0_0c) U.heap ∧ va_K (dC, dI) vwCl [(h0_0k, .int)] U ∧ va_D (fun _ => True) (wd_c_X0_buoyY h0 h0_0 h0_f1 h0_f2 h0_f3 h0_0 h0_0k h0_0c))) (va_Qi (fun (r : Int32) (u : Unit) => (RG r (-1) 99)) (fun (u : Unit) t => va_P (dC, dI) vwCl (wd_c_X0_buoyY h0 h0_0 h0_f1 h0_f2 h0_f3 h0_0 h0_0k h0_0c) t.heap ∧ va_K (dC, dI) vwCl [] t ∧ va_D (va_A (wd_c_X0_buoyY h0 h0_0 h0_f1 h0_f2 h0_f3 h0_0 h0_0k h0_0c) sz) (wd_c_X0_buoyY h0 h0_0 h0_f1 h0_f2 h0_f3 h0_0 h0_0k h0_0c)) (va_A (wd_c_X0_buoyY h0 h0_0 h0_f1 h0_f2 h0_f3 h0_0 h0_0k h0_0c) sz)) 0 0 (va_A (wd_c_X0_buoyY h0 h0_0 h0_f1 h0_f2 h0_f3 h0_0 h0_0k h0_0c) sz) := by
  refine Met.ofW (cc := cX0_buoyY) (maxL := 2) (ret := (some .int)) (by decide) rfl ?_
  intro p e s m args below meth c s₁ B hml hv
  obtain ⟨rfl, hsz, hP, hK, hD0⟩ := hv
  have hx := B.exec
  have hb := B.bytes
  have hr := B.returns
  have hts := atoms_spec (ws := wf_c_X0_buoyY) B.pre
  have hown : s.vm.findClass RX0 = some m.cls := findClass_of_methodNamed B.named
  have hlocks := B.notSynchronized
  subst hsz
  have hD := hD0.self (sz := s.heap.size)
  generalize hAe : va_A (wd_c_X0_buoyY h0 h0_0 h0_f1 h0_f2 h0_f3 h0_0 h0_0k h0_0c) s.heap.size = A at hD ⊢
  have hA : ∀ q : Nat, s.heap.size ≤ q → A q := fun q h => by rw [← hAe]; exact Or.inr h
  have hP : va_P (dC, dI) vwCl (wd_c_X0_buoyY h0 h0_0 h0_f1 h0_f2 h0_f3 h0_0 h0_0k h0_0c) s.heap := hP
  have hl := lv_entry ([.ref h0, .int p1]) (n := 2) (Nat.le_of_ble_eq_true rfl)
  rw [lg_entry_eq]
  generalize (lg_sl ([.ref h0, .int p1]) ++ List.replicate (2 - (lg_sl ([.ref h0, .int p1])).length) Slot.unset).toArray = ls at hl ⊢
  have hl : lv_has ls 2 [(0, .ref h0), (1, .int p1)] := hl
  obtain ⟨H, hHe⟩ : ∃ H : Heap, s.heap = H := ⟨_, rfl⟩
  have hS : va_S A s.heap H [] := by rw [hHe]; exact va_S.rf
  have hP : va_P (dC, dI) vwCl (wd_c_X0_buoyY h0 h0_0 h0_f1 h0_f2 h0_f3 h0_0 h0_0k h0_0c) H := by rw [← hHe]; exact hP
  rw [hHe]
  refine lv_aload_n hx hb dX0_buoyY_0 rfl (lv_at hl 0 rfl) ?_
  refine va_get (D := (dC, dI)) (ci := 0) (v := .ref h0_0) (C := RX0) (T := TX0) (N := 4) hx hb hts iw_c_X0_buoyY_X0 hown hK hP 0 rfl rfl 0 (by decide) (hts (.fieldLink RX0 11 "BuoyVote$Borough" "values" "[I") (List.mem_of_getElem? (i := 1) rfl)) (fun _ h9 => h9) rfl dX0_buoyY_1 ?_
  refine lv_iconst (v := 4) hx hb dX0_buoyY_4 kc_iconst_4 ?_
  refine lv_iload_n hx hb dX0_buoyY_5 rfl (lv_at hl 1 rfl) ?_
  refine lv_bipush (v := 8) hx hb dX0_buoyY_6 kc_bipush_8 ?_
  refine lv_imul hx hb dX0_buoyY_8 ?_
  refine lv_topi (fun x_1 ex_1 => ?_)
  have g_2 : RG x_1 0 56 := RG_mulc ex_1 (q := 8) rfl g_p1 (by decide)
  refine lv_iadd hx hb dX0_buoyY_9 ?_
  refine lv_topi (fun x_3 ex_3 => ?_)
  have g_4 : RG x_3 4 60 := RG_add ex_3 (RG_k 4 4 rfl) g_2 (by decide)
  refine lv_iconst (v := 1) hx hb dX0_buoyY_10 kc_iconst_1 ?_
  refine lv_iadd hx hb dX0_buoyY_11 ?_
  refine lv_topi (fun x_5 ex_5 => ?_)
  have g_6 : RG x_5 5 61 := RG_add ex_5 g_4 (RG_k 1 1 rfl) (by decide)
  refine va_iald hx hb hK hP 1 0 rfl rfl (RG_in g_6 (by decide)) dX0_buoyY_12 ?_
  refine lv_topi (fun x_7 ex_7 => ?_)
  have g_8 : RG x_7 (-1) 99 := AI_rd a_h0_0c ex_7
  have hK9 := hK.sub (tys' := []) [] rfl
  exact W.iret (v := x_7) hx hb hr (fun t ht hW => ⟨⟨x_7, (), rfl, g_8, by rw [ht]; exact hP, va_K.moved hW.alike hK9, hD⟩, hS.F ht⟩) hS.2.2 dX0_buoyY_13
def wd_c_X1_between_4 (a0 : Nat) (a1 : Nat) (a2 : Nat) (a3 : Nat) (a4 : Nat) (a5 : Nat) (a6 : Nat) (a7 : Int32) (a8 : Int32) (a9 : Int32) (a10 : Nat) (a11 : ClassId) (a12 : Nat → Int32) : va_W := [(a0, .inr (1, [.ref a1, .ref a2, .ref a3, .ref a4])), (a5, .inr (0, [.ref a6, .int a7, .int a8, .int a9])), (a10, .inl (a11, 80, .inl a12))]
def wf_c_X1_between_4 : List Cond := .code yX1_between cX1_between 4 (some .int) :: ([.fieldLink RX1 9 "BuoyVote$Charts" "told" "LBuoyVote$Borough;", .methodLink RX1 35 yX0_buoyX, .instanceMethod yX0_buoyX, .selects RX0 yX0_buoyX yX0_buoyX, .initialized RX0, .code yX0_buoyX cX0_buoyX 2 (some .int), .fieldLink RX0 11 "BuoyVote$Borough" "values" "[I", .methodLink RX1 62 Lib.Math.abs.name, .static Lib.Math.abs.name, .initialized "java/lang/Math", .code Lib.Math.abs.name Lib.Math.abs.code 1 (some .int), .methodLink RX1 38 yX0_buoyY, .instanceMethod yX0_buoyY, .selects RX0 yX0_buoyY yX0_buoyY, .code yX0_buoyY cX0_buoyY 2 (some .int)] ++ wsX10 ++ wsX00)
theorem iw_c_X1_between_4_X1 : ∀ w ∈ wsX10, w ∈ wf_c_X1_between_4 := fun w h => List.mem_cons_of_mem _ (List.mem_append_left _ (List.mem_append_right _ h))
theorem iw_c_X1_between_4_X0 : ∀ w ∈ wsX00, w ∈ wf_c_X1_between_4 := fun w h => List.mem_cons_of_mem _ (List.mem_append_right _ h)
set_option maxRecDepth 20000 in
theorem gf_c_X1_between_4_c_X0_buoyX : GoodIn wf_c_X1_between_4 (wsV RX1 35 RX0 yX0_buoyX wf_c_X0_buoyX) := goodIn_app (gi_cons (j := 2) rfl rfl (gi_cons (j := 3) rfl rfl (gi_cons (j := 4) rfl rfl (gi_cons (j := 5) rfl rfl (gi_nil))))) (gi_cons (j := 6) rfl rfl (goodIn_app (gi_cons (j := 7) rfl rfl (gi_nil)) (goodIn_sub iw_c_X1_between_4_X0 gw_X0)))
set_option maxRecDepth 20000 in
theorem gf_c_X1_between_4_c_X0_buoyY : GoodIn wf_c_X1_between_4 (wsV RX1 38 RX0 yX0_buoyY wf_c_X0_buoyY) := goodIn_app (gi_cons (j := 12) rfl rfl (gi_cons (j := 13) rfl rfl (gi_cons (j := 14) rfl rfl (gi_cons (j := 5) rfl rfl (gi_nil))))) (gi_cons (j := 15) rfl rfl (goodIn_app (gi_cons (j := 7) rfl rfl (gi_nil)) (goodIn_sub iw_c_X1_between_4_X0 gw_X0)))
set_option maxHeartbeats 4000000 in
set_option maxRecDepth 100000 in
theorem c_X1_between_4 (l : Launch) (dC : Nat → ClassId) (dI : Nat → Nat → Nat) (sz : Nat) (h0 : Nat) (p1 : Int32) (p2 : Int32) (p3 : Int32) (h0_0 : Nat) (h0_1 : Nat) (h0_2 : Nat) (h0_3 : Nat) (h0_0_0 : Nat) (h0_0_f1 : Int32) (h0_0_f2 : Int32) (h0_0_f3 : Int32) (h0_0_0k : ClassId) (h0_0_0c : Nat → Int32) (g_p1 : RG p1 0 7) (g_p2 : RG p2 (-1) 99) (g_p3 : RG p3 (-1) 99) (g_h0_0_f1 : RG h0_0_f1 0 8) (g_h0_0_f2 : RG h0_0_f2 0 3) (g_h0_0_f3 : RG h0_0_f3 0 1) (a_h0_0_0c : AI h0_0_0c (-1) 99) : Met l yX1_between wf_c_X1_between_4 ({ frames := 1, cells := 0, slots := 0, locals := 21 }) (va_Pc [.ref h0, .int p1, .int p2, .int p3] (fun U => U.heap.size = sz ∧ va_P (dC, dI) vwCl (wd_c_X1_between_4 h0 h0_0 h0_1 h0_2 h0_3 h0_0 h0_0_0 h0_0_f1 h0_0_f2 h0_0_f3 h0_0_0 h0_0_0k h0_0_0c) U.heap ∧ va_K (dC, dI) vwCl [(h0_0_0k, .int)] U ∧ va_D (fun _ => True) (wd_c_X1_between_4 h0 h0_0 h0_1 h0_2 h0_3 h0_0 h0_0_0 h0_0_f1 h0_0_f2 h0_0_f3 h0_0_0 h0_0_0k h0_0_0c))) (va_Qi (fun (r : Int32) (u : Unit) => (RG r 0 200)) (fun (u : Unit) t => va_P (dC, dI) vwCl (wd_c_X1_between_4 h0 h0_0 h0_1 h0_2 h0_3 h0_0 h0_0_0 h0_0_f1 h0_0_f2 h0_0_f3 h0_0_0 h0_0_0k h0_0_0c) t.heap ∧ va_K (dC, dI) vwCl [] t ∧ va_D (va_A (wd_c_X1_between_4 h0 h0_0 h0_1 h0_2 h0_3 h0_0 h0_0_0 h0_0_f1 h0_0_f2 h0_0_f3 h0_0_0 h0_0_0k h0_0_0c) sz) (wd_c_X1_between_4 h0 h0_0 h0_1 h0_2 h0_3 h0_0 h0_0_0 h0_0_f1 h0_0_f2 h0_0_f3 h0_0_0 h0_0_0k h0_0_0c)) (va_A (wd_c_X1_between_4 h0 h0_0 h0_1 h0_2 h0_3 h0_0 h0_0_0 h0_0_f1 h0_0_f2 h0_0_f3 h0_0_0 h0_0_0k h0_0_0c) sz)) 0 0 (va_A (wd_c_X1_between_4 h0 h0_0 h0_1 h0_2 h0_3 h0_0 h0_0_0 h0_0_f1 h0_0_f2 h0_0_f3 h0_0_0 h0_0_0k h0_0_0c) sz) := by
  refine Met.ofW (cc := cX1_between) (maxL := 4) (ret := (some .int)) (by decide) rfl ?_
  intro p e s m args below meth c s₁ B hml hv
  obtain ⟨rfl, hsz, hP, hK, hD0⟩ := hv
  have hx := B.exec
  have hb := B.bytes
  have hr := B.returns
  have hts := atoms_spec (ws := wf_c_X1_between_4) B.pre
  have hown : s.vm.findClass RX1 = some m.cls := findClass_of_methodNamed B.named
  have hlocks := B.notSynchronized
  subst hsz
  have hD := hD0.self (sz := s.heap.size)
  generalize hAe : va_A (wd_c_X1_between_4 h0 h0_0 h0_1 h0_2 h0_3 h0_0 h0_0_0 h0_0_f1 h0_0_f2 h0_0_f3 h0_0_0 h0_0_0k h0_0_0c) s.heap.size = A at hD ⊢
  have hA : ∀ q : Nat, s.heap.size ≤ q → A q := fun q h => by rw [← hAe]; exact Or.inr h
  have hP : va_P (dC, dI) vwCl (wd_c_X1_between_4 h0 h0_0 h0_1 h0_2 h0_3 h0_0 h0_0_0 h0_0_f1 h0_0_f2 h0_0_f3 h0_0_0 h0_0_0k h0_0_0c) s.heap := hP
  have hl := lv_entry ([.ref h0, .int p1, .int p2, .int p3]) (n := 4) (Nat.le_of_ble_eq_true rfl)
  rw [lg_entry_eq]
  generalize (lg_sl ([.ref h0, .int p1, .int p2, .int p3]) ++ List.replicate (4 - (lg_sl ([.ref h0, .int p1, .int p2, .int p3])).length) Slot.unset).toArray = ls at hl ⊢
  have hl : lv_has ls 4 [(0, .ref h0), (1, .int p1), (2, .int p2), (3, .int p3)] := hl
  obtain ⟨H, hHe⟩ : ∃ H : Heap, s.heap = H := ⟨_, rfl⟩
  have hS : va_S A s.heap H [] := by rw [hHe]; exact va_S.rf
  have hP : va_P (dC, dI) vwCl (wd_c_X1_between_4 h0 h0_0 h0_1 h0_2 h0_3 h0_0 h0_0_0 h0_0_f1 h0_0_f2 h0_0_f3 h0_0_0 h0_0_0k h0_0_0c) H := by rw [← hHe]; exact hP
  rw [hHe]
  refine lv_aload_n hx hb dX1_between_0 rfl (lv_at hl 0 rfl) ?_
  refine va_get (D := (dC, dI)) (ci := 1) (v := .ref h0_0) (C := RX1) (T := TX1) (N := 4) hx hb hts iw_c_X1_between_4_X1 hown hK hP 0 rfl rfl 0 (by decide) (hts (.fieldLink RX1 9 "BuoyVote$Charts" "told" "LBuoyVote$Borough;") (List.mem_of_getElem? (i := 1) rfl)) (fun _ h9 => h9) rfl dX1_between_1 ?_
  refine lv_iload_n hx hb dX1_between_4 rfl (lv_at hl 1 rfl) ?_
  have hPc := hP.sub (ws' := (wd_c_X0_buoyX h0_0 h0_0_0 h0_0_f1 h0_0_f2 h0_0_f3 h0_0_0 h0_0_0k h0_0_0c)) [1, 2] rfl
  have hDc := hD.sub (ws' := (wd_c_X0_buoyX h0_0 h0_0_0 h0_0_f1 h0_0_f2 h0_0_f3 h0_0_0 h0_0_0k h0_0_0c)) [1, 2] (by decide) rfl
  have hKc := hK.sub (tys' := [(h0_0_0k, .int)]) [0] rfl
  have hFc := va_free (wc := (wd_c_X0_buoyX h0_0 h0_0_0 h0_0_f1 h0_0_f2 h0_0_f3 h0_0_0 h0_0_0k h0_0_0c)) hD hS hA [1, 2] rfl
  refine va_calli (va_runV (As := [.int p1]) (rest := []) ⟨hx, hb, hml, hown, hts⟩ (c_X0_buoyX l dC dI H.size h0_0 p1 h0_0_0 h0_0_f1 h0_0_f2 h0_0_f3 h0_0_0k h0_0_0c g_p1 g_h0_0_f1 g_h0_0_f2 g_h0_0_f3 a_h0_0_0c) (cwV 1 hts gf_c_X1_between_4_c_X0_buoyX rfl rfl rfl (by decide +kernel) ⟨Nat.le_of_ble_eq_true rfl, Nat.le_of_ble_eq_true rfl⟩) ⟨fun a U g mk q => by obtain ⟨q0, q1, qP, qK, qD⟩ := q; exact ⟨q0, q1, qP, va_K.moved (u := U) (U := U.calling g mk a) (Vm.Alike.refl U.vm) qK, qD⟩, va_recv hKc hPc (ci := 0) (q0 := 0) rfl rfl, fun U hU hW => ⟨rfl, by rw [hU], by rw [hU]; exact hPc, va_K.moved hW.alike hKc, hDc.weaken (fun _ _ _ _ => trivial)⟩⟩ rfl rfl hl.1 rfl (lv_room (Nat.le_of_ble_eq_true rfl)) dX1_between_5 ⟨Nat.le_of_ble_eq_true rfl, Nat.le_of_ble_eq_true rfl⟩) hS (fun q _ h => hFc q h) hFc (fun r_1 u t H1 locs ht hvm hw hB hz1 hk1 hS => ?_)
  obtain ⟨hP1, hK1, hD1⟩ := hB
  rw [ht] at hP1
  obtain ⟨hP, hD⟩ := va_join (wr := [(h0, .inr (1, [.ref h0_0, .ref h0_1, .ref h0_2, .ref h0_3]))]) (w1 := (wd_c_X0_buoyX h0_0 h0_0_0 h0_0_f1 h0_0_f2 h0_0_f3 h0_0_0 h0_0_0k h0_0_0c)) hP hD [1, 2] [0] rfl rfl (by decide) (by decide) hk1 hFc hP1 hD1
  have hP := hP.sub (ws' := (wd_c_X1_between_4 h0 h0_0 h0_1 h0_2 h0_3 h0_0 h0_0_0 h0_0_f1 h0_0_f2 h0_0_f3 h0_0_0 h0_0_0k h0_0_0c)) [0, 1, 2] rfl
  have hD := hD.sub (ws' := (wd_c_X1_between_4 h0 h0_0 h0_1 h0_2 h0_3 h0_0 h0_0_0 h0_0_f1 h0_0_f2 h0_0_f3 h0_0_0 h0_0_0k h0_0_0c)) [0, 1, 2] (by decide) rfl
  generalize H1 = H at hP hS ⊢
  have h_2 := hw
  refine lv_iload_n hx hb dX1_between_8 rfl (lv_at hl 2 rfl) ?_
  refine lv_isub hx hb dX1_between_9 ?_
  refine lv_topi (fun x_3 ex_3 => ?_)
  have g_4 : RG x_3 (-100) 100 := RG_sub ex_3 h_2 g_p2 (by decide)
  refine va_mabs hx hb (by rw [hml]; exact hl.1.symm) hown (hts (.methodLink RX1 62 Lib.Math.abs.name) (List.mem_of_getElem? (i := 8) rfl)) (hts (.static Lib.Math.abs.name) (List.mem_of_getElem? (i := 9) rfl)) (hts (.initialized "java/lang/Math") (List.mem_of_getElem? (i := 10) rfl)) (hts (.code Lib.Math.abs.name Lib.Math.abs.code 1 (some .int)) (List.mem_of_getElem? (i := 11) rfl)) (Nat.le_of_ble_eq_true rfl) (Nat.le_of_ble_eq_true rfl) (Nat.le_of_ble_eq_true rfl) (Nat.le_of_ble_eq_true rfl) dX1_between_10 ?_
  refine lv_topi (fun x_5 ex_5 => ?_)
  have g_6 : RG x_5 0 100 := RG_abs ex_5 g_4 (by decide)
  refine lv_aload_n hx hb dX1_between_13 rfl (lv_at hl 0 rfl) ?_
  refine va_get (D := (dC, dI)) (ci := 1) (v := .ref h0_0) (C := RX1) (T := TX1) (N := 4) hx hb hts iw_c_X1_between_4_X1 hown hK hP 0 rfl rfl 0 (by decide) (hts (.fieldLink RX1 9 "BuoyVote$Charts" "told" "LBuoyVote$Borough;") (List.mem_of_getElem? (i := 1) rfl)) (fun _ h9 => h9) rfl dX1_between_14 ?_
  refine lv_iload_n hx hb dX1_between_17 rfl (lv_at hl 1 rfl) ?_
  have hPc := hP.sub (ws' := (wd_c_X0_buoyY h0_0 h0_0_0 h0_0_f1 h0_0_f2 h0_0_f3 h0_0_0 h0_0_0k h0_0_0c)) [1, 2] rfl
  have hDc := hD.sub (ws' := (wd_c_X0_buoyY h0_0 h0_0_0 h0_0_f1 h0_0_f2 h0_0_f3 h0_0_0 h0_0_0k h0_0_0c)) [1, 2] (by decide) rfl
  have hKc := hK.sub (tys' := [(h0_0_0k, .int)]) [0] rfl
  have hFc := va_free (wc := (wd_c_X0_buoyY h0_0 h0_0_0 h0_0_f1 h0_0_f2 h0_0_f3 h0_0_0 h0_0_0k h0_0_0c)) hD hS hA [1, 2] rfl
  refine va_calli (va_runV (As := [.int p1]) (rest := [.int x_5]) ⟨hx, hb, hml, hown, hts⟩ (c_X0_buoyY l dC dI H.size h0_0 p1 h0_0_0 h0_0_f1 h0_0_f2 h0_0_f3 h0_0_0k h0_0_0c g_p1 g_h0_0_f1 g_h0_0_f2 g_h0_0_f3 a_h0_0_0c) (cwV 1 hts gf_c_X1_between_4_c_X0_buoyY rfl rfl rfl (by decide +kernel) ⟨Nat.le_of_ble_eq_true rfl, Nat.le_of_ble_eq_true rfl⟩) ⟨fun a U g mk q => by obtain ⟨q0, q1, qP, qK, qD⟩ := q; exact ⟨q0, q1, qP, va_K.moved (u := U) (U := U.calling g mk a) (Vm.Alike.refl U.vm) qK, qD⟩, va_recv hKc hPc (ci := 0) (q0 := 0) rfl rfl, fun U hU hW => ⟨rfl, by rw [hU], by rw [hU]; exact hPc, va_K.moved hW.alike hKc, hDc.weaken (fun _ _ _ _ => trivial)⟩⟩ rfl rfl hl.1 rfl (lv_room (Nat.le_of_ble_eq_true rfl)) dX1_between_18 ⟨Nat.le_of_ble_eq_true rfl, Nat.le_of_ble_eq_true rfl⟩) hS (fun q _ h => hFc q h) hFc (fun r_7 u t H1 locs ht hvm hw hB hz1 hk1 hS => ?_)
  obtain ⟨hP1, hK1, hD1⟩ := hB
  rw [ht] at hP1
  obtain ⟨hP, hD⟩ := va_join (wr := [(h0, .inr (1, [.ref h0_0, .ref h0_1, .ref h0_2, .ref h0_3]))]) (w1 := (wd_c_X0_buoyY h0_0 h0_0_0 h0_0_f1 h0_0_f2 h0_0_f3 h0_0_0 h0_0_0k h0_0_0c)) hP hD [1, 2] [0] rfl rfl (by decide) (by decide) hk1 hFc hP1 hD1
  have hP := hP.sub (ws' := (wd_c_X1_between_4 h0 h0_0 h0_1 h0_2 h0_3 h0_0 h0_0_0 h0_0_f1 h0_0_f2 h0_0_f3 h0_0_0 h0_0_0k h0_0_0c)) [0, 1, 2] rfl
  have hD := hD.sub (ws' := (wd_c_X1_between_4 h0 h0_0 h0_1 h0_2 h0_3 h0_0 h0_0_0 h0_0_f1 h0_0_f2 h0_0_f3 h0_0_0 h0_0_0k h0_0_0c)) [0, 1, 2] (by decide) rfl
  generalize H1 = H at hP hS ⊢
  have h_8 := hw
  refine lv_iload_n hx hb dX1_between_21 rfl (lv_at hl 3 rfl) ?_
  refine lv_isub hx hb dX1_between_22 ?_
  refine lv_topi (fun x_9 ex_9 => ?_)
  have g_10 : RG x_9 (-100) 100 := RG_sub ex_9 h_8 g_p3 (by decide)
  refine va_mabs hx hb (by rw [hml]; exact hl.1.symm) hown (hts (.methodLink RX1 62 Lib.Math.abs.name) (List.mem_of_getElem? (i := 8) rfl)) (hts (.static Lib.Math.abs.name) (List.mem_of_getElem? (i := 9) rfl)) (hts (.initialized "java/lang/Math") (List.mem_of_getElem? (i := 10) rfl)) (hts (.code Lib.Math.abs.name Lib.Math.abs.code 1 (some .int)) (List.mem_of_getElem? (i := 11) rfl)) (Nat.le_of_ble_eq_true rfl) (Nat.le_of_ble_eq_true rfl) (Nat.le_of_ble_eq_true rfl) (Nat.le_of_ble_eq_true rfl) dX1_between_23 ?_
  refine lv_topi (fun x_11 ex_11 => ?_)
  have g_12 : RG x_11 0 100 := RG_abs ex_11 g_10 (by decide)
  refine lv_iadd hx hb dX1_between_26 ?_
  refine lv_topi (fun x_13 ex_13 => ?_)
  have g_14 : RG x_13 0 200 := RG_add ex_13 g_6 g_12 (by decide)
  have hK9 := hK.sub (tys' := []) [] rfl
  exact W.iret (v := x_13) hx hb hr (fun t ht hW => ⟨⟨x_13, (), rfl, g_14, by rw [ht]; exact hP, va_K.moved hW.alike hK9, hD⟩, hS.F ht⟩) hS.2.2 dX1_between_27
def wf_c_J6_bitCount_0f7a4_10 : List Cond := .code yJ6_bitCount_0f7a4 cJ6_bitCount_0f7a4 1 (some .int) :: ([.constant RJ6 265 (1431655765), .constant RJ6 266 (858993459), .constant RJ6 267 (252645135)])
set_option maxHeartbeats 4000000 in
set_option maxRecDepth 100000 in
theorem c_J6_bitCount_0f7a4_10 (l : Launch) (dC : Nat → ClassId) (dI : Nat → Nat → Nat) (sz : Nat) (p0 : Int32) (g_p0 : RG p0 1 255) : Met l yJ6_bitCount_0f7a4 wf_c_J6_bitCount_0f7a4_10 ({ frames := 0, cells := 0, slots := 0, locals := 0 }) (va_Pc [.int p0] (fun U => U.heap.size = sz ∧ va_P (dC, dI) vwCl [] U.heap ∧ va_K (dC, dI) vwCl [] U ∧ va_D (fun _ => True) [])) (va_Qi (fun (r : Int32) (u : Unit) => (RG r 0 63)) (fun (u : Unit) t => va_P (dC, dI) vwCl [] t.heap ∧ va_K (dC, dI) vwCl [] t ∧ va_D (va_A [] sz) []) (va_A [] sz)) 0 0 (va_A [] sz) := by
  refine Met.ofW (cc := cJ6_bitCount_0f7a4) (maxL := 1) (ret := (some .int)) (by decide) rfl ?_
  intro p e s m args below meth c s₁ B hml hv
  obtain ⟨rfl, hsz, hP, hK, hD0⟩ := hv
  have hx := B.exec
  have hb := B.bytes
  have hr := B.returns
  have hts := atoms_spec (ws := wf_c_J6_bitCount_0f7a4_10) B.pre
  have hown : s.vm.findClass RJ6 = some m.cls := findClass_of_methodNamed B.named
  have hlocks := B.notSynchronized
  subst hsz
  have hD := hD0.self (sz := s.heap.size)
  generalize hAe : va_A [] s.heap.size = A at hD ⊢
  have hA : ∀ q : Nat, s.heap.size ≤ q → A q := fun q h => by rw [← hAe]; exact Or.inr h
  have hP : va_P (dC, dI) vwCl [] s.heap := hP
  have hl := lv_entry ([.int p0]) (n := 1) (Nat.le_of_ble_eq_true rfl)
  rw [lg_entry_eq]
  generalize (lg_sl ([.int p0]) ++ List.replicate (1 - (lg_sl ([.int p0])).length) Slot.unset).toArray = ls at hl ⊢
  have hl : lv_has ls 1 [(0, .int p0)] := hl
  obtain ⟨H, hHe⟩ : ∃ H : Heap, s.heap = H := ⟨_, rfl⟩
  have hS : va_S A s.heap H [] := by rw [hHe]; exact va_S.rf
  have hP : va_P (dC, dI) vwCl [] H := by rw [← hHe]; exact hP
  rw [hHe]
  refine lv_iload_n hx hb dJ6_bitCount_0f7a4_0 rfl (lv_at hl 0 rfl) ?_
  refine lv_iload_n hx hb dJ6_bitCount_0f7a4_1 rfl (lv_at hl 0 rfl) ?_
  refine lv_iconst (v := 1) hx hb dJ6_bitCount_0f7a4_2 kc_iconst_1 ?_
  refine lv_iushr hx hb dJ6_bitCount_0f7a4_3 rfl ?_
  refine lv_topi (fun x_1 ex_1 => ?_)
  refine lv_ldcw hx hb hown (hts (.constant RJ6 265 (1431655765)) (List.mem_of_getElem? (i := 1) rfl)) dJ6_bitCount_0f7a4_4 ?_
  refine lv_iand hx hb dJ6_bitCount_0f7a4_7 ?_
  refine lv_topi (fun x_2 ex_2 => ?_)
  have g_3 : RG x_2 0 1431655765 := RG_andr ex_2 (RG_k 1431655765 1431655765 rfl) (by decide)
  refine lv_isub hx hb dJ6_bitCount_0f7a4_8 ?_
  refine lv_topi (fun x_4 ex_4 => ?_)
  have g_5 : RG x_4 (-1431655764) 255 := RG_sub ex_4 g_p0 g_3 (by decide)
  refine lv_istore_n (lv' := [(0, .int x_4)]) hx hb dJ6_bitCount_0f7a4_9 rfl hl (Nat.le_of_ble_eq_true rfl) rfl (fun ls hl => ?_)
  refine lv_iload_n hx hb dJ6_bitCount_0f7a4_10 rfl (lv_at hl 0 rfl) ?_
  refine lv_ldcw hx hb hown (hts (.constant RJ6 266 (858993459)) (List.mem_of_getElem? (i := 2) rfl)) dJ6_bitCount_0f7a4_11 ?_
  refine lv_iand hx hb dJ6_bitCount_0f7a4_14 ?_
  refine lv_topi (fun x_6 ex_6 => ?_)
  have g_7 : RG x_6 0 858993459 := RG_andr ex_6 (RG_k 858993459 858993459 rfl) (by decide)
  refine lv_iload_n hx hb dJ6_bitCount_0f7a4_15 rfl (lv_at hl 0 rfl) ?_
  refine lv_iconst (v := 2) hx hb dJ6_bitCount_0f7a4_16 kc_iconst_2 ?_
  refine lv_iushr hx hb dJ6_bitCount_0f7a4_17 rfl ?_
  refine lv_topi (fun x_8 ex_8 => ?_)
  refine lv_ldcw hx hb hown (hts (.constant RJ6 266 (858993459)) (List.mem_of_getElem? (i := 2) rfl)) dJ6_bitCount_0f7a4_18 ?_
  refine lv_iand hx hb dJ6_bitCount_0f7a4_21 ?_
  refine lv_topi (fun x_9 ex_9 => ?_)
  have g_10 : RG x_9 0 858993459 := RG_andr ex_9 (RG_k 858993459 858993459 rfl) (by decide)
  refine lv_iadd hx hb dJ6_bitCount_0f7a4_22 ?_
  refine lv_topi (fun x_11 ex_11 => ?_)
  have g_12 : RG x_11 0 1717986918 := RG_add ex_11 g_7 g_10 (by decide)
  refine lv_istore_n (lv' := [(0, .int x_11)]) hx hb dJ6_bitCount_0f7a4_23 rfl hl (Nat.le_of_ble_eq_true rfl) rfl (fun ls hl => ?_)
  refine lv_iload_n hx hb dJ6_bitCount_0f7a4_24 rfl (lv_at hl 0 rfl) ?_
  refine lv_iload_n hx hb dJ6_bitCount_0f7a4_25 rfl (lv_at hl 0 rfl) ?_
  refine lv_iconst (v := 4) hx hb dJ6_bitCount_0f7a4_26 kc_iconst_4 ?_
  refine lv_iushr hx hb dJ6_bitCount_0f7a4_27 rfl ?_
  refine lv_topi (fun x_13 ex_13 => ?_)
  refine lv_iadd hx hb dJ6_bitCount_0f7a4_28 ?_
  refine lv_topi (fun x_14 ex_14 => ?_)
  refine lv_ldcw hx hb hown (hts (.constant RJ6 267 (252645135)) (List.mem_of_getElem? (i := 3) rfl)) dJ6_bitCount_0f7a4_29 ?_
  refine lv_iand hx hb dJ6_bitCount_0f7a4_32 ?_
  refine lv_topi (fun x_15 ex_15 => ?_)
  have g_16 : RG x_15 0 252645135 := RG_andr ex_15 (RG_k 252645135 252645135 rfl) (by decide)
  refine lv_istore_n (lv' := [(0, .int x_15)]) hx hb dJ6_bitCount_0f7a4_33 rfl hl (Nat.le_of_ble_eq_true rfl) rfl (fun ls hl => ?_)
  refine lv_iload_n hx hb dJ6_bitCount_0f7a4_34 rfl (lv_at hl 0 rfl) ?_
  refine lv_iload_n hx hb dJ6_bitCount_0f7a4_35 rfl (lv_at hl 0 rfl) ?_
  refine lv_bipush (v := 8) hx hb dJ6_bitCount_0f7a4_36 kc_bipush_8 ?_
  refine lv_iushr hx hb dJ6_bitCount_0f7a4_38 rfl ?_
  refine lv_topi (fun x_17 ex_17 => ?_)
  refine lv_iadd hx hb dJ6_bitCount_0f7a4_39 ?_
  refine lv_topi (fun x_18 ex_18 => ?_)
  refine lv_istore_n (lv' := [(0, .int x_18)]) hx hb dJ6_bitCount_0f7a4_40 rfl hl (Nat.le_of_ble_eq_true rfl) rfl (fun ls hl => ?_)
  refine lv_iload_n hx hb dJ6_bitCount_0f7a4_41 rfl (lv_at hl 0 rfl) ?_
  refine lv_iload_n hx hb dJ6_bitCount_0f7a4_42 rfl (lv_at hl 0 rfl) ?_
  refine lv_bipush (v := 16) hx hb dJ6_bitCount_0f7a4_43 kc_bipush_16 ?_
  refine lv_iushr hx hb dJ6_bitCount_0f7a4_45 rfl ?_
  refine lv_topi (fun x_19 ex_19 => ?_)
  refine lv_iadd hx hb dJ6_bitCount_0f7a4_46 ?_
  refine lv_topi (fun x_20 ex_20 => ?_)
  refine lv_istore_n (lv' := [(0, .int x_20)]) hx hb dJ6_bitCount_0f7a4_47 rfl hl (Nat.le_of_ble_eq_true rfl) rfl (fun ls hl => ?_)
  refine lv_iload_n hx hb dJ6_bitCount_0f7a4_48 rfl (lv_at hl 0 rfl) ?_
  refine lv_bipush (v := 63) hx hb dJ6_bitCount_0f7a4_49 kc_bipush_63 ?_
  refine lv_iand hx hb dJ6_bitCount_0f7a4_51 ?_
  refine lv_topi (fun x_21 ex_21 => ?_)
  have g_22 : RG x_21 0 63 := RG_andr ex_21 (RG_k 63 63 rfl) (by decide)
  have hK9 := hK.sub (tys' := []) [] rfl
  exact W.iret (v := x_21) hx hb hr (fun t ht hW => ⟨⟨x_21, (), rfl, g_22, by rw [ht]; exact hP, va_K.moved hW.alike hK9, hD⟩, hS.F ht⟩) hS.2.2 dJ6_bitCount_0f7a4_52
def wd_c_X1_isWatched_11 (a0 : Nat) (a1 : Nat) (a2 : Nat) (a3 : Nat) (a4 : Nat) (a5 : Nat) (a6 : Nat) (a7 : Int32) (a8 : Int32) (a9 : Int32) (a10 : Nat) (a11 : ClassId) (a12 : Nat → Int32) : va_W := [(a0, .inr (1, [.ref a1, .ref a2, .ref a3, .ref a4])), (a5, .inr (0, [.ref a6, .int a7, .int a8, .int a9])), (a10, .inl (a11, 80, .inl a12))]
def wf_c_X1_isWatched_11 : List Cond := .code yX1_isWatched cX1_isWatched 6 (some .boolean) :: ([.fieldLink RX1 9 "BuoyVote$Charts" "told" "LBuoyVote$Borough;", .fieldLink RX1 31 "BuoyVote$Borough" "buoys" "I", .methodLink RX1 35 yX0_buoyX, .instanceMethod yX0_buoyX, .selects RX0 yX0_buoyX yX0_buoyX, .initialized RX0, .code yX0_buoyX cX0_buoyX 2 (some .int), .fieldLink RX0 11 "BuoyVote$Borough" "values" "[I", .methodLink RX1 38 yX0_buoyY, .instanceMethod yX0_buoyY, .selects RX0 yX0_buoyY yX0_buoyY, .code yX0_buoyY cX0_buoyY 2 (some .int), .methodLink RX1 51 yX1_between, .instanceMethod yX1_between, .selects RX1 yX1_between yX1_between, .initialized RX1, .code yX1_between cX1_between 4 (some .int), .methodLink RX1 62 Lib.Math.abs.name, .static Lib.Math.abs.name, .initialized "java/lang/Math", .code Lib.Math.abs.name Lib.Math.abs.code 1 (some .int)] ++ wsX10 ++ wsX00)
theorem iw_c_X1_isWatched_11_X1 : ∀ w ∈ wsX10, w ∈ wf_c_X1_isWatched_11 := fun w h => List.mem_cons_of_mem _ (List.mem_append_left _ (List.mem_append_right _ h))
theorem iw_c_X1_isWatched_11_X0 : ∀ w ∈ wsX00, w ∈ wf_c_X1_isWatched_11 := fun w h => List.mem_cons_of_mem _ (List.mem_append_right _ h)
set_option maxRecDepth 20000 in
theorem gf_c_X1_isWatched_11_c_X0_buoyX : GoodIn wf_c_X1_isWatched_11 (wsV RX1 35 RX0 yX0_buoyX wf_c_X0_buoyX) := goodIn_app (gi_cons (j := 3) rfl rfl (gi_cons (j := 4) rfl rfl (gi_cons (j := 5) rfl rfl (gi_cons (j := 6) rfl rfl (gi_nil))))) (gi_cons (j := 7) rfl rfl (goodIn_app (gi_cons (j := 8) rfl rfl (gi_nil)) (goodIn_sub iw_c_X1_isWatched_11_X0 gw_X0)))
set_option maxRecDepth 20000 in
theorem gf_c_X1_isWatched_11_c_X0_buoyY : GoodIn wf_c_X1_isWatched_11 (wsV RX1 38 RX0 yX0_buoyY wf_c_X0_buoyY) := goodIn_app (gi_cons (j := 9) rfl rfl (gi_cons (j := 10) rfl rfl (gi_cons (j := 11) rfl rfl (gi_cons (j := 6) rfl rfl (gi_nil))))) (gi_cons (j := 12) rfl rfl (goodIn_app (gi_cons (j := 8) rfl rfl (gi_nil)) (goodIn_sub iw_c_X1_isWatched_11_X0 gw_X0)))
set_option maxRecDepth 20000 in
theorem gf_c_X1_isWatched_11_c_X1_between_4 : GoodIn wf_c_X1_isWatched_11 (wsV RX1 51 RX1 yX1_between wf_c_X1_between_4) := goodIn_app (gi_cons (j := 13) rfl rfl (gi_cons (j := 14) rfl rfl (gi_cons (j := 15) rfl rfl (gi_cons (j := 16) rfl rfl (gi_nil))))) (gi_cons (j := 17) rfl rfl (goodIn_app (goodIn_app (gi_cons (j := 1) rfl rfl (gi_cons (j := 3) rfl rfl (gi_cons (j := 4) rfl rfl (gi_cons (j := 5) rfl rfl (gi_cons (j := 6) rfl rfl (gi_cons (j := 7) rfl rfl (gi_cons (j := 8) rfl rfl (gi_cons (j := 18) rfl rfl (gi_cons (j := 19) rfl rfl (gi_cons (j := 20) rfl rfl (gi_cons (j := 21) rfl rfl (gi_cons (j := 9) rfl rfl (gi_cons (j := 10) rfl rfl (gi_cons (j := 11) rfl rfl (gi_cons (j := 12) rfl rfl (gi_nil)))))))))))))))) (goodIn_sub iw_c_X1_isWatched_11_X1 gw_X1)) (goodIn_sub iw_c_X1_isWatched_11_X0 gw_X0)))
set_option maxHeartbeats 4000000 in
set_option maxRecDepth 100000 in
theorem c_X1_isWatched_11 (l : Launch) (dC : Nat → ClassId) (dI : Nat → Nat → Nat) (sz : Nat) (h0 : Nat) (p1 : Int32) (p2 : Int32) (h0_0 : Nat) (h0_1 : Nat) (h0_2 : Nat) (h0_3 : Nat) (h0_0_0 : Nat) (h0_0_f1 : Int32) (h0_0_f2 : Int32) (h0_0_f3 : Int32) (h0_0_0k : ClassId) (h0_0_0c : Nat → Int32) (g_p1 : RG p1 0 255) (g_p2 : RG p2 0 18) (g_h0_0_f1 : RG h0_0_f1 0 8) (g_h0_0_f2 : RG h0_0_f2 0 3) (g_h0_0_f3 : RG h0_0_f3 0 1) (a_h0_0_0c : AI h0_0_0c (-1) 99) : Met l yX1_isWatched wf_c_X1_isWatched_11 ({ frames := 2, cells := 0, slots := 0, locals := 44 }) (va_Pc [.ref h0, .int p1, .int p2] (fun U => U.heap.size = sz ∧ va_P (dC, dI) vwCl (wd_c_X1_isWatched_11 h0 h0_0 h0_1 h0_2 h0_3 h0_0 h0_0_0 h0_0_f1 h0_0_f2 h0_0_f3 h0_0_0 h0_0_0k h0_0_0c) U.heap ∧ va_K (dC, dI) vwCl [(h0_0_0k, .int)] U ∧ va_D (fun _ => True) (wd_c_X1_isWatched_11 h0 h0_0 h0_1 h0_2 h0_3 h0_0 h0_0_0 h0_0_f1 h0_0_f2 h0_0_f3 h0_0_0 h0_0_0k h0_0_0c))) (va_Qi (fun (r : Int32) (u : Unit) => (r = 1) ∨ (r = 0 ∧ RG h0_0_f1 1 8)) (fun (u : Unit) t => va_P (dC, dI) vwCl (wd_c_X1_isWatched_11 h0 h0_0 h0_1 h0_2 h0_3 h0_0 h0_0_0 h0_0_f1 h0_0_f2 h0_0_f3 h0_0_0 h0_0_0k h0_0_0c) t.heap ∧ va_K (dC, dI) vwCl [] t ∧ va_D (va_A (wd_c_X1_isWatched_11 h0 h0_0 h0_1 h0_2 h0_3 h0_0 h0_0_0 h0_0_f1 h0_0_f2 h0_0_f3 h0_0_0 h0_0_0k h0_0_0c) sz) (wd_c_X1_isWatched_11 h0 h0_0 h0_1 h0_2 h0_3 h0_0 h0_0_0 h0_0_f1 h0_0_f2 h0_0_f3 h0_0_0 h0_0_0k h0_0_0c)) (va_A (wd_c_X1_isWatched_11 h0 h0_0 h0_1 h0_2 h0_3 h0_0 h0_0_0 h0_0_f1 h0_0_f2 h0_0_f3 h0_0_0 h0_0_0k h0_0_0c) sz)) 0 0 (va_A (wd_c_X1_isWatched_11 h0 h0_0 h0_1 h0_2 h0_3 h0_0 h0_0_0 h0_0_f1 h0_0_f2 h0_0_f3 h0_0_0 h0_0_0k h0_0_0c) sz) := by
  refine Met.ofW (cc := cX1_isWatched) (maxL := 6) (ret := (some .boolean)) (by decide) rfl ?_
  intro p e s m args below meth c s₁ B hml hv
  obtain ⟨rfl, hsz, hP, hK, hD0⟩ := hv
  have hx := B.exec
  have hb := B.bytes
  have hr := B.returns
  have hts := atoms_spec (ws := wf_c_X1_isWatched_11) B.pre
  have hown : s.vm.findClass RX1 = some m.cls := findClass_of_methodNamed B.named
  have hlocks := B.notSynchronized
  subst hsz
  have hD := hD0.self (sz := s.heap.size)
  generalize hAe : va_A (wd_c_X1_isWatched_11 h0 h0_0 h0_1 h0_2 h0_3 h0_0 h0_0_0 h0_0_f1 h0_0_f2 h0_0_f3 h0_0_0 h0_0_0k h0_0_0c) s.heap.size = A at hD ⊢
  have hA : ∀ q : Nat, s.heap.size ≤ q → A q := fun q h => by rw [← hAe]; exact Or.inr h
  have hP : va_P (dC, dI) vwCl (wd_c_X1_isWatched_11 h0 h0_0 h0_1 h0_2 h0_3 h0_0 h0_0_0 h0_0_f1 h0_0_f2 h0_0_f3 h0_0_0 h0_0_0k h0_0_0c) s.heap := hP
  have hl := lv_entry ([.ref h0, .int p1, .int p2]) (n := 6) (Nat.le_of_ble_eq_true rfl)
  rw [lg_entry_eq]
  generalize (lg_sl ([.ref h0, .int p1, .int p2]) ++ List.replicate (6 - (lg_sl ([.ref h0, .int p1, .int p2])).length) Slot.unset).toArray = ls at hl ⊢
  have hl : lv_has ls 6 [(0, .ref h0), (1, .int p1), (2, .int p2)] := hl
  obtain ⟨H, hHe⟩ : ∃ H : Heap, s.heap = H := ⟨_, rfl⟩
  have hS : va_S A s.heap H [] := by rw [hHe]; exact va_S.rf
  have hP : va_P (dC, dI) vwCl (wd_c_X1_isWatched_11 h0 h0_0 h0_1 h0_2 h0_3 h0_0 h0_0_0 h0_0_f1 h0_0_f2 h0_0_f3 h0_0_0 h0_0_0k h0_0_0c) H := by rw [← hHe]; exact hP
  rw [hHe]
  refine wj (fun G hG hU => ?_)
  have J2 : ∀ (n2 : Nat) (j2_l3 : Int32) (hM2 : MU j2_l3 < n2) (g_h0_0_f1 : RG h0_0_f1 0 8) (g_h0_0_f2 : RG h0_0_f2 0 3) (g_h0_0_f3 : RG h0_0_f3 0 1) (g_j2_l3 : RG j2_l3 0 8) (g_p1 : RG p1 0 255) (g_p2 : RG p2 0 18) (H : Heap) (locs : List Loc) (ls : Array Slot) (hP : va_P (dC, dI) vwCl (wd_c_X1_isWatched_11 h0 h0_0 h0_1 h0_2 h0_3 h0_0 h0_0_0 h0_0_f1 h0_0_f2 h0_0_f3 h0_0_0 h0_0_0k h0_0_0c) H) (hD : va_D A (wd_c_X1_isWatched_11 h0 h0_0 h0_1 h0_2 h0_3 h0_0 h0_0_0 h0_0_f1 h0_0_f2 h0_0_f3 h0_0_0 h0_0_0k h0_0_0c)) (hS : va_S A s.heap H locs) (hl : lv_has ls 6 [(3, .int j2_l3), (0, .ref h0), (1, .int p1), (2, .int p2)]), G H locs (F0 m 2 ls []) := by
    intro n2
    induction n2 with
    | zero => intros; exact absurd (by assumption) (Nat.not_lt_zero _)
    | succ n2 ih2 =>
      intro j2_l3 hM2 g_h0_0_f1 g_h0_0_f2 g_h0_0_f3 g_j2_l3 g_p1 g_p2 H locs ls hP hD hS hl
      have J84 : ∀ (j84_l4 : Int32) (g_h0_0_f1 : RG h0_0_f1 1 8) (g_h0_0_f2 : RG h0_0_f2 0 3) (g_h0_0_f3 : RG h0_0_f3 0 1) (g_j2_l3 : RG j2_l3 0 7) (g_j84_l4 : RG j84_l4 0 1) (g_p1 : RG p1 0 255) (g_p2 : RG p2 0 18) (H : Heap) (locs : List Loc) (ls : Array Slot) (hP : va_P (dC, dI) vwCl (wd_c_X1_isWatched_11 h0 h0_0 h0_1 h0_2 h0_3 h0_0 h0_0_0 h0_0_f1 h0_0_f2 h0_0_f3 h0_0_0 h0_0_0k h0_0_0c) H) (hD : va_D A (wd_c_X1_isWatched_11 h0 h0_0 h0_1 h0_2 h0_3 h0_0 h0_0_0 h0_0_f1 h0_0_f2 h0_0_f3 h0_0_0 h0_0_0k h0_0_0c)) (hS : va_S A s.heap H locs) (hl : lv_has ls 6 [(4, .int j84_l4), (3, .int j2_l3), (0, .ref h0), (1, .int p1), (2, .int p2)]), G H locs (F0 m 84 ls []) := by
        intro j84_l4 g_h0_0_f1 g_h0_0_f2 g_h0_0_f3 g_j2_l3 g_j84_l4 g_p1 g_p2 H locs ls hP hD hS hl
        refine hG _ _ _ ?_
        refine lv_iload hx hb dX1_isWatched_84 (lv_at hl 0 rfl) ?_
        refine lv_if_ne (tgt := 91) hx hb dX1_isWatched_86 rfl (fun c_1 => ?_) (fun c_1 => ?_)
        · have g_2 : RG j84_l4 1 1 := RG_ne1 g_j84_l4 (q := 0) rfl c_1 (by decide)
          obtain ⟨x_3, ex_3⟩ : ∃ y : Int32, y = j2_l3 + 1 := ⟨_, rfl⟩
          have g_4 : RG x_3 1 8 := RG_add ex_3 g_j2_l3 (RG_k 1 1 rfl) (by decide)
          refine lv_iinc (v := x_3) (lv' := [(3, .int x_3), (4, .int j84_l4), (0, .ref h0), (1, .int p1), (2, .int p2)]) hx hb dX1_isWatched_91 hl (k := 1) rfl (by rw [ex_3]; rfl) (Nat.le_of_ble_eq_true rfl) rfl (fun ls hl => ?_)
          refine lv_goto (tgt := 2) hx hb dX1_isWatched_94 rfl ?_
          exact hU _ _ _ (ih2 x_3 (mu_s (MU_add ex_3 g_j2_l3 (q := 1) rfl (by decide)) hM2) (RG_w g_h0_0_f1 (by decide)) g_h0_0_f2 g_h0_0_f3 (RG_w g_4 (by decide)) g_p1 g_p2 _ _ _ hP hD hS (lv_sub hl [0, 2, 3, 4] rfl))
        · have g_5 : RG j84_l4 0 0 := RG_eq1 g_j84_l4 (RG_k 0 0 rfl) c_1 (by decide)
          refine lv_iconst (v := 0) hx hb dX1_isWatched_89 kc_iconst_0 ?_
          have hK9 := hK.sub (tys' := []) [] rfl
          exact W.zret (v := 0) hx hb hr rfl (fun t ht hW => ⟨⟨0, (), rfl, (Or.inr ⟨rfl, g_h0_0_f1⟩), by rw [ht]; exact hP, va_K.moved hW.alike hK9, hD⟩, hS.F ht⟩) hS.2.2 dX1_isWatched_90
      have J19 : ∀ (n19 : Nat) (j19_l5 : Int32) (j19_l4 : Int32) (hM19 : MU j19_l5 < n19) (g_h0_0_f1 : RG h0_0_f1 1 8) (g_h0_0_f2 : RG h0_0_f2 0 3) (g_h0_0_f3 : RG h0_0_f3 0 1) (g_j19_l4 : RG j19_l4 0 1) (g_j19_l5 : RG j19_l5 0 8) (g_j2_l3 : RG j2_l3 0 7) (g_p1 : RG p1 0 255) (g_p2 : RG p2 0 18) (H : Heap) (locs : List Loc) (ls : Array Slot) (hP : va_P (dC, dI) vwCl (wd_c_X1_isWatched_11 h0 h0_0 h0_1 h0_2 h0_3 h0_0 h0_0_0 h0_0_f1 h0_0_f2 h0_0_f3 h0_0_0 h0_0_0k h0_0_0c) H) (hD : va_D A (wd_c_X1_isWatched_11 h0 h0_0 h0_1 h0_2 h0_3 h0_0 h0_0_0 h0_0_f1 h0_0_f2 h0_0_f3 h0_0_0 h0_0_0k h0_0_0c)) (hS : va_S A s.heap H locs) (hl : lv_has ls 6 [(5, .int j19_l5), (4, .int j19_l4), (3, .int j2_l3), (0, .ref h0), (1, .int p1), (2, .int p2)]), G H locs (F0 m 19 ls []) := by
        intro n19
        induction n19 with
        | zero => intros; exact absurd (by assumption) (Nat.not_lt_zero _)
        | succ n19 ih19 =>
          intro j19_l5 j19_l4 hM19 g_h0_0_f1 g_h0_0_f2 g_h0_0_f3 g_j19_l4 g_j19_l5 g_j2_l3 g_p1 g_p2 H locs ls hP hD hS hl
          have J76b : ∀ (g_h0_0_f1 : RG h0_0_f1 1 8) (g_h0_0_f2 : RG h0_0_f2 0 3) (g_h0_0_f3 : RG h0_0_f3 0 1) (g_j19_l4 : RG j19_l4 0 0) (g_j19_l5 : RG j19_l5 0 7) (g_j2_l3 : RG j2_l3 0 7) (g_p1 : RG p1 0 255) (g_p2 : RG p2 0 18) (H : Heap) (locs : List Loc) (ls : Array Slot) (hP : va_P (dC, dI) vwCl (wd_c_X1_isWatched_11 h0 h0_0 h0_1 h0_2 h0_3 h0_0 h0_0_0 h0_0_f1 h0_0_f2 h0_0_f3 h0_0_0 h0_0_0k h0_0_0c) H) (hD : va_D A (wd_c_X1_isWatched_11 h0 h0_0 h0_1 h0_2 h0_3 h0_0 h0_0_0 h0_0_f1 h0_0_f2 h0_0_f3 h0_0_0 h0_0_0k h0_0_0c)) (hS : va_S A s.heap H locs) (hl : lv_has ls 6 [(5, .int j19_l5), (3, .int j2_l3), (0, .ref h0), (1, .int p1), (2, .int p2)]), G H locs (F0 m 76 ls [.int 0]) := by
            intro g_h0_0_f1 g_h0_0_f2 g_h0_0_f3 g_j19_l4 g_j19_l5 g_j2_l3 g_p1 g_p2 H locs ls hP hD hS hl
            refine hG _ _ _ ?_
            refine lv_istore (lv' := [(4, .int 0), (5, .int j19_l5), (3, .int j2_l3), (0, .ref h0), (1, .int p1), (2, .int p2)]) hx hb dX1_isWatched_76 hl (Nat.le_of_ble_eq_true rfl) rfl (fun ls hl => ?_)
            obtain ⟨x_6, ex_6⟩ : ∃ y : Int32, y = j19_l5 + 1 := ⟨_, rfl⟩
            have g_7 : RG x_6 1 8 := RG_add ex_6 g_j19_l5 (RG_k 1 1 rfl) (by decide)
            refine lv_iinc (v := x_6) (lv' := [(5, .int x_6), (4, .int 0), (3, .int j2_l3), (0, .ref h0), (1, .int p1), (2, .int p2)]) hx hb dX1_isWatched_78 hl (k := 1) rfl (by rw [ex_6]; rfl) (Nat.le_of_ble_eq_true rfl) rfl (fun ls hl => ?_)
            refine lv_goto (tgt := 19) hx hb dX1_isWatched_81 rfl ?_
            exact hU _ _ _ (ih19 x_6 0 (mu_s (MU_add ex_6 g_j19_l5 (q := 1) rfl (by decide)) hM19) g_h0_0_f1 g_h0_0_f2 g_h0_0_f3 (RG_w (RG_k 0 0 rfl) (by decide)) (RG_w g_7 (by decide)) g_j2_l3 g_p1 g_p2 _ _ _ hP hD hS (lv_sub hl [0, 1, 2, 3, 4, 5] rfl))
          have J75 : ∀ (g_h0_0_f1 : RG h0_0_f1 1 8) (g_h0_0_f2 : RG h0_0_f2 0 3) (g_h0_0_f3 : RG h0_0_f3 0 1) (g_j19_l4 : RG j19_l4 0 0) (g_j19_l5 : RG j19_l5 0 7) (g_j2_l3 : RG j2_l3 0 7) (g_p1 : RG p1 0 255) (g_p2 : RG p2 0 18) (H : Heap) (locs : List Loc) (ls : Array Slot) (hP : va_P (dC, dI) vwCl (wd_c_X1_isWatched_11 h0 h0_0 h0_1 h0_2 h0_3 h0_0 h0_0_0 h0_0_f1 h0_0_f2 h0_0_f3 h0_0_0 h0_0_0k h0_0_0c) H) (hD : va_D A (wd_c_X1_isWatched_11 h0 h0_0 h0_1 h0_2 h0_3 h0_0 h0_0_0 h0_0_f1 h0_0_f2 h0_0_f3 h0_0_0 h0_0_0k h0_0_0c)) (hS : va_S A s.heap H locs) (hl : lv_has ls 6 [(5, .int j19_l5), (3, .int j2_l3), (0, .ref h0), (1, .int p1), (2, .int p2)]), G H locs (F0 m 75 ls []) := by
            intro g_h0_0_f1 g_h0_0_f2 g_h0_0_f3 g_j19_l4 g_j19_l5 g_j2_l3 g_p1 g_p2 H locs ls hP hD hS hl
            refine hG _ _ _ ?_
            refine lv_iconst (v := 0) hx hb dX1_isWatched_75 kc_iconst_0 ?_
            exact hU _ _ _ (J76b g_h0_0_f1 g_h0_0_f2 g_h0_0_f3 g_j19_l4 g_j19_l5 g_j2_l3 g_p1 g_p2 _ _ _ hP hD hS (lv_sub hl [0, 1, 2, 3, 4] rfl))
          have J76 : ∀ (g_h0_0_f1 : RG h0_0_f1 1 8) (g_h0_0_f2 : RG h0_0_f2 0 3) (g_h0_0_f3 : RG h0_0_f3 0 1) (g_j19_l4 : RG j19_l4 0 0) (g_j19_l5 : RG j19_l5 0 7) (g_j2_l3 : RG j2_l3 0 7) (g_p1 : RG p1 0 255) (g_p2 : RG p2 0 18) (H : Heap) (locs : List Loc) (ls : Array Slot) (hP : va_P (dC, dI) vwCl (wd_c_X1_isWatched_11 h0 h0_0 h0_1 h0_2 h0_3 h0_0 h0_0_0 h0_0_f1 h0_0_f2 h0_0_f3 h0_0_0 h0_0_0k h0_0_0c) H) (hD : va_D A (wd_c_X1_isWatched_11 h0 h0_0 h0_1 h0_2 h0_3 h0_0 h0_0_0 h0_0_f1 h0_0_f2 h0_0_f3 h0_0_0 h0_0_0k h0_0_0c)) (hS : va_S A s.heap H locs) (hl : lv_has ls 6 [(5, .int j19_l5), (3, .int j2_l3), (0, .ref h0), (1, .int p1), (2, .int p2)]), G H locs (F0 m 76 ls [.int 1]) := by
            intro g_h0_0_f1 g_h0_0_f2 g_h0_0_f3 g_j19_l4 g_j19_l5 g_j2_l3 g_p1 g_p2 H locs ls hP hD hS hl
            refine hG _ _ _ ?_
            refine lv_istore (lv' := [(4, .int 1), (5, .int j19_l5), (3, .int j2_l3), (0, .ref h0), (1, .int p1), (2, .int p2)]) hx hb dX1_isWatched_76 hl (Nat.le_of_ble_eq_true rfl) rfl (fun ls hl => ?_)
            obtain ⟨x_8, ex_8⟩ : ∃ y : Int32, y = j19_l5 + 1 := ⟨_, rfl⟩
            have g_9 : RG x_8 1 8 := RG_add ex_8 g_j19_l5 (RG_k 1 1 rfl) (by decide)
            refine lv_iinc (v := x_8) (lv' := [(5, .int x_8), (4, .int 1), (3, .int j2_l3), (0, .ref h0), (1, .int p1), (2, .int p2)]) hx hb dX1_isWatched_78 hl (k := 1) rfl (by rw [ex_8]; rfl) (Nat.le_of_ble_eq_true rfl) rfl (fun ls hl => ?_)
            refine lv_goto (tgt := 19) hx hb dX1_isWatched_81 rfl ?_
            exact hU _ _ _ (ih19 x_8 1 (mu_s (MU_add ex_8 g_j19_l5 (q := 1) rfl (by decide)) hM19) g_h0_0_f1 g_h0_0_f2 g_h0_0_f3 (RG_w (RG_k 1 1 rfl) (by decide)) (RG_w g_9 (by decide)) g_j2_l3 g_p1 g_p2 _ _ _ hP hD hS (lv_sub hl [0, 1, 2, 3, 4, 5] rfl))
          refine hG _ _ _ ?_
          refine lv_iload hx hb dX1_isWatched_19 (lv_at hl 0 rfl) ?_
          refine lv_aload_n hx hb dX1_isWatched_21 rfl (lv_at hl 3 rfl) ?_
          refine va_get (D := (dC, dI)) (ci := 1) (v := .ref h0_0) (C := RX1) (T := TX1) (N := 4) hx hb hts iw_c_X1_isWatched_11_X1 hown hK hP 0 rfl rfl 0 (by decide) (hts (.fieldLink RX1 9 "BuoyVote$Charts" "told" "LBuoyVote$Borough;") (List.mem_of_getElem? (i := 1) rfl)) (fun _ h9 => h9) rfl dX1_isWatched_22 ?_
          refine va_get (D := (dC, dI)) (ci := 0) (v := .int h0_0_f1) (C := RX0) (T := TX0) (N := 4) hx hb hts iw_c_X1_isWatched_11_X0 hown hK hP 1 rfl rfl 1 (by decide) (hts (.fieldLink RX1 31 "BuoyVote$Borough" "buoys" "I") (List.mem_of_getElem? (i := 2) rfl)) (fun _ h9 => h9) rfl dX1_isWatched_25 ?_
          refine lv_icmp_ge (tgt := 84) hx hb dX1_isWatched_28 rfl (fun c_10 => ?_) (fun c_10 => ?_)
          · have g_11 : RG j19_l5 1 8 := RG_le2 g_h0_0_f1 g_j19_l5 c_10 (by decide)
            exact hU _ _ _ (J84 j19_l4 g_h0_0_f1 g_h0_0_f2 g_h0_0_f3 g_j2_l3 g_j19_l4 g_p1 g_p2 _ _ _ hP hD hS (lv_sub hl [1, 2, 3, 4, 5] rfl))
          · have d_12 := Int32.not_le.mp c_10
            have g_13 : RG j19_l5 0 7 := RG_lt1 g_j19_l5 g_h0_0_f1 d_12 (by decide)
            refine lv_iload hx hb dX1_isWatched_31 (lv_at hl 1 rfl) ?_
            refine lv_if_ne (tgt := 84) hx hb dX1_isWatched_33 rfl (fun c_14 => ?_) (fun c_14 => ?_)
            · have g_15 : RG j19_l4 1 1 := RG_ne1 g_j19_l4 (q := 0) rfl c_14 (by decide)
              exact hU _ _ _ (J84 j19_l4 g_h0_0_f1 g_h0_0_f2 g_h0_0_f3 g_j2_l3 (RG_w g_15 (by decide)) g_p1 g_p2 _ _ _ hP hD hS (lv_sub hl [1, 2, 3, 4, 5] rfl))
            · have g_16 : RG j19_l4 0 0 := RG_eq1 g_j19_l4 (RG_k 0 0 rfl) c_14 (by decide)
              refine lv_iload_n hx hb dX1_isWatched_36 rfl (lv_at hl 4 rfl) ?_
              refine lv_iload hx hb dX1_isWatched_37 (lv_at hl 0 rfl) ?_
              refine lv_ishr hx hb dX1_isWatched_39 ?_
              refine lv_topi (fun x_17 ex_17 => ?_)
              refine lv_iconst (v := 1) hx hb dX1_isWatched_40 kc_iconst_1 ?_
              refine lv_iand hx hb dX1_isWatched_41 ?_
              refine lv_topi (fun x_18 ex_18 => ?_)
              have g_19 : RG x_18 0 1 := RG_andr ex_18 (RG_k 1 1 rfl) (by decide)
              refine lv_if_eq (tgt := 75) hx hb dX1_isWatched_42 rfl (fun c_20 => ?_) (fun c_20 => ?_)
              · have g_21 : RG x_18 0 0 := RG_eq1 g_19 (RG_k 0 0 rfl) c_20 (by decide)
                exact hU _ _ _ (J75 g_h0_0_f1 g_h0_0_f2 g_h0_0_f3 g_16 g_13 g_j2_l3 g_p1 g_p2 _ _ _ hP hD hS (lv_sub hl [0, 2, 3, 4, 5] rfl))
              · have g_22 : RG x_18 1 1 := RG_ne1 g_19 (q := 0) rfl c_20 (by decide)
                refine lv_aload_n hx hb dX1_isWatched_45 rfl (lv_at hl 3 rfl) ?_
                refine lv_iload hx hb dX1_isWatched_46 (lv_at hl 0 rfl) ?_
                refine lv_aload_n hx hb dX1_isWatched_48 rfl (lv_at hl 3 rfl) ?_
                refine va_get (D := (dC, dI)) (ci := 1) (v := .ref h0_0) (C := RX1) (T := TX1) (N := 4) hx hb hts iw_c_X1_isWatched_11_X1 hown hK hP 0 rfl rfl 0 (by decide) (hts (.fieldLink RX1 9 "BuoyVote$Charts" "told" "LBuoyVote$Borough;") (List.mem_of_getElem? (i := 1) rfl)) (fun _ h9 => h9) rfl dX1_isWatched_49 ?_
                refine lv_iload_n hx hb dX1_isWatched_52 rfl (lv_at hl 2 rfl) ?_
                have hPc := hP.sub (ws' := (wd_c_X0_buoyX h0_0 h0_0_0 h0_0_f1 h0_0_f2 h0_0_f3 h0_0_0 h0_0_0k h0_0_0c)) [1, 2] rfl
                have hDc := hD.sub (ws' := (wd_c_X0_buoyX h0_0 h0_0_0 h0_0_f1 h0_0_f2 h0_0_f3 h0_0_0 h0_0_0k h0_0_0c)) [1, 2] (by decide) rfl
                have hKc := hK.sub (tys' := [(h0_0_0k, .int)]) [0] rfl
                have hFc := va_free (wc := (wd_c_X0_buoyX h0_0 h0_0_0 h0_0_f1 h0_0_f2 h0_0_f3 h0_0_0 h0_0_0k h0_0_0c)) hD hS hA [1, 2] rfl
                refine va_calli (va_runV (As := [.int j2_l3]) (rest := [.int j19_l5, .ref h0]) ⟨hx, hb, hml, hown, hts⟩ (c_X0_buoyX l dC dI H.size h0_0 j2_l3 h0_0_0 h0_0_f1 h0_0_f2 h0_0_f3 h0_0_0k h0_0_0c g_j2_l3 (RG_w g_h0_0_f1 (by decide)) g_h0_0_f2 g_h0_0_f3 a_h0_0_0c) (cwV 1 hts gf_c_X1_isWatched_11_c_X0_buoyX rfl rfl rfl (by decide +kernel) ⟨Nat.le_of_ble_eq_true rfl, Nat.le_of_ble_eq_true rfl⟩) ⟨fun a U g mk q => by obtain ⟨q0, q1, qP, qK, qD⟩ := q; exact ⟨q0, q1, qP, va_K.moved (u := U) (U := U.calling g mk a) (Vm.Alike.refl U.vm) qK, qD⟩, va_recv hKc hPc (ci := 0) (q0 := 0) rfl rfl, fun U hU hW => ⟨rfl, by rw [hU], by rw [hU]; exact hPc, va_K.moved hW.alike hKc, hDc.weaken (fun _ _ _ _ => trivial)⟩⟩ rfl rfl hl.1 rfl (lv_room (Nat.le_of_ble_eq_true rfl)) dX1_isWatched_53 ⟨Nat.le_of_ble_eq_true rfl, Nat.le_of_ble_eq_true rfl⟩) hS (fun q _ h => hFc q h) hFc (fun r_23 u t H1 locs ht hvm hw hB hz1 hk1 hS => ?_)
                obtain ⟨hP1, hK1, hD1⟩ := hB
                rw [ht] at hP1
                obtain ⟨hP, hD⟩ := va_join (wr := [(h0, .inr (1, [.ref h0_0, .ref h0_1, .ref h0_2, .ref h0_3]))]) (w1 := (wd_c_X0_buoyX h0_0 h0_0_0 h0_0_f1 h0_0_f2 h0_0_f3 h0_0_0 h0_0_0k h0_0_0c)) hP hD [1, 2] [0] rfl rfl (by decide) (by decide) hk1 hFc hP1 hD1
                have hP := hP.sub (ws' := (wd_c_X1_isWatched_11 h0 h0_0 h0_1 h0_2 h0_3 h0_0 h0_0_0 h0_0_f1 h0_0_f2 h0_0_f3 h0_0_0 h0_0_0k h0_0_0c)) [0, 1, 2] rfl
                have hD := hD.sub (ws' := (wd_c_X1_isWatched_11 h0 h0_0 h0_1 h0_2 h0_3 h0_0 h0_0_0 h0_0_f1 h0_0_f2 h0_0_f3 h0_0_0 h0_0_0k h0_0_0c)) [0, 1, 2] (by decide) rfl
                generalize H1 = H at hP hS ⊢
                have h_24 := hw
                refine lv_aload_n hx hb dX1_isWatched_56 rfl (lv_at hl 3 rfl) ?_
                refine va_get (D := (dC, dI)) (ci := 1) (v := .ref h0_0) (C := RX1) (T := TX1) (N := 4) hx hb hts iw_c_X1_isWatched_11_X1 hown hK hP 0 rfl rfl 0 (by decide) (hts (.fieldLink RX1 9 "BuoyVote$Charts" "told" "LBuoyVote$Borough;") (List.mem_of_getElem? (i := 1) rfl)) (fun _ h9 => h9) rfl dX1_isWatched_57 ?_
                refine lv_iload_n hx hb dX1_isWatched_60 rfl (lv_at hl 2 rfl) ?_
                have hPc := hP.sub (ws' := (wd_c_X0_buoyY h0_0 h0_0_0 h0_0_f1 h0_0_f2 h0_0_f3 h0_0_0 h0_0_0k h0_0_0c)) [1, 2] rfl
                have hDc := hD.sub (ws' := (wd_c_X0_buoyY h0_0 h0_0_0 h0_0_f1 h0_0_f2 h0_0_f3 h0_0_0 h0_0_0k h0_0_0c)) [1, 2] (by decide) rfl
                have hKc := hK.sub (tys' := [(h0_0_0k, .int)]) [0] rfl
                have hFc := va_free (wc := (wd_c_X0_buoyY h0_0 h0_0_0 h0_0_f1 h0_0_f2 h0_0_f3 h0_0_0 h0_0_0k h0_0_0c)) hD hS hA [1, 2] rfl
                refine va_calli (va_runV (As := [.int j2_l3]) (rest := [.int r_23, .int j19_l5, .ref h0]) ⟨hx, hb, hml, hown, hts⟩ (c_X0_buoyY l dC dI H.size h0_0 j2_l3 h0_0_0 h0_0_f1 h0_0_f2 h0_0_f3 h0_0_0k h0_0_0c g_j2_l3 (RG_w g_h0_0_f1 (by decide)) g_h0_0_f2 g_h0_0_f3 a_h0_0_0c) (cwV 1 hts gf_c_X1_isWatched_11_c_X0_buoyY rfl rfl rfl (by decide +kernel) ⟨Nat.le_of_ble_eq_true rfl, Nat.le_of_ble_eq_true rfl⟩) ⟨fun a U g mk q => by obtain ⟨q0, q1, qP, qK, qD⟩ := q; exact ⟨q0, q1, qP, va_K.moved (u := U) (U := U.calling g mk a) (Vm.Alike.refl U.vm) qK, qD⟩, va_recv hKc hPc (ci := 0) (q0 := 0) rfl rfl, fun U hU hW => ⟨rfl, by rw [hU], by rw [hU]; exact hPc, va_K.moved hW.alike hKc, hDc.weaken (fun _ _ _ _ => trivial)⟩⟩ rfl rfl hl.1 rfl (lv_room (Nat.le_of_ble_eq_true rfl)) dX1_isWatched_61 ⟨Nat.le_of_ble_eq_true rfl, Nat.le_of_ble_eq_true rfl⟩) hS (fun q _ h => hFc q h) hFc (fun r_25 u t H1 locs ht hvm hw hB hz1 hk1 hS => ?_)
                obtain ⟨hP1, hK1, hD1⟩ := hB
                rw [ht] at hP1
                obtain ⟨hP, hD⟩ := va_join (wr := [(h0, .inr (1, [.ref h0_0, .ref h0_1, .ref h0_2, .ref h0_3]))]) (w1 := (wd_c_X0_buoyY h0_0 h0_0_0 h0_0_f1 h0_0_f2 h0_0_f3 h0_0_0 h0_0_0k h0_0_0c)) hP hD [1, 2] [0] rfl rfl (by decide) (by decide) hk1 hFc hP1 hD1
                have hP := hP.sub (ws' := (wd_c_X1_isWatched_11 h0 h0_0 h0_1 h0_2 h0_3 h0_0 h0_0_0 h0_0_f1 h0_0_f2 h0_0_f3 h0_0_0 h0_0_0k h0_0_0c)) [0, 1, 2] rfl
                have hD := hD.sub (ws' := (wd_c_X1_isWatched_11 h0 h0_0 h0_1 h0_2 h0_3 h0_0 h0_0_0 h0_0_f1 h0_0_f2 h0_0_f3 h0_0_0 h0_0_0k h0_0_0c)) [0, 1, 2] (by decide) rfl
                generalize H1 = H at hP hS ⊢
                have h_26 := hw
                have hPc := hP.sub (ws' := (wd_c_X1_between_4 h0 h0_0 h0_1 h0_2 h0_3 h0_0 h0_0_0 h0_0_f1 h0_0_f2 h0_0_f3 h0_0_0 h0_0_0k h0_0_0c)) [0, 1, 2] rfl
                have hDc := hD.sub (ws' := (wd_c_X1_between_4 h0 h0_0 h0_1 h0_2 h0_3 h0_0 h0_0_0 h0_0_f1 h0_0_f2 h0_0_f3 h0_0_0 h0_0_0k h0_0_0c)) [0, 1, 2] (by decide) rfl
                have hKc := hK.sub (tys' := [(h0_0_0k, .int)]) [0] rfl
                have hFc := va_free (wc := (wd_c_X1_between_4 h0 h0_0 h0_1 h0_2 h0_3 h0_0 h0_0_0 h0_0_f1 h0_0_f2 h0_0_f3 h0_0_0 h0_0_0k h0_0_0c)) hD hS hA [0, 1, 2] rfl
                refine va_calli (va_runV (As := [.int j19_l5, .int r_23, .int r_25]) (rest := []) ⟨hx, hb, hml, hown, hts⟩ (c_X1_between_4 l dC dI H.size h0 j19_l5 r_23 r_25 h0_0 h0_1 h0_2 h0_3 h0_0_0 h0_0_f1 h0_0_f2 h0_0_f3 h0_0_0k h0_0_0c g_13 h_24 h_26 (RG_w g_h0_0_f1 (by decide)) g_h0_0_f2 g_h0_0_f3 a_h0_0_0c) (cwV 3 hts gf_c_X1_isWatched_11_c_X1_between_4 rfl rfl rfl (by decide +kernel) ⟨Nat.le_of_ble_eq_true rfl, Nat.le_of_ble_eq_true rfl⟩) ⟨fun a U g mk q => by obtain ⟨q0, q1, qP, qK, qD⟩ := q; exact ⟨q0, q1, qP, va_K.moved (u := U) (U := U.calling g mk a) (Vm.Alike.refl U.vm) qK, qD⟩, va_recv hKc hPc (ci := 1) (q0 := 0) rfl rfl, fun U hU hW => ⟨rfl, by rw [hU], by rw [hU]; exact hPc, va_K.moved hW.alike hKc, hDc.weaken (fun _ _ _ _ => trivial)⟩⟩ rfl rfl hl.1 rfl (lv_room (Nat.le_of_ble_eq_true rfl)) dX1_isWatched_64 ⟨Nat.le_of_ble_eq_true rfl, Nat.le_of_ble_eq_true rfl⟩) hS (fun q _ h => hFc q h) hFc (fun r_27 u t H1 locs ht hvm hw hB hz1 hk1 hS => ?_)
                obtain ⟨hP1, hK1, hD1⟩ := hB
                rw [ht] at hP1
                obtain ⟨hP, hD⟩ := va_join (wr := []) (w1 := (wd_c_X1_between_4 h0 h0_0 h0_1 h0_2 h0_3 h0_0 h0_0_0 h0_0_f1 h0_0_f2 h0_0_f3 h0_0_0 h0_0_0k h0_0_0c)) hP hD [0, 1, 2] [] rfl rfl (by decide) (by decide) hk1 hFc hP1 hD1
                have hP := hP.sub (ws' := (wd_c_X1_isWatched_11 h0 h0_0 h0_1 h0_2 h0_3 h0_0 h0_0_0 h0_0_f1 h0_0_f2 h0_0_f3 h0_0_0 h0_0_0k h0_0_0c)) [0, 1, 2] rfl
                have hD := hD.sub (ws' := (wd_c_X1_isWatched_11 h0 h0_0 h0_1 h0_2 h0_3 h0_0 h0_0_0 h0_0_f1 h0_0_f2 h0_0_f3 h0_0_0 h0_0_0k h0_0_0c)) [0, 1, 2] (by decide) rfl
                generalize H1 = H at hP hS ⊢
                have h_28 := hw
                refine lv_iload_n hx hb dX1_isWatched_67 rfl (lv_at hl 5 rfl) ?_
                refine lv_icmp_gt (tgt := 75) hx hb dX1_isWatched_68 rfl (fun c_29 => ?_) (fun c_29 => ?_)
                · have g_30 : RG r_27 1 200 := RG_lt2 g_p2 h_28 c_29 (by decide)
                  exact hU _ _ _ (J75 g_h0_0_f1 g_h0_0_f2 g_h0_0_f3 g_16 g_13 g_j2_l3 g_p1 g_p2 _ _ _ hP hD hS (lv_sub hl [0, 2, 3, 4, 5] rfl))
                · have d_31 := Int32.not_lt.mp c_29
                  have g_32 : RG r_27 0 18 := RG_le1 h_28 g_p2 d_31 (by decide)
                  refine lv_iconst (v := 1) hx hb dX1_isWatched_71 kc_iconst_1 ?_
                  refine lv_goto (tgt := 76) hx hb dX1_isWatched_72 rfl ?_
                  exact hU _ _ _ (J76 g_h0_0_f1 g_h0_0_f2 g_h0_0_f3 g_16 g_13 g_j2_l3 g_p1 g_p2 _ _ _ hP hD hS (lv_sub hl [0, 2, 3, 4, 5] rfl))
      refine hG _ _ _ ?_
      refine lv_iload_n hx hb dX1_isWatched_2 rfl (lv_at hl 0 rfl) ?_
      refine lv_aload_n hx hb dX1_isWatched_3 rfl (lv_at hl 1 rfl) ?_
      refine va_get (D := (dC, dI)) (ci := 1) (v := .ref h0_0) (C := RX1) (T := TX1) (N := 4) hx hb hts iw_c_X1_isWatched_11_X1 hown hK hP 0 rfl rfl 0 (by decide) (hts (.fieldLink RX1 9 "BuoyVote$Charts" "told" "LBuoyVote$Borough;") (List.mem_of_getElem? (i := 1) rfl)) (fun _ h9 => h9) rfl dX1_isWatched_4 ?_
      refine va_get (D := (dC, dI)) (ci := 0) (v := .int h0_0_f1) (C := RX0) (T := TX0) (N := 4) hx hb hts iw_c_X1_isWatched_11_X0 hown hK hP 1 rfl rfl 1 (by decide) (hts (.fieldLink RX1 31 "BuoyVote$Borough" "buoys" "I") (List.mem_of_getElem? (i := 2) rfl)) (fun _ h9 => h9) rfl dX1_isWatched_7 ?_
      refine lv_icmp_ge (tgt := 97) hx hb dX1_isWatched_10 rfl (fun c_33 => ?_) (fun c_33 => ?_)
      · refine lv_iconst (v := 1) hx hb dX1_isWatched_97 kc_iconst_1 ?_
        have hK9 := hK.sub (tys' := []) [] rfl
        exact W.zret (v := 1) hx hb hr rfl (fun t ht hW => ⟨⟨1, (), rfl, (Or.inl rfl), by rw [ht]; exact hP, va_K.moved hW.alike hK9, hD⟩, hS.F ht⟩) hS.2.2 dX1_isWatched_98
      · have d_34 := Int32.not_le.mp c_33
        have g_35 : RG j2_l3 0 7 := RG_lt1 g_j2_l3 g_h0_0_f1 d_34 (by decide)
        have g_36 : RG h0_0_f1 1 8 := RG_lt2 g_j2_l3 g_h0_0_f1 d_34 (by decide)
        refine lv_iconst (v := 0) hx hb dX1_isWatched_13 kc_iconst_0 ?_
        refine lv_istore (lv' := [(4, .int 0), (3, .int j2_l3), (0, .ref h0), (1, .int p1), (2, .int p2)]) hx hb dX1_isWatched_14 hl (Nat.le_of_ble_eq_true rfl) rfl (fun ls hl => ?_)
        refine lv_iconst (v := 0) hx hb dX1_isWatched_16 kc_iconst_0 ?_
        refine lv_istore (lv' := [(5, .int 0), (4, .int 0), (3, .int j2_l3), (0, .ref h0), (1, .int p1), (2, .int p2)]) hx hb dX1_isWatched_17 hl (Nat.le_of_ble_eq_true rfl) rfl (fun ls hl => ?_)
        exact hU _ _ _ (J19 _ 0 0 (Nat.lt_succ_self _) g_36 g_h0_0_f2 g_h0_0_f3 (RG_w (RG_k 0 0 rfl) (by decide)) (RG_w (RG_k 0 0 rfl) (by decide)) g_35 g_p1 g_p2 _ _ _ hP hD hS (lv_sub hl [0, 1, 2, 3, 4, 5] rfl))
  refine hG _ _ _ ?_
  refine lv_iconst (v := 0) hx hb dX1_isWatched_0 kc_iconst_0 ?_
  refine lv_istore_n (lv' := [(3, .int 0), (0, .ref h0), (1, .int p1), (2, .int p2)]) hx hb dX1_isWatched_1 rfl hl (Nat.le_of_ble_eq_true rfl) rfl (fun ls hl => ?_)
  exact hU _ _ _ (J2 _ 0 (Nat.lt_succ_self _) g_h0_0_f1 g_h0_0_f2 g_h0_0_f3 (RG_w (RG_k 0 0 rfl) (by decide)) g_p1 g_p2 _ _ _ hP hD hS (lv_sub hl [0, 1, 2, 3] rfl))
def wd_c_X1_fewestWatchers (a0 : Nat) (a1 : Nat) (a2 : Nat) (a3 : Nat) (a4 : Nat) (a5 : Nat) (a6 : Nat) (a7 : Int32) (a8 : Int32) (a9 : Int32) (a10 : Nat) (a11 : ClassId) (a12 : Nat → Int32) : va_W := [(a0, .inr (1, [.ref a1, .ref a2, .ref a3, .ref a4])), (a5, .inr (0, [.ref a6, .int a7, .int a8, .int a9])), (a10, .inl (a11, 80, .inl a12))]
def wf_c_X1_fewestWatchers : List Cond := .code yX1_fewestWatchers cX1_fewestWatchers 6 (some .int) :: ([.fieldLink RX1 9 "BuoyVote$Charts" "told" "LBuoyVote$Borough;", .fieldLink RX1 31 "BuoyVote$Borough" "buoys" "I", .methodLink RX1 67 yJ6_bitCount_0f7a4, .static yJ6_bitCount_0f7a4, .initialized RJ6, .code yJ6_bitCount_0f7a4 cJ6_bitCount_0f7a4 1 (some .int), .constant RJ6 265 (1431655765), .constant RJ6 266 (858993459), .constant RJ6 267 (252645135), .methodLink RX1 72 yX1_isWatched, .instanceMethod yX1_isWatched, .selects RX1 yX1_isWatched yX1_isWatched, .initialized RX1, .code yX1_isWatched cX1_isWatched 6 (some .boolean), .methodLink RX1 35 yX0_buoyX, .instanceMethod yX0_buoyX, .selects RX0 yX0_buoyX yX0_buoyX, .initialized RX0, .code yX0_buoyX cX0_buoyX 2 (some .int), .fieldLink RX0 11 "BuoyVote$Borough" "values" "[I", .methodLink RX1 38 yX0_buoyY, .instanceMethod yX0_buoyY, .selects RX0 yX0_buoyY yX0_buoyY, .code yX0_buoyY cX0_buoyY 2 (some .int), .methodLink RX1 51 yX1_between, .instanceMethod yX1_between, .selects RX1 yX1_between yX1_between, .code yX1_between cX1_between 4 (some .int), .methodLink RX1 62 Lib.Math.abs.name, .static Lib.Math.abs.name, .initialized "java/lang/Math", .code Lib.Math.abs.name Lib.Math.abs.code 1 (some .int)] ++ wsX10 ++ wsX00)
theorem iw_c_X1_fewestWatchers_X1 : ∀ w ∈ wsX10, w ∈ wf_c_X1_fewestWatchers := fun w h => List.mem_cons_of_mem _ (List.mem_append_left _ (List.mem_append_right _ h))
theorem iw_c_X1_fewestWatchers_X0 : ∀ w ∈ wsX00, w ∈ wf_c_X1_fewestWatchers := fun w h => List.mem_cons_of_mem _ (List.mem_append_right _ h)
set_option maxRecDepth 20000 in
theorem gf_c_X1_fewestWatchers_c_X1_isWatched_11 : GoodIn wf_c_X1_fewestWatchers (wsV RX1 72 RX1 yX1_isWatched wf_c_X1_isWatched_11) := goodIn_app (gi_cons (j := 10) rfl rfl (gi_cons (j := 11) rfl rfl (gi_cons (j := 12) rfl rfl (gi_cons (j := 13) rfl rfl (gi_nil))))) (gi_cons (j := 14) rfl rfl (goodIn_app (goodIn_app (gi_cons (j := 1) rfl rfl (gi_cons (j := 2) rfl rfl (gi_cons (j := 15) rfl rfl (gi_cons (j := 16) rfl rfl (gi_cons (j := 17) rfl rfl (gi_cons (j := 18) rfl rfl (gi_cons (j := 19) rfl rfl (gi_cons (j := 20) rfl rfl (gi_cons (j := 21) rfl rfl (gi_cons (j := 22) rfl rfl (gi_cons (j := 23) rfl rfl (gi_cons (j := 24) rfl rfl (gi_cons (j := 25) rfl rfl (gi_cons (j := 26) rfl rfl (gi_cons (j := 27) rfl rfl (gi_cons (j := 13) rfl rfl (gi_cons (j := 28) rfl rfl (gi_cons (j := 29) rfl rfl (gi_cons (j := 30) rfl rfl (gi_cons (j := 31) rfl rfl (gi_cons (j := 32) rfl rfl (gi_nil)))))))))))))))))))))) (goodIn_sub iw_c_X1_fewestWatchers_X1 gw_X1)) (goodIn_sub iw_c_X1_fewestWatchers_X0 gw_X0)))
set_option maxRecDepth 20000 in
theorem gf_c_X1_fewestWatchers_c_J6_bitCount_0f7a4_10 : GoodIn wf_c_X1_fewestWatchers (va_wsS RX1 67 yJ6_bitCount_0f7a4 wf_c_J6_bitCount_0f7a4_10) := goodIn_app (gi_cons (j := 3) rfl rfl (gi_cons (j := 4) rfl rfl (gi_cons (j := 5) rfl rfl (gi_nil)))) (gi_cons (j := 6) rfl rfl (gi_cons (j := 7) rfl rfl (gi_cons (j := 8) rfl rfl (gi_cons (j := 9) rfl rfl (gi_nil)))))
set_option maxRecDepth 20000 in
theorem gf_c_X1_fewestWatchers_c_J6_bitCount_0f7a4_1 : GoodIn wf_c_X1_fewestWatchers (va_wsS RX1 67 yJ6_bitCount_0f7a4 wf_c_J6_bitCount_0f7a4_1) := goodIn_app (gi_cons (j := 3) rfl rfl (gi_cons (j := 4) rfl rfl (gi_cons (j := 5) rfl rfl (gi_nil)))) (gi_cons (j := 6) rfl rfl (gi_cons (j := 7) rfl rfl (gi_cons (j := 8) rfl rfl (gi_cons (j := 9) rfl rfl (gi_nil)))))
set_option maxHeartbeats 4000000 in
set_option maxRecDepth 100000 in
theorem c_X1_fewestWatchers (l : Launch) (dC : Nat → ClassId) (dI : Nat → Nat → Nat) (sz : Nat) (h0 : Nat) (p1 : Int32) (h0_0 : Nat) (h0_1 : Nat) (h0_2 : Nat) (h0_3 : Nat) (h0_0_0 : Nat) (h0_0_f1 : Int32) (h0_0_f2 : Int32) (h0_0_f3 : Int32) (h0_0_0k : ClassId) (h0_0_0c : Nat → Int32) (g_p1 : RG p1 0 18) (g_h0_0_f1 : RG h0_0_f1 0 8) (g_h0_0_f2 : RG h0_0_f2 0 3) (g_h0_0_f3 : RG h0_0_f3 0 1) (a_h0_0_0c : AI h0_0_0c (-1) 99) : Met l yX1_fewestWatchers wf_c_X1_fewestWatchers ({ frames := 3, cells := 0, slots := 0, locals := 69 }) (va_Pc [.ref h0, .int p1] (fun U => U.heap.size = sz ∧ va_P (dC, dI) vwCl (wd_c_X1_fewestWatchers h0 h0_0 h0_1 h0_2 h0_3 h0_0 h0_0_0 h0_0_f1 h0_0_f2 h0_0_f3 h0_0_0 h0_0_0k h0_0_0c) U.heap ∧ va_K (dC, dI) vwCl [(h0_0_0k, .int)] U ∧ va_D (fun _ => True) (wd_c_X1_fewestWatchers h0 h0_0 h0_1 h0_2 h0_3 h0_0 h0_0_0 h0_0_f1 h0_0_f2 h0_0_f3 h0_0_0 h0_0_0k h0_0_0c))) (va_Qi (fun (r : Int32) (u : Unit) => (RG r 0 255)) (fun (u : Unit) t => va_P (dC, dI) vwCl (wd_c_X1_fewestWatchers h0 h0_0 h0_1 h0_2 h0_3 h0_0 h0_0_0 h0_0_f1 h0_0_f2 h0_0_f3 h0_0_0 h0_0_0k h0_0_0c) t.heap ∧ va_K (dC, dI) vwCl [] t ∧ va_D (va_A (wd_c_X1_fewestWatchers h0 h0_0 h0_1 h0_2 h0_3 h0_0 h0_0_0 h0_0_f1 h0_0_f2 h0_0_f3 h0_0_0 h0_0_0k h0_0_0c) sz) (wd_c_X1_fewestWatchers h0 h0_0 h0_1 h0_2 h0_3 h0_0 h0_0_0 h0_0_f1 h0_0_f2 h0_0_f3 h0_0_0 h0_0_0k h0_0_0c)) (va_A (wd_c_X1_fewestWatchers h0 h0_0 h0_1 h0_2 h0_3 h0_0 h0_0_0 h0_0_f1 h0_0_f2 h0_0_f3 h0_0_0 h0_0_0k h0_0_0c) sz)) 0 0 (va_A (wd_c_X1_fewestWatchers h0 h0_0 h0_1 h0_2 h0_3 h0_0 h0_0_0 h0_0_f1 h0_0_f2 h0_0_f3 h0_0_0 h0_0_0k h0_0_0c) sz) := by
  refine Met.ofW (cc := cX1_fewestWatchers) (maxL := 6) (ret := (some .int)) (by decide) rfl ?_
  intro p e s m args below meth c s₁ B hml hv
  obtain ⟨rfl, hsz, hP, hK, hD0⟩ := hv
  have hx := B.exec
  have hb := B.bytes
  have hr := B.returns
  have hts := atoms_spec (ws := wf_c_X1_fewestWatchers) B.pre
  have hown : s.vm.findClass RX1 = some m.cls := findClass_of_methodNamed B.named
  have hlocks := B.notSynchronized
  subst hsz
  have hD := hD0.self (sz := s.heap.size)
  generalize hAe : va_A (wd_c_X1_fewestWatchers h0 h0_0 h0_1 h0_2 h0_3 h0_0 h0_0_0 h0_0_f1 h0_0_f2 h0_0_f3 h0_0_0 h0_0_0k h0_0_0c) s.heap.size = A at hD ⊢
  have hA : ∀ q : Nat, s.heap.size ≤ q → A q := fun q h => by rw [← hAe]; exact Or.inr h
  have hP : va_P (dC, dI) vwCl (wd_c_X1_fewestWatchers h0 h0_0 h0_1 h0_2 h0_3 h0_0 h0_0_0 h0_0_f1 h0_0_f2 h0_0_f3 h0_0_0 h0_0_0k h0_0_0c) s.heap := hP
  have hl := lv_entry ([.ref h0, .int p1]) (n := 6) (Nat.le_of_ble_eq_true rfl)
  rw [lg_entry_eq]
  generalize (lg_sl ([.ref h0, .int p1]) ++ List.replicate (6 - (lg_sl ([.ref h0, .int p1])).length) Slot.unset).toArray = ls at hl ⊢
  have hl : lv_has ls 6 [(0, .ref h0), (1, .int p1)] := hl
  obtain ⟨H, hHe⟩ : ∃ H : Heap, s.heap = H := ⟨_, rfl⟩
  have hS : va_S A s.heap H [] := by rw [hHe]; exact va_S.rf
  have hP : va_P (dC, dI) vwCl (wd_c_X1_fewestWatchers h0 h0_0 h0_1 h0_2 h0_3 h0_0 h0_0_0 h0_0_f1 h0_0_f2 h0_0_f3 h0_0_0 h0_0_0k h0_0_0c) H := by rw [← hHe]; exact hP
  rw [hHe]
  refine wj (fun G hG hU => ?_)
  have J14 : ∀ (n14 : Nat) (j14_l3 : Int32) (j14_l2 : Int32) (hM14 : MU j14_l3 < n14) (g_h0_0_f1 : RG h0_0_f1 0 8) (g_h0_0_f2 : RG h0_0_f2 0 3) (g_h0_0_f3 : RG h0_0_f3 0 1) (g_j14_l2 : RG j14_l2 0 255) (g_j14_l3 : RG j14_l3 1 256) (g_p1 : RG p1 0 18) (H : Heap) (locs : List Loc) (ls : Array Slot) (hP : va_P (dC, dI) vwCl (wd_c_X1_fewestWatchers h0 h0_0 h0_1 h0_2 h0_3 h0_0 h0_0_0 h0_0_f1 h0_0_f2 h0_0_f3 h0_0_0 h0_0_0k h0_0_0c) H) (hD : va_D A (wd_c_X1_fewestWatchers h0 h0_0 h0_1 h0_2 h0_3 h0_0 h0_0_0 h0_0_f1 h0_0_f2 h0_0_f3 h0_0_0 h0_0_0k h0_0_0c)) (hS : va_S A s.heap H locs) (hl : lv_has ls 6 [(3, .int j14_l3), (2, .int j14_l2), (0, .ref h0), (1, .int p1)]), G H locs (F0 m 14 ls []) := by
    intro n14
    induction n14 with
    | zero => intros; exact absurd (by assumption) (Nat.not_lt_zero _)
    | succ n14 ih14 =>
      intro j14_l3 j14_l2 hM14 g_h0_0_f1 g_h0_0_f2 g_h0_0_f3 g_j14_l2 g_j14_l3 g_p1 H locs ls hP hD hS hl
      have J89 : ∀ (j89_l2 : Int32) (g_h0_0_f1 : RG h0_0_f1 0 8) (g_h0_0_f2 : RG h0_0_f2 0 3) (g_h0_0_f3 : RG h0_0_f3 0 1) (g_j14_l2 : RG j14_l2 0 255) (g_j14_l3 : RG j14_l3 1 255) (g_j89_l2 : RG j89_l2 0 255) (g_p1 : RG p1 0 18) (H : Heap) (locs : List Loc) (ls : Array Slot) (hP : va_P (dC, dI) vwCl (wd_c_X1_fewestWatchers h0 h0_0 h0_1 h0_2 h0_3 h0_0 h0_0_0 h0_0_f1 h0_0_f2 h0_0_f3 h0_0_0 h0_0_0k h0_0_0c) H) (hD : va_D A (wd_c_X1_fewestWatchers h0 h0_0 h0_1 h0_2 h0_3 h0_0 h0_0_0 h0_0_f1 h0_0_f2 h0_0_f3 h0_0_0 h0_0_0k h0_0_0c)) (hS : va_S A s.heap H locs) (hl : lv_has ls 6 [(3, .int j14_l3), (2, .int j89_l2), (0, .ref h0), (1, .int p1)]), G H locs (F0 m 89 ls []) := by
        intro j89_l2 g_h0_0_f1 g_h0_0_f2 g_h0_0_f3 g_j14_l2 g_j14_l3 g_j89_l2 g_p1 H locs ls hP hD hS hl
        refine hG _ _ _ ?_
        obtain ⟨x_1, ex_1⟩ : ∃ y : Int32, y = j14_l3 + 1 := ⟨_, rfl⟩
        have g_2 : RG x_1 2 256 := RG_add ex_1 g_j14_l3 (RG_k 1 1 rfl) (by decide)
        refine lv_iinc (v := x_1) (lv' := [(3, .int x_1), (2, .int j89_l2), (0, .ref h0), (1, .int p1)]) hx hb dX1_fewestWatchers_89 hl (k := 0) rfl (by rw [ex_1]; rfl) (Nat.le_of_ble_eq_true rfl) rfl (fun ls hl => ?_)
        refine lv_goto (tgt := 14) hx hb dX1_fewestWatchers_92 rfl ?_
        exact hU _ _ _ (ih14 x_1 j89_l2 (mu_s (MU_add ex_1 g_j14_l3 (q := 1) rfl (by decide)) hM14) g_h0_0_f1 g_h0_0_f2 g_h0_0_f3 g_j89_l2 (RG_w g_2 (by decide)) g_p1 _ _ _ hP hD hS (lv_sub hl [0, 1, 2, 3] rfl))
      have J78 : ∀ (g_h0_0_f1 : RG h0_0_f1 0 8) (g_h0_0_f2 : RG h0_0_f2 0 3) (g_h0_0_f3 : RG h0_0_f3 0 1) (g_j14_l2 : RG j14_l2 0 255) (g_j14_l3 : RG j14_l3 1 255) (g_p1 : RG p1 0 18) (H : Heap) (locs : List Loc) (ls : Array Slot) (hP : va_P (dC, dI) vwCl (wd_c_X1_fewestWatchers h0 h0_0 h0_1 h0_2 h0_3 h0_0 h0_0_0 h0_0_f1 h0_0_f2 h0_0_f3 h0_0_0 h0_0_0k h0_0_0c) H) (hD : va_D A (wd_c_X1_fewestWatchers h0 h0_0 h0_1 h0_2 h0_3 h0_0 h0_0_0 h0_0_f1 h0_0_f2 h0_0_f3 h0_0_0 h0_0_0k h0_0_0c)) (hS : va_S A s.heap H locs) (hl : lv_has ls 6 [(3, .int j14_l3), (2, .int j14_l2), (0, .ref h0), (1, .int p1)]), G H locs (F0 m 78 ls []) := by
        intro g_h0_0_f1 g_h0_0_f2 g_h0_0_f3 g_j14_l2 g_j14_l3 g_p1 H locs ls hP hD hS hl
        refine hG _ _ _ ?_
        refine lv_aload_n hx hb dX1_fewestWatchers_78 rfl (lv_at hl 2 rfl) ?_
        refine lv_iload_n hx hb dX1_fewestWatchers_79 rfl (lv_at hl 0 rfl) ?_
        refine lv_iload_n hx hb dX1_fewestWatchers_80 rfl (lv_at hl 3 rfl) ?_
        have hPc := hP.sub (ws' := (wd_c_X1_isWatched_11 h0 h0_0 h0_1 h0_2 h0_3 h0_0 h0_0_0 h0_0_f1 h0_0_f2 h0_0_f3 h0_0_0 h0_0_0k h0_0_0c)) [0, 1, 2] rfl
        have hDc := hD.sub (ws' := (wd_c_X1_isWatched_11 h0 h0_0 h0_1 h0_2 h0_3 h0_0 h0_0_0 h0_0_f1 h0_0_f2 h0_0_f3 h0_0_0 h0_0_0k h0_0_0c)) [0, 1, 2] (by decide) rfl
        have hKc := hK.sub (tys' := [(h0_0_0k, .int)]) [0] rfl
        have hFc := va_free (wc := (wd_c_X1_isWatched_11 h0 h0_0 h0_1 h0_2 h0_3 h0_0 h0_0_0 h0_0_f1 h0_0_f2 h0_0_f3 h0_0_0 h0_0_0k h0_0_0c)) hD hS hA [0, 1, 2] rfl
        refine va_calli (va_runV (As := [.int j14_l3, .int p1]) (rest := []) ⟨hx, hb, hml, hown, hts⟩ (c_X1_isWatched_11 l dC dI H.size h0 j14_l3 p1 h0_0 h0_1 h0_2 h0_3 h0_0_0 h0_0_f1 h0_0_f2 h0_0_f3 h0_0_0k h0_0_0c (RG_w g_j14_l3 (by decide)) g_p1 g_h0_0_f1 g_h0_0_f2 g_h0_0_f3 a_h0_0_0c) (cwV 2 hts gf_c_X1_fewestWatchers_c_X1_isWatched_11 rfl rfl rfl (by decide +kernel) ⟨Nat.le_of_ble_eq_true rfl, Nat.le_of_ble_eq_true rfl⟩) ⟨fun a U g mk q => by obtain ⟨q0, q1, qP, qK, qD⟩ := q; exact ⟨q0, q1, qP, va_K.moved (u := U) (U := U.calling g mk a) (Vm.Alike.refl U.vm) qK, qD⟩, va_recv hKc hPc (ci := 1) (q0 := 0) rfl rfl, fun U hU hW => ⟨rfl, by rw [hU], by rw [hU]; exact hPc, va_K.moved hW.alike hKc, hDc.weaken (fun _ _ _ _ => trivial)⟩⟩ rfl rfl hl.1 rfl (lv_room (Nat.le_of_ble_eq_true rfl)) dX1_fewestWatchers_81 ⟨Nat.le_of_ble_eq_true rfl, Nat.le_of_ble_eq_true rfl⟩) hS (fun q _ h => hFc q h) hFc (fun r_3 u t H1 locs ht hvm hw hB hz1 hk1 hS => ?_)
        obtain ⟨hP1, hK1, hD1⟩ := hB
        rw [ht] at hP1
        obtain ⟨hP, hD⟩ := va_join (wr := []) (w1 := (wd_c_X1_isWatched_11 h0 h0_0 h0_1 h0_2 h0_3 h0_0 h0_0_0 h0_0_f1 h0_0_f2 h0_0_f3 h0_0_0 h0_0_0k h0_0_0c)) hP hD [0, 1, 2] [] rfl rfl (by decide) (by decide) hk1 hFc hP1 hD1
        have hP := hP.sub (ws' := (wd_c_X1_fewestWatchers h0 h0_0 h0_1 h0_2 h0_3 h0_0 h0_0_0 h0_0_f1 h0_0_f2 h0_0_f3 h0_0_0 h0_0_0k h0_0_0c)) [0, 1, 2] rfl
        have hD := hD.sub (ws' := (wd_c_X1_fewestWatchers h0 h0_0 h0_1 h0_2 h0_3 h0_0 h0_0_0 h0_0_f1 h0_0_f2 h0_0_f3 h0_0_0 h0_0_0k h0_0_0c)) [0, 1, 2] (by decide) rfl
        generalize H1 = H at hP hS ⊢
        rcases hw with h_4 | ⟨h_5, h_6⟩
        · rw [h_4]
          refine lv_if_eq (tgt := 89) hx hb dX1_fewestWatchers_84 rfl (fun c_7 => absurd c_7 (by decide)) (fun c_7 => ?_)
          refine lv_iload_n hx hb dX1_fewestWatchers_87 rfl (lv_at hl 0 rfl) ?_
          refine lv_istore_n (lv' := [(2, .int j14_l3), (3, .int j14_l3), (0, .ref h0), (1, .int p1)]) hx hb dX1_fewestWatchers_88 rfl hl (Nat.le_of_ble_eq_true rfl) rfl (fun ls hl => ?_)
          exact hU _ _ _ (J89 j14_l3 g_h0_0_f1 g_h0_0_f2 g_h0_0_f3 g_j14_l2 g_j14_l3 (RG_w g_j14_l3 (by decide)) g_p1 _ _ _ hP hD hS (lv_sub hl [1, 0, 2, 3] rfl))
        · rw [h_5]
          refine lv_if_eq (tgt := 89) hx hb dX1_fewestWatchers_84 rfl (fun c_8 => ?_) (fun c_8 => absurd c_8 (by decide))
          exact hU _ _ _ (J89 j14_l2 (RG_w h_6 (by decide)) g_h0_0_f2 g_h0_0_f3 g_j14_l2 g_j14_l3 g_j14_l2 g_p1 _ _ _ hP hD hS (lv_sub hl [0, 1, 2, 3] rfl))
      have J66b : ∀ (j66b_l4 : Int32) (g_h0_0_f1 : RG h0_0_f1 0 8) (g_h0_0_f2 : RG h0_0_f2 0 3) (g_h0_0_f3 : RG h0_0_f3 0 1) (g_j14_l2 : RG j14_l2 0 255) (g_j14_l3 : RG j14_l3 1 255) (g_j66b_l4 : RG j66b_l4 0 1) (g_p1 : RG p1 0 18) (H : Heap) (locs : List Loc) (ls : Array Slot) (hP : va_P (dC, dI) vwCl (wd_c_X1_fewestWatchers h0 h0_0 h0_1 h0_2 h0_3 h0_0 h0_0_0 h0_0_f1 h0_0_f2 h0_0_f3 h0_0_0 h0_0_0k h0_0_0c) H) (hD : va_D A (wd_c_X1_fewestWatchers h0 h0_0 h0_1 h0_2 h0_3 h0_0 h0_0_0 h0_0_f1 h0_0_f2 h0_0_f3 h0_0_0 h0_0_0k h0_0_0c)) (hS : va_S A s.heap H locs) (hl : lv_has ls 6 [(4, .int j66b_l4), (3, .int j14_l3), (2, .int j14_l2), (0, .ref h0), (1, .int p1)]), G H locs (F0 m 66 ls [.int 0]) := by
        intro j66b_l4 g_h0_0_f1 g_h0_0_f2 g_h0_0_f3 g_j14_l2 g_j14_l3 g_j66b_l4 g_p1 H locs ls hP hD hS hl
        refine hG _ _ _ ?_
        refine lv_istore (lv' := [(5, .int 0), (4, .int j66b_l4), (3, .int j14_l3), (2, .int j14_l2), (0, .ref h0), (1, .int p1)]) hx hb dX1_fewestWatchers_66 hl (Nat.le_of_ble_eq_true rfl) rfl (fun ls hl => ?_)
        refine lv_iload hx hb dX1_fewestWatchers_68 (lv_at hl 1 rfl) ?_
        refine lv_if_ne (tgt := 78) hx hb dX1_fewestWatchers_70 rfl (fun c_9 => ?_) (fun c_9 => ?_)
        · have g_10 : RG j66b_l4 1 1 := RG_ne1 g_j66b_l4 (q := 0) rfl c_9 (by decide)
          exact hU _ _ _ (J78 g_h0_0_f1 g_h0_0_f2 g_h0_0_f3 g_j14_l2 g_j14_l3 g_p1 _ _ _ hP hD hS (lv_sub hl [2, 3, 4, 5] rfl))
        · have g_11 : RG j66b_l4 0 0 := RG_eq1 g_j66b_l4 (RG_k 0 0 rfl) c_9 (by decide)
          refine lv_iload hx hb dX1_fewestWatchers_73 (lv_at hl 0 rfl) ?_
          refine lv_if_eq (tgt := 89) hx hb dX1_fewestWatchers_75 rfl (fun c_12 => ?_) (fun c_12 => absurd c_12 (by decide))
          exact hU _ _ _ (J89 j14_l2 g_h0_0_f1 g_h0_0_f2 g_h0_0_f3 g_j14_l2 g_j14_l3 g_j14_l2 g_p1 _ _ _ hP hD hS (lv_sub hl [2, 3, 4, 5] rfl))
      have J65 : ∀ (j65_l4 : Int32) (g_h0_0_f1 : RG h0_0_f1 0 8) (g_h0_0_f2 : RG h0_0_f2 0 3) (g_h0_0_f3 : RG h0_0_f3 0 1) (g_j14_l2 : RG j14_l2 0 255) (g_j14_l3 : RG j14_l3 1 255) (g_j65_l4 : RG j65_l4 0 1) (g_p1 : RG p1 0 18) (H : Heap) (locs : List Loc) (ls : Array Slot) (hP : va_P (dC, dI) vwCl (wd_c_X1_fewestWatchers h0 h0_0 h0_1 h0_2 h0_3 h0_0 h0_0_0 h0_0_f1 h0_0_f2 h0_0_f3 h0_0_0 h0_0_0k h0_0_0c) H) (hD : va_D A (wd_c_X1_fewestWatchers h0 h0_0 h0_1 h0_2 h0_3 h0_0 h0_0_0 h0_0_f1 h0_0_f2 h0_0_f3 h0_0_0 h0_0_0k h0_0_0c)) (hS : va_S A s.heap H locs) (hl : lv_has ls 6 [(4, .int j65_l4), (3, .int j14_l3), (2, .int j14_l2), (0, .ref h0), (1, .int p1)]), G H locs (F0 m 65 ls []) := by
        intro j65_l4 g_h0_0_f1 g_h0_0_f2 g_h0_0_f3 g_j14_l2 g_j14_l3 g_j65_l4 g_p1 H locs ls hP hD hS hl
        refine hG _ _ _ ?_
        refine lv_iconst (v := 0) hx hb dX1_fewestWatchers_65 kc_iconst_0 ?_
        exact hU _ _ _ (J66b j65_l4 g_h0_0_f1 g_h0_0_f2 g_h0_0_f3 g_j14_l2 g_j14_l3 g_j65_l4 g_p1 _ _ _ hP hD hS (lv_sub hl [0, 1, 2, 3, 4] rfl))
      have J66 : ∀ (j66_l4 : Int32) (g_h0_0_f1 : RG h0_0_f1 0 8) (g_h0_0_f2 : RG h0_0_f2 0 3) (g_h0_0_f3 : RG h0_0_f3 0 1) (g_j14_l2 : RG j14_l2 2 255) (g_j14_l3 : RG j14_l3 1 254) (g_j66_l4 : RG j66_l4 0 1) (g_p1 : RG p1 0 18) (H : Heap) (locs : List Loc) (ls : Array Slot) (hP : va_P (dC, dI) vwCl (wd_c_X1_fewestWatchers h0 h0_0 h0_1 h0_2 h0_3 h0_0 h0_0_0 h0_0_f1 h0_0_f2 h0_0_f3 h0_0_0 h0_0_0k h0_0_0c) H) (hD : va_D A (wd_c_X1_fewestWatchers h0 h0_0 h0_1 h0_2 h0_3 h0_0 h0_0_0 h0_0_f1 h0_0_f2 h0_0_f3 h0_0_0 h0_0_0k h0_0_0c)) (hS : va_S A s.heap H locs) (hl : lv_has ls 6 [(4, .int j66_l4), (3, .int j14_l3), (2, .int j14_l2), (0, .ref h0), (1, .int p1)]), G H locs (F0 m 66 ls [.int 1]) := by
        intro j66_l4 g_h0_0_f1 g_h0_0_f2 g_h0_0_f3 g_j14_l2 g_j14_l3 g_j66_l4 g_p1 H locs ls hP hD hS hl
        refine hG _ _ _ ?_
        refine lv_istore (lv' := [(5, .int 1), (4, .int j66_l4), (3, .int j14_l3), (2, .int j14_l2), (0, .ref h0), (1, .int p1)]) hx hb dX1_fewestWatchers_66 hl (Nat.le_of_ble_eq_true rfl) rfl (fun ls hl => ?_)
        refine lv_iload hx hb dX1_fewestWatchers_68 (lv_at hl 1 rfl) ?_
        refine lv_if_ne (tgt := 78) hx hb dX1_fewestWatchers_70 rfl (fun c_13 => ?_) (fun c_13 => ?_)
        · have g_14 : RG j66_l4 1 1 := RG_ne1 g_j66_l4 (q := 0) rfl c_13 (by decide)
          exact hU _ _ _ (J78 g_h0_0_f1 g_h0_0_f2 g_h0_0_f3 (RG_w g_j14_l2 (by decide)) (RG_w g_j14_l3 (by decide)) g_p1 _ _ _ hP hD hS (lv_sub hl [2, 3, 4, 5] rfl))
        · have g_15 : RG j66_l4 0 0 := RG_eq1 g_j66_l4 (RG_k 0 0 rfl) c_13 (by decide)
          refine lv_iload hx hb dX1_fewestWatchers_73 (lv_at hl 0 rfl) ?_
          refine lv_if_eq (tgt := 89) hx hb dX1_fewestWatchers_75 rfl (fun c_16 => absurd c_16 (by decide)) (fun c_16 => ?_)
          exact hU _ _ _ (J78 g_h0_0_f1 g_h0_0_f2 g_h0_0_f3 (RG_w g_j14_l2 (by decide)) (RG_w g_j14_l3 (by decide)) g_p1 _ _ _ hP hD hS (lv_sub hl [2, 3, 4, 5] rfl))
      have J43 : ∀ (g_h0_0_f1 : RG h0_0_f1 0 8) (g_h0_0_f2 : RG h0_0_f2 0 3) (g_h0_0_f3 : RG h0_0_f3 0 1) (g_j14_l2 : RG j14_l2 0 255) (g_j14_l3 : RG j14_l3 1 255) (g_p1 : RG p1 0 18) (H : Heap) (locs : List Loc) (ls : Array Slot) (hP : va_P (dC, dI) vwCl (wd_c_X1_fewestWatchers h0 h0_0 h0_1 h0_2 h0_3 h0_0 h0_0_0 h0_0_f1 h0_0_f2 h0_0_f3 h0_0_0 h0_0_0k h0_0_0c) H) (hD : va_D A (wd_c_X1_fewestWatchers h0 h0_0 h0_1 h0_2 h0_3 h0_0 h0_0_0 h0_0_f1 h0_0_f2 h0_0_f3 h0_0_0 h0_0_0k h0_0_0c)) (hS : va_S A s.heap H locs) (hl : lv_has ls 6 [(3, .int j14_l3), (2, .int j14_l2), (0, .ref h0), (1, .int p1)]), G H locs (F0 m 43 ls [.int 0]) := by
        intro g_h0_0_f1 g_h0_0_f2 g_h0_0_f3 g_j14_l2 g_j14_l3 g_p1 H locs ls hP hD hS hl
        refine hG _ _ _ ?_
        refine lv_istore (lv' := [(4, .int 0), (3, .int j14_l3), (2, .int j14_l2), (0, .ref h0), (1, .int p1)]) hx hb dX1_fewestWatchers_43 hl (Nat.le_of_ble_eq_true rfl) rfl (fun ls hl => ?_)
        refine lv_iload_n hx hb dX1_fewestWatchers_45 rfl (lv_at hl 1 rfl) ?_
        have hPc := hP.sub (ws' := []) [] rfl
        have hDc := hD.sub (ws' := []) [] (by decide) rfl
        have hKc := hK.sub (tys' := []) [] rfl
        have hFc := va_free (wc := []) hD hS hA [] rfl
        refine va_calli (va_runS (As := [.int j14_l3]) (rest := []) ⟨hx, hb, hml, hown, hts⟩ (c_J6_bitCount_0f7a4_10 l dC dI H.size j14_l3 g_j14_l3) (va_cwS 1 hts gf_c_X1_fewestWatchers_c_J6_bitCount_0f7a4_10 rfl rfl rfl (by decide +kernel) ⟨Nat.le_of_ble_eq_true rfl, Nat.le_of_ble_eq_true rfl⟩) ⟨fun a U g mk q => by obtain ⟨q0, q1, qP, qK, qD⟩ := q; exact ⟨q0, q1, qP, va_K.moved (u := U) (U := U.calling g mk a) (Vm.Alike.refl U.vm) qK, qD⟩, fun U hU hW => ⟨rfl, by rw [hU], by rw [hU]; exact hPc, va_K.moved hW.alike hKc, hDc.weaken (fun _ _ _ _ => trivial)⟩⟩ rfl rfl hl.1 rfl (lv_room (Nat.le_of_ble_eq_true rfl)) dX1_fewestWatchers_46 ⟨Nat.le_of_ble_eq_true rfl, Nat.le_of_ble_eq_true rfl⟩) hS (fun q _ h => hFc q h) hFc (fun r_17 u t H1 locs ht hvm hw hB hz1 hk1 hS => ?_)
        obtain ⟨hP1, hK1, hD1⟩ := hB
        rw [ht] at hP1
        have hP := bv_still hP hk1
        generalize H1 = H at hP hS ⊢
        have h_18 := hw
        refine lv_iload_n hx hb dX1_fewestWatchers_49 rfl (lv_at hl 2 rfl) ?_
        have hPc := hP.sub (ws' := []) [] rfl
        have hDc := hD.sub (ws' := []) [] (by decide) rfl
        have hKc := hK.sub (tys' := []) [] rfl
        have hFc := va_free (wc := []) hD hS hA [] rfl
        refine va_calli (va_runS (As := [.int j14_l2]) (rest := [.int r_17]) ⟨hx, hb, hml, hown, hts⟩ (c_J6_bitCount_0f7a4_1 l dC dI H.size j14_l2 g_j14_l2) (va_cwS 1 hts gf_c_X1_fewestWatchers_c_J6_bitCount_0f7a4_1 rfl rfl rfl (by decide +kernel) ⟨Nat.le_of_ble_eq_true rfl, Nat.le_of_ble_eq_true rfl⟩) ⟨fun a U g mk q => by obtain ⟨q0, q1, qP, qK, qD⟩ := q; exact ⟨q0, q1, qP, va_K.moved (u := U) (U := U.calling g mk a) (Vm.Alike.refl U.vm) qK, qD⟩, fun U hU hW => ⟨rfl, by rw [hU], by rw [hU]; exact hPc, va_K.moved hW.alike hKc, hDc.weaken (fun _ _ _ _ => trivial)⟩⟩ rfl rfl hl.1 rfl (lv_room (Nat.le_of_ble_eq_true rfl)) dX1_fewestWatchers_50 ⟨Nat.le_of_ble_eq_true rfl, Nat.le_of_ble_eq_true rfl⟩) hS (fun q _ h => hFc q h) hFc (fun r_19 u t H1 locs ht hvm hw hB hz1 hk1 hS => ?_)
        obtain ⟨hP1, hK1, hD1⟩ := hB
        rw [ht] at hP1
        have hP := bv_still hP hk1
        generalize H1 = H at hP hS ⊢
        have h_20 := hw
        refine lv_icmp_ne (tgt := 65) hx hb dX1_fewestWatchers_53 rfl (fun c_21 => ?_) (fun c_21 => ?_)
        · exact hU _ _ _ (J65 0 g_h0_0_f1 g_h0_0_f2 g_h0_0_f3 g_j14_l2 g_j14_l3 (RG_w (RG_k 0 0 rfl) (by decide)) g_p1 _ _ _ hP hD hS (lv_sub hl [0, 1, 2, 3, 4] rfl))
        · refine lv_iload_n hx hb dX1_fewestWatchers_56 rfl (lv_at hl 1 rfl) ?_
          refine lv_iload_n hx hb dX1_fewestWatchers_57 rfl (lv_at hl 2 rfl) ?_
          refine lv_icmp_ge (tgt := 65) hx hb dX1_fewestWatchers_58 rfl (fun c_22 => ?_) (fun c_22 => ?_)
          · exact hU _ _ _ (J65 0 g_h0_0_f1 g_h0_0_f2 g_h0_0_f3 g_j14_l2 g_j14_l3 (RG_w (RG_k 0 0 rfl) (by decide)) g_p1 _ _ _ hP hD hS (lv_sub hl [0, 1, 2, 3, 4] rfl))
          · have d_23 := Int32.not_le.mp c_22
            have g_24 : RG j14_l3 1 254 := RG_lt1 g_j14_l3 g_j14_l2 d_23 (by decide)
            have g_25 : RG j14_l2 2 255 := RG_lt2 g_j14_l3 g_j14_l2 d_23 (by decide)
            refine lv_iconst (v := 1) hx hb dX1_fewestWatchers_61 kc_iconst_1 ?_
            refine lv_goto (tgt := 66) hx hb dX1_fewestWatchers_62 rfl ?_
            exact hU _ _ _ (J66 0 g_h0_0_f1 g_h0_0_f2 g_h0_0_f3 g_25 g_24 (RG_w (RG_k 0 0 rfl) (by decide)) g_p1 _ _ _ hP hD hS (lv_sub hl [0, 1, 2, 3, 4] rfl))
      have J43b : ∀ (g_h0_0_f1 : RG h0_0_f1 0 8) (g_h0_0_f2 : RG h0_0_f2 0 3) (g_h0_0_f3 : RG h0_0_f3 0 1) (g_j14_l2 : RG j14_l2 0 255) (g_j14_l3 : RG j14_l3 1 255) (g_p1 : RG p1 0 18) (H : Heap) (locs : List Loc) (ls : Array Slot) (hP : va_P (dC, dI) vwCl (wd_c_X1_fewestWatchers h0 h0_0 h0_1 h0_2 h0_3 h0_0 h0_0_0 h0_0_f1 h0_0_f2 h0_0_f3 h0_0_0 h0_0_0k h0_0_0c) H) (hD : va_D A (wd_c_X1_fewestWatchers h0 h0_0 h0_1 h0_2 h0_3 h0_0 h0_0_0 h0_0_f1 h0_0_f2 h0_0_f3 h0_0_0 h0_0_0k h0_0_0c)) (hS : va_S A s.heap H locs) (hl : lv_has ls 6 [(3, .int j14_l3), (2, .int j14_l2), (0, .ref h0), (1, .int p1)]), G H locs (F0 m 43 ls [.int 1]) := by
        intro g_h0_0_f1 g_h0_0_f2 g_h0_0_f3 g_j14_l2 g_j14_l3 g_p1 H locs ls hP hD hS hl
        refine hG _ _ _ ?_
        refine lv_istore (lv' := [(4, .int 1), (3, .int j14_l3), (2, .int j14_l2), (0, .ref h0), (1, .int p1)]) hx hb dX1_fewestWatchers_43 hl (Nat.le_of_ble_eq_true rfl) rfl (fun ls hl => ?_)
        refine lv_iload_n hx hb dX1_fewestWatchers_45 rfl (lv_at hl 1 rfl) ?_
        have hPc := hP.sub (ws' := []) [] rfl
        have hDc := hD.sub (ws' := []) [] (by decide) rfl
        have hKc := hK.sub (tys' := []) [] rfl
        have hFc := va_free (wc := []) hD hS hA [] rfl
        refine va_calli (va_runS (As := [.int j14_l3]) (rest := []) ⟨hx, hb, hml, hown, hts⟩ (c_J6_bitCount_0f7a4_10 l dC dI H.size j14_l3 g_j14_l3) (va_cwS 1 hts gf_c_X1_fewestWatchers_c_J6_bitCount_0f7a4_10 rfl rfl rfl (by decide +kernel) ⟨Nat.le_of_ble_eq_true rfl, Nat.le_of_ble_eq_true rfl⟩) ⟨fun a U g mk q => by obtain ⟨q0, q1, qP, qK, qD⟩ := q; exact ⟨q0, q1, qP, va_K.moved (u := U) (U := U.calling g mk a) (Vm.Alike.refl U.vm) qK, qD⟩, fun U hU hW => ⟨rfl, by rw [hU], by rw [hU]; exact hPc, va_K.moved hW.alike hKc, hDc.weaken (fun _ _ _ _ => trivial)⟩⟩ rfl rfl hl.1 rfl (lv_room (Nat.le_of_ble_eq_true rfl)) dX1_fewestWatchers_46 ⟨Nat.le_of_ble_eq_true rfl, Nat.le_of_ble_eq_true rfl⟩) hS (fun q _ h => hFc q h) hFc (fun r_26 u t H1 locs ht hvm hw hB hz1 hk1 hS => ?_)
        obtain ⟨hP1, hK1, hD1⟩ := hB
        rw [ht] at hP1
        have hP := bv_still hP hk1
        generalize H1 = H at hP hS ⊢
        have h_27 := hw
        refine lv_iload_n hx hb dX1_fewestWatchers_49 rfl (lv_at hl 2 rfl) ?_
        have hPc := hP.sub (ws' := []) [] rfl
        have hDc := hD.sub (ws' := []) [] (by decide) rfl
        have hKc := hK.sub (tys' := []) [] rfl
        have hFc := va_free (wc := []) hD hS hA [] rfl
        refine va_calli (va_runS (As := [.int j14_l2]) (rest := [.int r_26]) ⟨hx, hb, hml, hown, hts⟩ (c_J6_bitCount_0f7a4_1 l dC dI H.size j14_l2 g_j14_l2) (va_cwS 1 hts gf_c_X1_fewestWatchers_c_J6_bitCount_0f7a4_1 rfl rfl rfl (by decide +kernel) ⟨Nat.le_of_ble_eq_true rfl, Nat.le_of_ble_eq_true rfl⟩) ⟨fun a U g mk q => by obtain ⟨q0, q1, qP, qK, qD⟩ := q; exact ⟨q0, q1, qP, va_K.moved (u := U) (U := U.calling g mk a) (Vm.Alike.refl U.vm) qK, qD⟩, fun U hU hW => ⟨rfl, by rw [hU], by rw [hU]; exact hPc, va_K.moved hW.alike hKc, hDc.weaken (fun _ _ _ _ => trivial)⟩⟩ rfl rfl hl.1 rfl (lv_room (Nat.le_of_ble_eq_true rfl)) dX1_fewestWatchers_50 ⟨Nat.le_of_ble_eq_true rfl, Nat.le_of_ble_eq_true rfl⟩) hS (fun q _ h => hFc q h) hFc (fun r_28 u t H1 locs ht hvm hw hB hz1 hk1 hS => ?_)
        obtain ⟨hP1, hK1, hD1⟩ := hB
        rw [ht] at hP1
        have hP := bv_still hP hk1
        generalize H1 = H at hP hS ⊢
        have h_29 := hw
        refine lv_icmp_ne (tgt := 65) hx hb dX1_fewestWatchers_53 rfl (fun c_30 => ?_) (fun c_30 => ?_)
        · exact hU _ _ _ (J65 1 g_h0_0_f1 g_h0_0_f2 g_h0_0_f3 g_j14_l2 g_j14_l3 (RG_w (RG_k 1 1 rfl) (by decide)) g_p1 _ _ _ hP hD hS (lv_sub hl [0, 1, 2, 3, 4] rfl))
        · refine lv_iload_n hx hb dX1_fewestWatchers_56 rfl (lv_at hl 1 rfl) ?_
          refine lv_iload_n hx hb dX1_fewestWatchers_57 rfl (lv_at hl 2 rfl) ?_
          refine lv_icmp_ge (tgt := 65) hx hb dX1_fewestWatchers_58 rfl (fun c_31 => ?_) (fun c_31 => ?_)
          · exact hU _ _ _ (J65 1 g_h0_0_f1 g_h0_0_f2 g_h0_0_f3 g_j14_l2 g_j14_l3 (RG_w (RG_k 1 1 rfl) (by decide)) g_p1 _ _ _ hP hD hS (lv_sub hl [0, 1, 2, 3, 4] rfl))
          · have d_32 := Int32.not_le.mp c_31
            have g_33 : RG j14_l3 1 254 := RG_lt1 g_j14_l3 g_j14_l2 d_32 (by decide)
            have g_34 : RG j14_l2 2 255 := RG_lt2 g_j14_l3 g_j14_l2 d_32 (by decide)
            refine lv_iconst (v := 1) hx hb dX1_fewestWatchers_61 kc_iconst_1 ?_
            refine lv_goto (tgt := 66) hx hb dX1_fewestWatchers_62 rfl ?_
            exact hU _ _ _ (J66 1 g_h0_0_f1 g_h0_0_f2 g_h0_0_f3 g_34 g_33 (RG_w (RG_k 1 1 rfl) (by decide)) g_p1 _ _ _ hP hD hS (lv_sub hl [0, 1, 2, 3, 4] rfl))
      refine hG _ _ _ ?_
      refine lv_iload_n hx hb dX1_fewestWatchers_14 rfl (lv_at hl 0 rfl) ?_
      refine lv_iconst (v := 1) hx hb dX1_fewestWatchers_15 kc_iconst_1 ?_
      refine lv_aload_n hx hb dX1_fewestWatchers_16 rfl (lv_at hl 2 rfl) ?_
      refine va_get (D := (dC, dI)) (ci := 1) (v := .ref h0_0) (C := RX1) (T := TX1) (N := 4) hx hb hts iw_c_X1_fewestWatchers_X1 hown hK hP 0 rfl rfl 0 (by decide) (hts (.fieldLink RX1 9 "BuoyVote$Charts" "told" "LBuoyVote$Borough;") (List.mem_of_getElem? (i := 1) rfl)) (fun _ h9 => h9) rfl dX1_fewestWatchers_17 ?_
      refine va_get (D := (dC, dI)) (ci := 0) (v := .int h0_0_f1) (C := RX0) (T := TX0) (N := 4) hx hb hts iw_c_X1_fewestWatchers_X0 hown hK hP 1 rfl rfl 1 (by decide) (hts (.fieldLink RX1 31 "BuoyVote$Borough" "buoys" "I") (List.mem_of_getElem? (i := 2) rfl)) (fun _ h9 => h9) rfl dX1_fewestWatchers_20 ?_
      refine lv_ishl hx hb dX1_fewestWatchers_23 ?_
      refine lv_topi (fun x_35 ex_35 => ?_)
      have g_36 : RG x_35 1 256 := RG_shl1 ex_35 g_h0_0_f1 (by decide)
      refine lv_icmp_ge (tgt := 95) hx hb dX1_fewestWatchers_24 rfl (fun c_37 => ?_) (fun c_37 => ?_)
      · refine lv_iload_n hx hb dX1_fewestWatchers_95 rfl (lv_at hl 1 rfl) ?_
        have hK9 := hK.sub (tys' := []) [] rfl
        exact W.iret (v := j14_l2) hx hb hr (fun t ht hW => ⟨⟨j14_l2, (), rfl, g_j14_l2, by rw [ht]; exact hP, va_K.moved hW.alike hK9, hD⟩, hS.F ht⟩) hS.2.2 dX1_fewestWatchers_96
      · have d_38 := Int32.not_le.mp c_37
        have g_39 : RG j14_l3 1 255 := RG_lt1 g_j14_l3 g_36 d_38 (by decide)
        have g_40 : RG x_35 2 256 := RG_lt2 g_j14_l3 g_36 d_38 (by decide)
        refine lv_iload_n hx hb dX1_fewestWatchers_27 rfl (lv_at hl 0 rfl) ?_
        have hPc := hP.sub (ws' := []) [] rfl
        have hDc := hD.sub (ws' := []) [] (by decide) rfl
        have hKc := hK.sub (tys' := []) [] rfl
        have hFc := va_free (wc := []) hD hS hA [] rfl
        refine va_calli (va_runS (As := [.int j14_l3]) (rest := []) ⟨hx, hb, hml, hown, hts⟩ (c_J6_bitCount_0f7a4_10 l dC dI H.size j14_l3 g_39) (va_cwS 1 hts gf_c_X1_fewestWatchers_c_J6_bitCount_0f7a4_10 rfl rfl rfl (by decide +kernel) ⟨Nat.le_of_ble_eq_true rfl, Nat.le_of_ble_eq_true rfl⟩) ⟨fun a U g mk q => by obtain ⟨q0, q1, qP, qK, qD⟩ := q; exact ⟨q0, q1, qP, va_K.moved (u := U) (U := U.calling g mk a) (Vm.Alike.refl U.vm) qK, qD⟩, fun U hU hW => ⟨rfl, by rw [hU], by rw [hU]; exact hPc, va_K.moved hW.alike hKc, hDc.weaken (fun _ _ _ _ => trivial)⟩⟩ rfl rfl hl.1 rfl (lv_room (Nat.le_of_ble_eq_true rfl)) dX1_fewestWatchers_28 ⟨Nat.le_of_ble_eq_true rfl, Nat.le_of_ble_eq_true rfl⟩) hS (fun q _ h => hFc q h) hFc (fun r_41 u t H1 locs ht hvm hw hB hz1 hk1 hS => ?_)
        obtain ⟨hP1, hK1, hD1⟩ := hB
        rw [ht] at hP1
        have hP := bv_still hP hk1
        generalize H1 = H at hP hS ⊢
        have h_42 := hw
        refine lv_iload_n hx hb dX1_fewestWatchers_31 rfl (lv_at hl 1 rfl) ?_
        have hPc := hP.sub (ws' := []) [] rfl
        have hDc := hD.sub (ws' := []) [] (by decide) rfl
        have hKc := hK.sub (tys' := []) [] rfl
        have hFc := va_free (wc := []) hD hS hA [] rfl
        refine va_calli (va_runS (As := [.int j14_l2]) (rest := [.int r_41]) ⟨hx, hb, hml, hown, hts⟩ (c_J6_bitCount_0f7a4_1 l dC dI H.size j14_l2 g_j14_l2) (va_cwS 1 hts gf_c_X1_fewestWatchers_c_J6_bitCount_0f7a4_1 rfl rfl rfl (by decide +kernel) ⟨Nat.le_of_ble_eq_true rfl, Nat.le_of_ble_eq_true rfl⟩) ⟨fun a U g mk q => by obtain ⟨q0, q1, qP, qK, qD⟩ := q; exact ⟨q0, q1, qP, va_K.moved (u := U) (U := U.calling g mk a) (Vm.Alike.refl U.vm) qK, qD⟩, fun U hU hW => ⟨rfl, by rw [hU], by rw [hU]; exact hPc, va_K.moved hW.alike hKc, hDc.weaken (fun _ _ _ _ => trivial)⟩⟩ rfl rfl hl.1 rfl (lv_room (Nat.le_of_ble_eq_true rfl)) dX1_fewestWatchers_32 ⟨Nat.le_of_ble_eq_true rfl, Nat.le_of_ble_eq_true rfl⟩) hS (fun q _ h => hFc q h) hFc (fun r_43 u t H1 locs ht hvm hw hB hz1 hk1 hS => ?_)
        obtain ⟨hP1, hK1, hD1⟩ := hB
        rw [ht] at hP1
        have hP := bv_still hP hk1
        generalize H1 = H at hP hS ⊢
        have h_44 := hw
        refine lv_icmp_ge (tgt := 42) hx hb dX1_fewestWatchers_35 rfl (fun c_45 => ?_) (fun c_45 => ?_)
        · refine lv_iconst (v := 0) hx hb dX1_fewestWatchers_42 kc_iconst_0 ?_
          exact hU _ _ _ (J43 g_h0_0_f1 g_h0_0_f2 g_h0_0_f3 g_j14_l2 g_39 g_p1 _ _ _ hP hD hS (lv_sub hl [0, 1, 2, 3] rfl))
        · have d_46 := Int32.not_le.mp c_45
          have g_47 : RG r_41 0 62 := RG_lt1 h_42 h_44 d_46 (by decide)
          have g_48 : RG r_43 1 63 := RG_lt2 h_42 h_44 d_46 (by decide)
          refine lv_iconst (v := 1) hx hb dX1_fewestWatchers_38 kc_iconst_1 ?_
          refine lv_goto (tgt := 43) hx hb dX1_fewestWatchers_39 rfl ?_
          exact hU _ _ _ (J43b g_h0_0_f1 g_h0_0_f2 g_h0_0_f3 g_j14_l2 g_39 g_p1 _ _ _ hP hD hS (lv_sub hl [0, 1, 2, 3] rfl))
  refine hG _ _ _ ?_
  refine lv_iconst (v := 1) hx hb dX1_fewestWatchers_0 kc_iconst_1 ?_
  refine lv_aload_n hx hb dX1_fewestWatchers_1 rfl (lv_at hl 0 rfl) ?_
  refine va_get (D := (dC, dI)) (ci := 1) (v := .ref h0_0) (C := RX1) (T := TX1) (N := 4) hx hb hts iw_c_X1_fewestWatchers_X1 hown hK hP 0 rfl rfl 0 (by decide) (hts (.fieldLink RX1 9 "BuoyVote$Charts" "told" "LBuoyVote$Borough;") (List.mem_of_getElem? (i := 1) rfl)) (fun _ h9 => h9) rfl dX1_fewestWatchers_2 ?_
  refine va_get (D := (dC, dI)) (ci := 0) (v := .int h0_0_f1) (C := RX0) (T := TX0) (N := 4) hx hb hts iw_c_X1_fewestWatchers_X0 hown hK hP 1 rfl rfl 1 (by decide) (hts (.fieldLink RX1 31 "BuoyVote$Borough" "buoys" "I") (List.mem_of_getElem? (i := 2) rfl)) (fun _ h9 => h9) rfl dX1_fewestWatchers_5 ?_
  refine lv_ishl hx hb dX1_fewestWatchers_8 ?_
  refine lv_topi (fun x_49 ex_49 => ?_)
  have g_50 : RG x_49 1 256 := RG_shl1 ex_49 g_h0_0_f1 (by decide)
  refine lv_iconst (v := 1) hx hb dX1_fewestWatchers_9 kc_iconst_1 ?_
  refine lv_isub hx hb dX1_fewestWatchers_10 ?_
  refine lv_topi (fun x_51 ex_51 => ?_)
  have g_52 : RG x_51 0 255 := RG_sub ex_51 g_50 (RG_k 1 1 rfl) (by decide)
  refine lv_istore_n (lv' := [(2, .int x_51), (0, .ref h0), (1, .int p1)]) hx hb dX1_fewestWatchers_11 rfl hl (Nat.le_of_ble_eq_true rfl) rfl (fun ls hl => ?_)
  refine lv_iconst (v := 1) hx hb dX1_fewestWatchers_12 kc_iconst_1 ?_
  refine lv_istore_n (lv' := [(3, .int 1), (2, .int x_51), (0, .ref h0), (1, .int p1)]) hx hb dX1_fewestWatchers_13 rfl hl (Nat.le_of_ble_eq_true rfl) rfl (fun ls hl => ?_)
  exact hU _ _ _ (J14 _ 1 x_51 (Nat.lt_succ_self _) g_h0_0_f1 g_h0_0_f2 g_h0_0_f3 g_52 (RG_w (RG_k 1 1 rfl) (by decide)) g_p1 _ _ _ hP hD hS (lv_sub hl [0, 1, 2, 3] rfl))
def wd_c_X11_watch (a0 : Nat) (a1 : Nat) (a2 : Nat) (a3 : Nat) (a4 : Nat) (a5 : Nat) (a6 : Int32) (a7 : Nat) (a8 : Nat) (a9 : Nat) (a10 : Nat) (a11 : Nat) (a12 : Nat) (a13 : Nat) (a14 : Nat) (a15 : Nat) (a16 : Int64) (a17 : Nat) (a18 : Nat) (a19 : Int32) (a20 : Int32) (a21 : Int32) (a22 : Nat) (a23 : Nat) (a24 : Nat) (a25 : Nat) (a26 : Nat) (a27 : Nat) (a28 : ClassId) (a29 : Nat → Int32) : va_W := [(a0, .inr (11, [.ref a1, .ref a2, .ref a3, .ref a4, .ref a5, .int a6, .ref a7, .ref a8, .ref a9, .ref a10, .ref a11, .ref a12, .ref a13, .ref a14, .ref a15, .long a16])), (a17, .inr (0, [.ref a18, .int a19, .int a20, .int a21])), (a22, .inr (1, [.ref a23, .ref a24, .ref a25, .ref a26])), (a27, .inl (a28, 80, .inl a29))]
def wf_c_X11_watch : List Cond := .code yX11_watch cX11_watch 2 (some .int) :: ([.methodLink RX11 140 yX11_hasBorough, .instanceMethod yX11_hasBorough, .selects RX11 yX11_hasBorough yX11_hasBorough, .initialized RX11, .code yX11_hasBorough cX11_hasBorough 1 (some .boolean), .fieldLink RX11 19 "BuoyVote" "told" "LBuoyVote$Borough;", .fieldLink RX11 275 "BuoyVote$Borough" "buoys" "I", .methodLink RX11 111 yX11_isWithin, .static yX11_isWithin, .code yX11_isWithin cX11_isWithin 3 (some .boolean), .fieldLink RX11 87 "BuoyVote" "charts" "LBuoyVote$Charts;", .methodLink RX11 385 yX1_fewestWatchers, .instanceMethod yX1_fewestWatchers, .selects RX1 yX1_fewestWatchers yX1_fewestWatchers, .initialized RX1, .code yX1_fewestWatchers cX1_fewestWatchers 6 (some .int), .fieldLink RX1 9 "BuoyVote$Charts" "told" "LBuoyVote$Borough;", .fieldLink RX1 31 "BuoyVote$Borough" "buoys" "I", .methodLink RX1 67 yJ6_bitCount_0f7a4, .static yJ6_bitCount_0f7a4, .initialized RJ6, .code yJ6_bitCount_0f7a4 cJ6_bitCount_0f7a4 1 (some .int), .constant RJ6 265 (1431655765), .constant RJ6 266 (858993459), .constant RJ6 267 (252645135), .methodLink RX1 72 yX1_isWatched, .instanceMethod yX1_isWatched, .selects RX1 yX1_isWatched yX1_isWatched, .code yX1_isWatched cX1_isWatched 6 (some .boolean), .methodLink RX1 35 yX0_buoyX, .instanceMethod yX0_buoyX, .selects RX0 yX0_buoyX yX0_buoyX, .initialized RX0, .code yX0_buoyX cX0_buoyX 2 (some .int), .fieldLink RX0 11 "BuoyVote$Borough" "values" "[I", .methodLink RX1 38 yX0_buoyY, .instanceMethod yX0_buoyY, .selects RX0 yX0_buoyY yX0_buoyY, .code yX0_buoyY cX0_buoyY 2 (some .int), .methodLink RX1 51 yX1_between, .instanceMethod yX1_between, .selects RX1 yX1_between yX1_between, .code yX1_between cX1_between 4 (some .int), .methodLink RX1 62 Lib.Math.abs.name, .static Lib.Math.abs.name, .initialized "java/lang/Math", .code Lib.Math.abs.name Lib.Math.abs.code 1 (some .int)] ++ wsX110 ++ wsX00 ++ wsX10)
theorem iw_c_X11_watch_X11 : ∀ w ∈ wsX110, w ∈ wf_c_X11_watch := fun w h => List.mem_cons_of_mem _ (List.mem_append_left _ (List.mem_append_left _ (List.mem_append_right _ h)))
theorem iw_c_X11_watch_X0 : ∀ w ∈ wsX00, w ∈ wf_c_X11_watch := fun w h => List.mem_cons_of_mem _ (List.mem_append_left _ (List.mem_append_right _ h))
theorem iw_c_X11_watch_X1 : ∀ w ∈ wsX10, w ∈ wf_c_X11_watch := fun w h => List.mem_cons_of_mem _ (List.mem_append_right _ h)
set_option maxRecDepth 20000 in
theorem gf_c_X11_watch_c_X11_hasBorough : GoodIn wf_c_X11_watch (wsV RX11 140 RX11 yX11_hasBorough wf_c_X11_hasBorough) := goodIn_app (gi_cons (j := 1) rfl rfl (gi_cons (j := 2) rfl rfl (gi_cons (j := 3) rfl rfl (gi_cons (j := 4) rfl rfl (gi_nil))))) (gi_cons (j := 5) rfl rfl (goodIn_app (goodIn_app (gi_cons (j := 6) rfl rfl (gi_cons (j := 7) rfl rfl (gi_nil))) (goodIn_sub iw_c_X11_watch_X11 gw_X11)) (goodIn_sub iw_c_X11_watch_X0 gw_X0)))
set_option maxRecDepth 20000 in
theorem gf_c_X11_watch_c_X11_isWithin_6 : GoodIn wf_c_X11_watch (va_wsS RX11 111 yX11_isWithin wf_c_X11_isWithin_6) := goodIn_app (gi_cons (j := 8) rfl rfl (gi_cons (j := 9) rfl rfl (gi_cons (j := 4) rfl rfl (gi_nil)))) (gi_cons (j := 10) rfl rfl (gi_nil))
set_option maxRecDepth 20000 in
theorem gf_c_X11_watch_c_X1_fewestWatchers : GoodIn wf_c_X11_watch (wsV RX11 385 RX1 yX1_fewestWatchers wf_c_X1_fewestWatchers) := goodIn_app (gi_cons (j := 12) rfl rfl (gi_cons (j := 13) rfl rfl (gi_cons (j := 14) rfl rfl (gi_cons (j := 15) rfl rfl (gi_nil))))) (gi_cons (j := 16) rfl rfl (goodIn_app (goodIn_app (gi_cons (j := 17) rfl rfl (gi_cons (j := 18) rfl rfl (gi_cons (j := 19) rfl rfl (gi_cons (j := 20) rfl rfl (gi_cons (j := 21) rfl rfl (gi_cons (j := 22) rfl rfl (gi_cons (j := 23) rfl rfl (gi_cons (j := 24) rfl rfl (gi_cons (j := 25) rfl rfl (gi_cons (j := 26) rfl rfl (gi_cons (j := 27) rfl rfl (gi_cons (j := 28) rfl rfl (gi_cons (j := 15) rfl rfl (gi_cons (j := 29) rfl rfl (gi_cons (j := 30) rfl rfl (gi_cons (j := 31) rfl rfl (gi_cons (j := 32) rfl rfl (gi_cons (j := 33) rfl rfl (gi_cons (j := 34) rfl rfl (gi_cons (j := 35) rfl rfl (gi_cons (j := 36) rfl rfl (gi_cons (j := 37) rfl rfl (gi_cons (j := 38) rfl rfl (gi_cons (j := 39) rfl rfl (gi_cons (j := 40) rfl rfl (gi_cons (j := 41) rfl rfl (gi_cons (j := 42) rfl rfl (gi_cons (j := 43) rfl rfl (gi_cons (j := 44) rfl rfl (gi_cons (j := 45) rfl rfl (gi_cons (j := 46) rfl rfl (gi_cons (j := 47) rfl rfl (gi_nil))))))))))))))))))))))))))))))))) (goodIn_sub iw_c_X11_watch_X1 gw_X1)) (goodIn_sub iw_c_X11_watch_X0 gw_X0)))
set_option maxHeartbeats 4000000 in
set_option maxRecDepth 100000 in
theorem c_X11_watch (l : Launch) (dC : Nat → ClassId) (dI : Nat → Nat → Nat) (sz : Nat) (h0 : Nat) (p1 : Int32) (h0_0 : Nat) (h0_1 : Nat) (h0_2 : Nat) (h0_3 : Nat) (h0_4 : Nat) (h0_f5 : Int32) (h0_6 : Nat) (h0_7 : Nat) (h0_8 : Nat) (h0_9 : Nat) (h0_10 : Nat) (h0_11 : Nat) (h0_12 : Nat) (h0_13 : Nat) (h0_14 : Nat) (h0_f15 : Int64) (h0_1_0 : Nat) (h0_1_f1 : Int32) (h0_1_f2 : Int32) (h0_1_f3 : Int32) (h0_12_1 : Nat) (h0_12_2 : Nat) (h0_12_3 : Nat) (h0_1_0k : ClassId) (h0_1_0c : Nat → Int32) (g_h0_f5 : RG h0_f5 0 4) (g_h0_1_f1 : RG h0_1_f1 0 8) (g_h0_1_f2 : RG h0_1_f2 0 3) (g_h0_1_f3 : RG h0_1_f3 0 1) (a_h0_1_0c : AI h0_1_0c (-1) 99) : Met l yX11_watch wf_c_X11_watch ({ frames := 4, cells := 0, slots := 0, locals := 94 }) (va_Pc [.ref h0, .int p1] (fun U => U.heap.size = sz ∧ va_P (dC, dI) vwCl (wd_c_X11_watch h0 h0_0 h0_1 h0_2 h0_3 h0_4 h0_f5 h0_6 h0_7 h0_8 h0_9 h0_10 h0_11 h0_12 h0_13 h0_14 h0_f15 h0_1 h0_1_0 h0_1_f1 h0_1_f2 h0_1_f3 h0_12 h0_1 h0_12_1 h0_12_2 h0_12_3 h0_1_0 h0_1_0k h0_1_0c) U.heap ∧ va_K (dC, dI) vwCl [(h0_1_0k, .int)] U ∧ va_D (fun _ => True) (wd_c_X11_watch h0 h0_0 h0_1 h0_2 h0_3 h0_4 h0_f5 h0_6 h0_7 h0_8 h0_9 h0_10 h0_11 h0_12 h0_13 h0_14 h0_f15 h0_1 h0_1_0 h0_1_f1 h0_1_f2 h0_1_f3 h0_12 h0_1 h0_12_1 h0_12_2 h0_12_3 h0_1_0 h0_1_0k h0_1_0c))) (va_Qi (fun (r : Int32) (u : Unit) => (r = (-1)) ∨ (RG r 0 255 ∧ RG h0_1_f1 1 8 ∧ RG p1 0 18)) (fun (u : Unit) t => va_P (dC, dI) vwCl (wd_c_X11_watch h0 h0_0 h0_1 h0_2 h0_3 h0_4 h0_f5 h0_6 h0_7 h0_8 h0_9 h0_10 h0_11 h0_12 h0_13 h0_14 h0_f15 h0_1 h0_1_0 h0_1_f1 h0_1_f2 h0_1_f3 h0_12 h0_1 h0_12_1 h0_12_2 h0_12_3 h0_1_0 h0_1_0k h0_1_0c) t.heap ∧ va_K (dC, dI) vwCl [] t ∧ va_D (va_A (wd_c_X11_watch h0 h0_0 h0_1 h0_2 h0_3 h0_4 h0_f5 h0_6 h0_7 h0_8 h0_9 h0_10 h0_11 h0_12 h0_13 h0_14 h0_f15 h0_1 h0_1_0 h0_1_f1 h0_1_f2 h0_1_f3 h0_12 h0_1 h0_12_1 h0_12_2 h0_12_3 h0_1_0 h0_1_0k h0_1_0c) sz) (wd_c_X11_watch h0 h0_0 h0_1 h0_2 h0_3 h0_4 h0_f5 h0_6 h0_7 h0_8 h0_9 h0_10 h0_11 h0_12 h0_13 h0_14 h0_f15 h0_1 h0_1_0 h0_1_f1 h0_1_f2 h0_1_f3 h0_12 h0_1 h0_12_1 h0_12_2 h0_12_3 h0_1_0 h0_1_0k h0_1_0c)) (va_A (wd_c_X11_watch h0 h0_0 h0_1 h0_2 h0_3 h0_4 h0_f5 h0_6 h0_7 h0_8 h0_9 h0_10 h0_11 h0_12 h0_13 h0_14 h0_f15 h0_1 h0_1_0 h0_1_f1 h0_1_f2 h0_1_f3 h0_12 h0_1 h0_12_1 h0_12_2 h0_12_3 h0_1_0 h0_1_0k h0_1_0c) sz)) 0 0 (va_A (wd_c_X11_watch h0 h0_0 h0_1 h0_2 h0_3 h0_4 h0_f5 h0_6 h0_7 h0_8 h0_9 h0_10 h0_11 h0_12 h0_13 h0_14 h0_f15 h0_1 h0_1_0 h0_1_f1 h0_1_f2 h0_1_f3 h0_12 h0_1 h0_12_1 h0_12_2 h0_12_3 h0_1_0 h0_1_0k h0_1_0c) sz) := by
  refine Met.ofW (cc := cX11_watch) (maxL := 2) (ret := (some .int)) (by decide) rfl ?_
  intro p e s m args below meth c s₁ B hml hv
  obtain ⟨rfl, hsz, hP, hK, hD0⟩ := hv
  have hx := B.exec
  have hb := B.bytes
  have hr := B.returns
  have hts := atoms_spec (ws := wf_c_X11_watch) B.pre
  have hown : s.vm.findClass RX11 = some m.cls := findClass_of_methodNamed B.named
  have hlocks := B.notSynchronized
  subst hsz
  have hD := hD0.self (sz := s.heap.size)
  generalize hAe : va_A (wd_c_X11_watch h0 h0_0 h0_1 h0_2 h0_3 h0_4 h0_f5 h0_6 h0_7 h0_8 h0_9 h0_10 h0_11 h0_12 h0_13 h0_14 h0_f15 h0_1 h0_1_0 h0_1_f1 h0_1_f2 h0_1_f3 h0_12 h0_1 h0_12_1 h0_12_2 h0_12_3 h0_1_0 h0_1_0k h0_1_0c) s.heap.size = A at hD ⊢
  have hA : ∀ q : Nat, s.heap.size ≤ q → A q := fun q h => by rw [← hAe]; exact Or.inr h
  have hP : va_P (dC, dI) vwCl (wd_c_X11_watch h0 h0_0 h0_1 h0_2 h0_3 h0_4 h0_f5 h0_6 h0_7 h0_8 h0_9 h0_10 h0_11 h0_12 h0_13 h0_14 h0_f15 h0_1 h0_1_0 h0_1_f1 h0_1_f2 h0_1_f3 h0_12 h0_1 h0_12_1 h0_12_2 h0_12_3 h0_1_0 h0_1_0k h0_1_0c) s.heap := hP
  have hl := lv_entry ([.ref h0, .int p1]) (n := 2) (Nat.le_of_ble_eq_true rfl)
  rw [lg_entry_eq]
  generalize (lg_sl ([.ref h0, .int p1]) ++ List.replicate (2 - (lg_sl ([.ref h0, .int p1])).length) Slot.unset).toArray = ls at hl ⊢
  have hl : lv_has ls 2 [(0, .ref h0), (1, .int p1)] := hl
  obtain ⟨H, hHe⟩ : ∃ H : Heap, s.heap = H := ⟨_, rfl⟩
  have hS : va_S A s.heap H [] := by rw [hHe]; exact va_S.rf
  have hP : va_P (dC, dI) vwCl (wd_c_X11_watch h0 h0_0 h0_1 h0_2 h0_3 h0_4 h0_f5 h0_6 h0_7 h0_8 h0_9 h0_10 h0_11 h0_12 h0_13 h0_14 h0_f15 h0_1 h0_1_0 h0_1_f1 h0_1_f2 h0_1_f3 h0_12 h0_1 h0_12_1 h0_12_2 h0_12_3 h0_1_0 h0_1_0k h0_1_0c) H := by rw [← hHe]; exact hP
  rw [hHe]
  refine lv_aload_n hx hb dX11_watch_0 rfl (lv_at hl 0 rfl) ?_
  have hPc := hP.sub (ws' := (wd_c_X11_hasBorough h0 h0_0 h0_1 h0_2 h0_3 h0_4 h0_f5 h0_6 h0_7 h0_8 h0_9 h0_10 h0_11 h0_12 h0_13 h0_14 h0_f15 h0_1 h0_1_0 h0_1_f1 h0_1_f2 h0_1_f3)) [0, 1] rfl
  have hDc := hD.sub (ws' := (wd_c_X11_hasBorough h0 h0_0 h0_1 h0_2 h0_3 h0_4 h0_f5 h0_6 h0_7 h0_8 h0_9 h0_10 h0_11 h0_12 h0_13 h0_14 h0_f15 h0_1 h0_1_0 h0_1_f1 h0_1_f2 h0_1_f3)) [0, 1] (by decide) rfl
  have hKc := hK.sub (tys' := []) [] rfl
  have hFc := va_free (wc := (wd_c_X11_hasBorough h0 h0_0 h0_1 h0_2 h0_3 h0_4 h0_f5 h0_6 h0_7 h0_8 h0_9 h0_10 h0_11 h0_12 h0_13 h0_14 h0_f15 h0_1 h0_1_0 h0_1_f1 h0_1_f2 h0_1_f3)) hD hS hA [0, 1] rfl
  refine va_calli (va_runV (As := []) (rest := []) ⟨hx, hb, hml, hown, hts⟩ (c_X11_hasBorough l dC dI H.size h0 h0_0 h0_1 h0_2 h0_3 h0_4 h0_f5 h0_6 h0_7 h0_8 h0_9 h0_10 h0_11 h0_12 h0_13 h0_14 h0_f15 h0_1_0 h0_1_f1 h0_1_f2 h0_1_f3 g_h0_f5 g_h0_1_f1 g_h0_1_f2 g_h0_1_f3) (cwV 0 hts gf_c_X11_watch_c_X11_hasBorough rfl rfl rfl (by decide +kernel) ⟨Nat.le_of_ble_eq_true rfl, Nat.le_of_ble_eq_true rfl⟩) ⟨fun a U g mk q => by obtain ⟨q0, q1, qP, qK, qD⟩ := q; exact ⟨q0, q1, qP, va_K.moved (u := U) (U := U.calling g mk a) (Vm.Alike.refl U.vm) qK, qD⟩, va_recv hKc hPc (ci := 11) (q0 := 0) rfl rfl, fun U hU hW => ⟨rfl, by rw [hU], by rw [hU]; exact hPc, va_K.moved hW.alike hKc, hDc.weaken (fun _ _ _ _ => trivial)⟩⟩ rfl rfl hl.1 rfl (lv_room (Nat.le_of_ble_eq_true rfl)) dX11_watch_1 ⟨Nat.le_of_ble_eq_true rfl, Nat.le_of_ble_eq_true rfl⟩) hS (fun q _ h => hFc q h) hFc (fun r_1 u t H1 locs ht hvm hw hB hz1 hk1 hS => ?_)
  obtain ⟨hP1, hK1, hD1⟩ := hB
  rw [ht] at hP1
  obtain ⟨hP, hD⟩ := va_join (wr := [(h0_12, .inr (1, [.ref h0_1, .ref h0_12_1, .ref h0_12_2, .ref h0_12_3])), (h0_1_0, .inl (h0_1_0k, 80, .inl h0_1_0c))]) (w1 := (wd_c_X11_hasBorough h0 h0_0 h0_1 h0_2 h0_3 h0_4 h0_f5 h0_6 h0_7 h0_8 h0_9 h0_10 h0_11 h0_12 h0_13 h0_14 h0_f15 h0_1 h0_1_0 h0_1_f1 h0_1_f2 h0_1_f3)) hP hD [0, 1] [2, 3] rfl rfl (by decide) (by decide) hk1 hFc hP1 hD1
  have hP := hP.sub (ws' := (wd_c_X11_watch h0 h0_0 h0_1 h0_2 h0_3 h0_4 h0_f5 h0_6 h0_7 h0_8 h0_9 h0_10 h0_11 h0_12 h0_13 h0_14 h0_f15 h0_1 h0_1_0 h0_1_f1 h0_1_f2 h0_1_f3 h0_12 h0_1 h0_12_1 h0_12_2 h0_12_3 h0_1_0 h0_1_0k h0_1_0c)) [2, 3, 0, 1] rfl
  have hD := hD.sub (ws' := (wd_c_X11_watch h0 h0_0 h0_1 h0_2 h0_3 h0_4 h0_f5 h0_6 h0_7 h0_8 h0_9 h0_10 h0_11 h0_12 h0_13 h0_14 h0_f15 h0_1 h0_1_0 h0_1_f1 h0_1_f2 h0_1_f3 h0_12 h0_1 h0_12_1 h0_12_2 h0_12_3 h0_1_0 h0_1_0k h0_1_0c)) [2, 3, 0, 1] (by decide) rfl
  generalize H1 = H at hP hS ⊢
  rcases hw with ⟨h_2, h_3⟩ | ⟨h_4, h_5⟩
  · rw [h_2]
    refine lv_if_eq (tgt := 28) hx hb dX11_watch_4 rfl (fun c_6 => ?_) (fun c_6 => absurd c_6 (by decide))
    refine lv_iconst (v := (-1)) hx hb dX11_watch_28 kc_iconst_m1 ?_
    have hK9 := hK.sub (tys' := []) [] rfl
    exact W.iret (v := (-1)) hx hb hr (fun t ht hW => ⟨⟨(-1), (), rfl, (Or.inl rfl), by rw [ht]; exact hP, va_K.moved hW.alike hK9, hD⟩, hS.F ht⟩) hS.2.2 dX11_watch_29
  · rw [h_4]
    refine lv_if_eq (tgt := 28) hx hb dX11_watch_4 rfl (fun c_7 => absurd c_7 (by decide)) (fun c_7 => ?_)
    refine lv_iload_n hx hb dX11_watch_7 rfl (lv_at hl 1 rfl) ?_
    refine lv_iconst (v := 0) hx hb dX11_watch_8 kc_iconst_0 ?_
    refine lv_bipush (v := 18) hx hb dX11_watch_9 kc_bipush_18 ?_
    have hPc := hP.sub (ws' := []) [] rfl
    have hDc := hD.sub (ws' := []) [] (by decide) rfl
    have hKc := hK.sub (tys' := []) [] rfl
    have hFc := va_free (wc := []) hD hS hA [] rfl
    refine va_calli (va_runS (As := [.int p1, .int 0, .int 18]) (rest := []) ⟨hx, hb, hml, hown, hts⟩ (c_X11_isWithin_6 l dC dI H.size p1) (va_cwS 3 hts gf_c_X11_watch_c_X11_isWithin_6 rfl rfl rfl (by decide +kernel) ⟨Nat.le_of_ble_eq_true rfl, Nat.le_of_ble_eq_true rfl⟩) ⟨fun a U g mk q => by obtain ⟨q0, q1, qP, qK, qD⟩ := q; exact ⟨q0, q1, qP, va_K.moved (u := U) (U := U.calling g mk a) (Vm.Alike.refl U.vm) qK, qD⟩, fun U hU hW => ⟨rfl, by rw [hU], by rw [hU]; exact hPc, va_K.moved hW.alike hKc, hDc.weaken (fun _ _ _ _ => trivial)⟩⟩ rfl rfl hl.1 rfl (lv_room (Nat.le_of_ble_eq_true rfl)) dX11_watch_11 ⟨Nat.le_of_ble_eq_true rfl, Nat.le_of_ble_eq_true rfl⟩) hS (fun q _ h => hFc q h) hFc (fun r_8 u t H1 locs ht hvm hw hB hz1 hk1 hS => ?_)
    obtain ⟨hP1, hK1, hD1⟩ := hB
    rw [ht] at hP1
    have hP := bv_still hP hk1
    generalize H1 = H at hP hS ⊢
    rcases hw with ⟨h_9, h_10⟩ | ⟨h_11, h_12⟩
    · rw [h_9]
      refine lv_if_eq (tgt := 28) hx hb dX11_watch_14 rfl (fun c_13 => ?_) (fun c_13 => absurd c_13 (by decide))
      refine lv_iconst (v := (-1)) hx hb dX11_watch_28 kc_iconst_m1 ?_
      have hK9 := hK.sub (tys' := []) [] rfl
      exact W.iret (v := (-1)) hx hb hr (fun t ht hW => ⟨⟨(-1), (), rfl, (Or.inl rfl), by rw [ht]; exact hP, va_K.moved hW.alike hK9, hD⟩, hS.F ht⟩) hS.2.2 dX11_watch_29
    · rw [h_11]
      refine lv_if_eq (tgt := 28) hx hb dX11_watch_14 rfl (fun c_14 => absurd c_14 (by decide)) (fun c_14 => ?_)
      refine lv_aload_n hx hb dX11_watch_17 rfl (lv_at hl 0 rfl) ?_
      refine va_get (D := (dC, dI)) (ci := 11) (v := .ref h0_12) (C := RX11) (T := TX11) (N := 16) hx hb hts iw_c_X11_watch_X11 hown hK hP 0 rfl rfl 12 (by decide) (hts (.fieldLink RX11 87 "BuoyVote" "charts" "LBuoyVote$Charts;") (List.mem_of_getElem? (i := 11) rfl)) (fun _ h9 => h9) rfl dX11_watch_18 ?_
      refine lv_iload_n hx hb dX11_watch_21 rfl (lv_at hl 1 rfl) ?_
      have hPc := hP.sub (ws' := (wd_c_X1_fewestWatchers h0_12 h0_1 h0_12_1 h0_12_2 h0_12_3 h0_1 h0_1_0 h0_1_f1 h0_1_f2 h0_1_f3 h0_1_0 h0_1_0k h0_1_0c)) [2, 1, 3] rfl
      have hDc := hD.sub (ws' := (wd_c_X1_fewestWatchers h0_12 h0_1 h0_12_1 h0_12_2 h0_12_3 h0_1 h0_1_0 h0_1_f1 h0_1_f2 h0_1_f3 h0_1_0 h0_1_0k h0_1_0c)) [2, 1, 3] (by decide) rfl
      have hKc := hK.sub (tys' := [(h0_1_0k, .int)]) [0] rfl
      have hFc := va_free (wc := (wd_c_X1_fewestWatchers h0_12 h0_1 h0_12_1 h0_12_2 h0_12_3 h0_1 h0_1_0 h0_1_f1 h0_1_f2 h0_1_f3 h0_1_0 h0_1_0k h0_1_0c)) hD hS hA [2, 1, 3] rfl
      refine va_calli (va_runV (As := [.int p1]) (rest := []) ⟨hx, hb, hml, hown, hts⟩ (c_X1_fewestWatchers l dC dI H.size h0_12 p1 h0_1 h0_12_1 h0_12_2 h0_12_3 h0_1_0 h0_1_f1 h0_1_f2 h0_1_f3 h0_1_0k h0_1_0c h_12 (RG_w h_5 (by decide)) g_h0_1_f2 g_h0_1_f3 a_h0_1_0c) (cwV 1 hts gf_c_X11_watch_c_X1_fewestWatchers rfl rfl rfl (by decide +kernel) ⟨Nat.le_of_ble_eq_true rfl, Nat.le_of_ble_eq_true rfl⟩) ⟨fun a U g mk q => by obtain ⟨q0, q1, qP, qK, qD⟩ := q; exact ⟨q0, q1, qP, va_K.moved (u := U) (U := U.calling g mk a) (Vm.Alike.refl U.vm) qK, qD⟩, va_recv hKc hPc (ci := 1) (q0 := 0) rfl rfl, fun U hU hW => ⟨rfl, by rw [hU], by rw [hU]; exact hPc, va_K.moved hW.alike hKc, hDc.weaken (fun _ _ _ _ => trivial)⟩⟩ rfl rfl hl.1 rfl (lv_room (Nat.le_of_ble_eq_true rfl)) dX11_watch_22 ⟨Nat.le_of_ble_eq_true rfl, Nat.le_of_ble_eq_true rfl⟩) hS (fun q _ h => hFc q h) hFc (fun r_15 u t H1 locs ht hvm hw hB hz1 hk1 hS => ?_)
      obtain ⟨hP1, hK1, hD1⟩ := hB
      rw [ht] at hP1
      obtain ⟨hP, hD⟩ := va_join (wr := [(h0, .inr (11, [.ref h0_0, .ref h0_1, .ref h0_2, .ref h0_3, .ref h0_4, .int h0_f5, .ref h0_6, .ref h0_7, .ref h0_8, .ref h0_9, .ref h0_10, .ref h0_11, .ref h0_12, .ref h0_13, .ref h0_14, .long h0_f15]))]) (w1 := (wd_c_X1_fewestWatchers h0_12 h0_1 h0_12_1 h0_12_2 h0_12_3 h0_1 h0_1_0 h0_1_f1 h0_1_f2 h0_1_f3 h0_1_0 h0_1_0k h0_1_0c)) hP hD [2, 1, 3] [0] rfl rfl (by decide) (by decide) hk1 hFc hP1 hD1
      have hP := hP.sub (ws' := (wd_c_X11_watch h0 h0_0 h0_1 h0_2 h0_3 h0_4 h0_f5 h0_6 h0_7 h0_8 h0_9 h0_10 h0_11 h0_12 h0_13 h0_14 h0_f15 h0_1 h0_1_0 h0_1_f1 h0_1_f2 h0_1_f3 h0_12 h0_1 h0_12_1 h0_12_2 h0_12_3 h0_1_0 h0_1_0k h0_1_0c)) [0, 2, 1, 3] rfl
      have hD := hD.sub (ws' := (wd_c_X11_watch h0 h0_0 h0_1 h0_2 h0_3 h0_4 h0_f5 h0_6 h0_7 h0_8 h0_9 h0_10 h0_11 h0_12 h0_13 h0_14 h0_f15 h0_1 h0_1_0 h0_1_f1 h0_1_f2 h0_1_f3 h0_12 h0_1 h0_12_1 h0_12_2 h0_12_3 h0_1_0 h0_1_0k h0_1_0c)) [0, 2, 1, 3] (by decide) rfl
      generalize H1 = H at hP hS ⊢
      have h_16 := hw
      refine lv_goto (tgt := 29) hx hb dX11_watch_25 rfl ?_
      have hK9 := hK.sub (tys' := []) [] rfl
      exact W.iret (v := r_15) hx hb hr (fun t ht hW => ⟨⟨r_15, (), rfl, (Or.inr ⟨h_16, h_5, h_12⟩), by rw [ht]; exact hP, va_K.moved hW.alike hK9, hD⟩, hS.F ht⟩) hS.2.2 dX11_watch_29
def wd_c_X7_awayOf (a0 : Nat) (a1 : Int32) (a2 : Int32) (a3 : Int32) (a4 : Int32) (a5 : Nat) (a6 : Nat) (a7 : Nat) (a8 : Nat) (a9 : Nat) (a10 : Nat) (a11 : Nat) (a12 : Nat) (a13 : Nat) (a14 : Nat) (a15 : ClassId) (a16 : Nat → Int32) (a17 : Nat) (a18 : ClassId) (a19 : Nat → Int32) : va_W := [(a0, .inr (7, [.int a1, .int a2, .int a3, .int a4, .ref a5, .ref a6, .ref a7, .ref a8, .ref a9, .ref a10, .ref a11, .ref a12, .ref a13])), (a14, .inl (a15, 3, .inl a16)), (a17, .inl (a18, 3, .inl a19))]
def wf_c_X7_awayOf : List Cond := .code yX7_awayOf cX7_awayOf 4 (some .int) :: ([.fieldLink RX7 9 "BuoyVote$Sea" "x" "[I", .methodLink RX7 99 Lib.Math.abs.name, .static Lib.Math.abs.name, .initialized "java/lang/Math", .code Lib.Math.abs.name Lib.Math.abs.code 1 (some .int), .fieldLink RX7 15 "BuoyVote$Sea" "y" "[I"] ++ wsX70)
theorem iw_c_X7_awayOf_X7 : ∀ w ∈ wsX70, w ∈ wf_c_X7_awayOf := fun w h => List.mem_cons_of_mem _ (List.mem_append_right _ h)
set_option maxHeartbeats 4000000 in
set_option maxRecDepth 100000 in
theorem c_X7_awayOf (l : Launch) (dC : Nat → ClassId) (dI : Nat → Nat → Nat) (sz : Nat) (h0 : Nat) (p1 : Int32) (p2 : Int32) (p3 : Int32) (h0_f0 : Int32) (h0_f1 : Int32) (h0_f2 : Int32) (h0_f3 : Int32) (h0_4 : Nat) (h0_5 : Nat) (h0_6 : Nat) (h0_7 : Nat) (h0_8 : Nat) (h0_9 : Nat) (h0_10 : Nat) (h0_11 : Nat) (h0_12 : Nat) (h0_4k : ClassId) (h0_4c : Nat → Int32) (h0_5k : ClassId) (h0_5c : Nat → Int32) (g_p1 : RG p1 0 2) (g_p2 : RG p2 (-1) 99) (g_p3 : RG p3 (-1) 99) : Met l yX7_awayOf wf_c_X7_awayOf ({ frames := 1, cells := 0, slots := 0, locals := 14 }) (va_Pc [.ref h0, .int p1, .int p2, .int p3] (fun U => U.heap.size = sz ∧ va_P (dC, dI) vwCl (wd_c_X7_awayOf h0 h0_f0 h0_f1 h0_f2 h0_f3 h0_4 h0_5 h0_6 h0_7 h0_8 h0_9 h0_10 h0_11 h0_12 h0_4 h0_4k h0_4c h0_5 h0_5k h0_5c) U.heap ∧ va_K (dC, dI) vwCl [(h0_4k, .int), (h0_5k, .int)] U ∧ va_D (fun _ => True) (wd_c_X7_awayOf h0 h0_f0 h0_f1 h0_f2 h0_f3 h0_4 h0_5 h0_6 h0_7 h0_8 h0_9 h0_10 h0_11 h0_12 h0_4 h0_4k h0_4c h0_5 h0_5k h0_5c))) (va_Qi (fun (r : Int32) (u : Unit) => (RG r (-2147483648) 2147483647)) (fun (u : Unit) t => va_P (dC, dI) vwCl (wd_c_X7_awayOf h0 h0_f0 h0_f1 h0_f2 h0_f3 h0_4 h0_5 h0_6 h0_7 h0_8 h0_9 h0_10 h0_11 h0_12 h0_4 h0_4k h0_4c h0_5 h0_5k h0_5c) t.heap ∧ va_K (dC, dI) vwCl [] t ∧ va_D (va_A (wd_c_X7_awayOf h0 h0_f0 h0_f1 h0_f2 h0_f3 h0_4 h0_5 h0_6 h0_7 h0_8 h0_9 h0_10 h0_11 h0_12 h0_4 h0_4k h0_4c h0_5 h0_5k h0_5c) sz) (wd_c_X7_awayOf h0 h0_f0 h0_f1 h0_f2 h0_f3 h0_4 h0_5 h0_6 h0_7 h0_8 h0_9 h0_10 h0_11 h0_12 h0_4 h0_4k h0_4c h0_5 h0_5k h0_5c)) (va_A (wd_c_X7_awayOf h0 h0_f0 h0_f1 h0_f2 h0_f3 h0_4 h0_5 h0_6 h0_7 h0_8 h0_9 h0_10 h0_11 h0_12 h0_4 h0_4k h0_4c h0_5 h0_5k h0_5c) sz)) 0 0 (va_A (wd_c_X7_awayOf h0 h0_f0 h0_f1 h0_f2 h0_f3 h0_4 h0_5 h0_6 h0_7 h0_8 h0_9 h0_10 h0_11 h0_12 h0_4 h0_4k h0_4c h0_5 h0_5k h0_5c) sz) := by
  refine Met.ofW (cc := cX7_awayOf) (maxL := 4) (ret := (some .int)) (by decide) rfl ?_
  intro p e s m args below meth c s₁ B hml hv
  obtain ⟨rfl, hsz, hP, hK, hD0⟩ := hv
  have hx := B.exec
  have hb := B.bytes
  have hr := B.returns
  have hts := atoms_spec (ws := wf_c_X7_awayOf) B.pre
  have hown : s.vm.findClass RX7 = some m.cls := findClass_of_methodNamed B.named
  have hlocks := B.notSynchronized
  subst hsz
  have hD := hD0.self (sz := s.heap.size)
  generalize hAe : va_A (wd_c_X7_awayOf h0 h0_f0 h0_f1 h0_f2 h0_f3 h0_4 h0_5 h0_6 h0_7 h0_8 h0_9 h0_10 h0_11 h0_12 h0_4 h0_4k h0_4c h0_5 h0_5k h0_5c) s.heap.size = A at hD ⊢
  have hA : ∀ q : Nat, s.heap.size ≤ q → A q := fun q h => by rw [← hAe]; exact Or.inr h
  have hP : va_P (dC, dI) vwCl (wd_c_X7_awayOf h0 h0_f0 h0_f1 h0_f2 h0_f3 h0_4 h0_5 h0_6 h0_7 h0_8 h0_9 h0_10 h0_11 h0_12 h0_4 h0_4k h0_4c h0_5 h0_5k h0_5c) s.heap := hP
  have hl := lv_entry ([.ref h0, .int p1, .int p2, .int p3]) (n := 4) (Nat.le_of_ble_eq_true rfl)
  rw [lg_entry_eq]
  generalize (lg_sl ([.ref h0, .int p1, .int p2, .int p3]) ++ List.replicate (4 - (lg_sl ([.ref h0, .int p1, .int p2, .int p3])).length) Slot.unset).toArray = ls at hl ⊢
  have hl : lv_has ls 4 [(0, .ref h0), (1, .int p1), (2, .int p2), (3, .int p3)] := hl
  obtain ⟨H, hHe⟩ : ∃ H : Heap, s.heap = H := ⟨_, rfl⟩
  have hS : va_S A s.heap H [] := by rw [hHe]; exact va_S.rf
  have hP : va_P (dC, dI) vwCl (wd_c_X7_awayOf h0 h0_f0 h0_f1 h0_f2 h0_f3 h0_4 h0_5 h0_6 h0_7 h0_8 h0_9 h0_10 h0_11 h0_12 h0_4 h0_4k h0_4c h0_5 h0_5k h0_5c) H := by rw [← hHe]; exact hP
  rw [hHe]
  refine lv_aload_n hx hb dX7_awayOf_0 rfl (lv_at hl 0 rfl) ?_
  refine va_get (D := (dC, dI)) (ci := 7) (v := .ref h0_4) (C := RX7) (T := TX7) (N := 13) hx hb hts iw_c_X7_awayOf_X7 hown hK hP 0 rfl rfl 4 (by decide) (hts (.fieldLink RX7 9 "BuoyVote$Sea" "x" "[I") (List.mem_of_getElem? (i := 1) rfl)) (fun _ h9 => h9) rfl dX7_awayOf_1 ?_
  refine lv_iload_n hx hb dX7_awayOf_4 rfl (lv_at hl 1 rfl) ?_
  refine va_iald hx hb hK hP 1 0 rfl rfl (RG_in g_p1 (by decide)) dX7_awayOf_5 ?_
  refine lv_topi (fun x_1 ex_1 => ?_)
  refine lv_iload_n hx hb dX7_awayOf_6 rfl (lv_at hl 2 rfl) ?_
  refine lv_isub hx hb dX7_awayOf_7 ?_
  refine lv_topi (fun x_2 ex_2 => ?_)
  refine va_mabs hx hb (by rw [hml]; exact hl.1.symm) hown (hts (.methodLink RX7 99 Lib.Math.abs.name) (List.mem_of_getElem? (i := 2) rfl)) (hts (.static Lib.Math.abs.name) (List.mem_of_getElem? (i := 3) rfl)) (hts (.initialized "java/lang/Math") (List.mem_of_getElem? (i := 4) rfl)) (hts (.code Lib.Math.abs.name Lib.Math.abs.code 1 (some .int)) (List.mem_of_getElem? (i := 5) rfl)) (Nat.le_of_ble_eq_true rfl) (Nat.le_of_ble_eq_true rfl) (Nat.le_of_ble_eq_true rfl) (Nat.le_of_ble_eq_true rfl) dX7_awayOf_8 ?_
  refine lv_topi (fun x_3 ex_3 => ?_)
  refine lv_aload_n hx hb dX7_awayOf_11 rfl (lv_at hl 0 rfl) ?_
  refine va_get (D := (dC, dI)) (ci := 7) (v := .ref h0_5) (C := RX7) (T := TX7) (N := 13) hx hb hts iw_c_X7_awayOf_X7 hown hK hP 0 rfl rfl 5 (by decide) (hts (.fieldLink RX7 15 "BuoyVote$Sea" "y" "[I") (List.mem_of_getElem? (i := 6) rfl)) (fun _ h9 => h9) rfl dX7_awayOf_12 ?_
  refine lv_iload_n hx hb dX7_awayOf_15 rfl (lv_at hl 1 rfl) ?_
  refine va_iald hx hb hK hP 2 1 rfl rfl (RG_in g_p1 (by decide)) dX7_awayOf_16 ?_
  refine lv_topi (fun x_4 ex_4 => ?_)
  refine lv_iload_n hx hb dX7_awayOf_17 rfl (lv_at hl 3 rfl) ?_
  refine lv_isub hx hb dX7_awayOf_18 ?_
  refine lv_topi (fun x_5 ex_5 => ?_)
  refine va_mabs hx hb (by rw [hml]; exact hl.1.symm) hown (hts (.methodLink RX7 99 Lib.Math.abs.name) (List.mem_of_getElem? (i := 2) rfl)) (hts (.static Lib.Math.abs.name) (List.mem_of_getElem? (i := 3) rfl)) (hts (.initialized "java/lang/Math") (List.mem_of_getElem? (i := 4) rfl)) (hts (.code Lib.Math.abs.name Lib.Math.abs.code 1 (some .int)) (List.mem_of_getElem? (i := 5) rfl)) (Nat.le_of_ble_eq_true rfl) (Nat.le_of_ble_eq_true rfl) (Nat.le_of_ble_eq_true rfl) (Nat.le_of_ble_eq_true rfl) dX7_awayOf_19 ?_
  refine lv_topi (fun x_6 ex_6 => ?_)
  refine lv_iadd hx hb dX7_awayOf_22 ?_
  refine lv_topi (fun x_7 ex_7 => ?_)
  have hK9 := hK.sub (tys' := []) [] rfl
  exact W.iret (v := x_7) hx hb hr (fun t ht hW => ⟨⟨x_7, (), rfl, (RG_any x_7), by rw [ht]; exact hP, va_K.moved hW.alike hK9, hD⟩, hS.F ht⟩) hS.2.2 dX7_awayOf_23
def wd_c_X11_nearest (a0 : Nat) (a1 : Nat) (a2 : Nat) (a3 : Nat) (a4 : Nat) (a5 : Nat) (a6 : Int32) (a7 : Nat) (a8 : Nat) (a9 : Nat) (a10 : Nat) (a11 : Nat) (a12 : Nat) (a13 : Nat) (a14 : Nat) (a15 : Nat) (a16 : Int64) (a17 : Nat) (a18 : Nat) (a19 : Int32) (a20 : Int32) (a21 : Int32) (a22 : Nat) (a23 : ClassId) (a24 : Nat → Int32) (a25 : Nat) (a26 : Int32) (a27 : Int32) (a28 : Int32) (a29 : Int32) (a30 : Nat) (a31 : Nat) (a32 : Nat) (a33 : Nat) (a34 : Nat) (a35 : Nat) (a36 : Nat) (a37 : Nat) (a38 : Nat) (a39 : Nat) (a40 : ClassId) (a41 : Nat → Int32) (a42 : Nat) (a43 : ClassId) (a44 : Nat → Int32) : va_W := [(a0, .inr (11, [.ref a1, .ref a2, .ref a3, .ref a4, .ref a5, .int a6, .ref a7, .ref a8, .ref a9, .ref a10, .ref a11, .ref a12, .ref a13, .ref a14, .ref a15, .long a16])), (a17, .inr (0, [.ref a18, .int a19, .int a20, .int a21])), (a22, .inl (a23, 80, .inl a24)), (a25, .inr (7, [.int a26, .int a27, .int a28, .int a29, .ref a30, .ref a31, .ref a32, .ref a33, .ref a34, .ref a35, .ref a36, .ref a37, .ref a38])), (a39, .inl (a40, 3, .inl a41)), (a42, .inl (a43, 3, .inl a44))]
def wf_c_X11_nearest : List Cond := .code yX11_nearest cX11_nearest 6 (some .int) :: ([.methodLink RX11 191 yX11_isBoat, .instanceMethod yX11_isBoat, .selects RX11 yX11_isBoat yX11_isBoat, .initialized RX11, .code yX11_isBoat cX11_isBoat 2 (some .boolean), .fieldLink RX11 19 "BuoyVote" "told" "LBuoyVote$Borough;", .fieldLink RX11 272 "BuoyVote$Borough" "boats" "I", .constant RX11 406 (1000000), .fieldLink RX11 275 "BuoyVote$Borough" "buoys" "I", .fieldLink RX11 52 "BuoyVote" "now" "LBuoyVote$Sea;", .methodLink RX11 169 yX0_buoyX, .instanceMethod yX0_buoyX, .selects RX0 yX0_buoyX yX0_buoyX, .initialized RX0, .code yX0_buoyX cX0_buoyX 2 (some .int), .fieldLink RX0 11 "BuoyVote$Borough" "values" "[I", .methodLink RX11 172 yX0_buoyY, .instanceMethod yX0_buoyY, .selects RX0 yX0_buoyY yX0_buoyY, .code yX0_buoyY cX0_buoyY 2 (some .int), .methodLink RX11 240 yX7_awayOf, .instanceMethod yX7_awayOf, .selects RX7 yX7_awayOf yX7_awayOf, .initialized RX7, .code yX7_awayOf cX7_awayOf 4 (some .int), .fieldLink RX7 9 "BuoyVote$Sea" "x" "[I", .methodLink RX7 99 Lib.Math.abs.name, .static Lib.Math.abs.name, .initialized "java/lang/Math", .code Lib.Math.abs.name Lib.Math.abs.code 1 (some .int), .fieldLink RX7 15 "BuoyVote$Sea" "y" "[I"] ++ wsX110 ++ wsX00 ++ wsX70)
theorem iw_c_X11_nearest_X11 : ∀ w ∈ wsX110, w ∈ wf_c_X11_nearest := fun w h => List.mem_cons_of_mem _ (List.mem_append_left _ (List.mem_append_left _ (List.mem_append_right _ h)))
theorem iw_c_X11_nearest_X0 : ∀ w ∈ wsX00, w ∈ wf_c_X11_nearest := fun w h => List.mem_cons_of_mem _ (List.mem_append_left _ (List.mem_append_right _ h))
theorem iw_c_X11_nearest_X7 : ∀ w ∈ wsX70, w ∈ wf_c_X11_nearest := fun w h => List.mem_cons_of_mem _ (List.mem_append_right _ h)
set_option maxRecDepth 20000 in
theorem gf_c_X11_nearest_c_X0_buoyX : GoodIn wf_c_X11_nearest (wsV RX11 169 RX0 yX0_buoyX wf_c_X0_buoyX) := goodIn_app (gi_cons (j := 11) rfl rfl (gi_cons (j := 12) rfl rfl (gi_cons (j := 13) rfl rfl (gi_cons (j := 14) rfl rfl (gi_nil))))) (gi_cons (j := 15) rfl rfl (goodIn_app (gi_cons (j := 16) rfl rfl (gi_nil)) (goodIn_sub iw_c_X11_nearest_X0 gw_X0)))
set_option maxRecDepth 20000 in
theorem gf_c_X11_nearest_c_X0_buoyY : GoodIn wf_c_X11_nearest (wsV RX11 172 RX0 yX0_buoyY wf_c_X0_buoyY) := goodIn_app (gi_cons (j := 17) rfl rfl (gi_cons (j := 18) rfl rfl (gi_cons (j := 19) rfl rfl (gi_cons (j := 14) rfl rfl (gi_nil))))) (gi_cons (j := 20) rfl rfl (goodIn_app (gi_cons (j := 16) rfl rfl (gi_nil)) (goodIn_sub iw_c_X11_nearest_X0 gw_X0)))
set_option maxRecDepth 20000 in
theorem gf_c_X11_nearest_c_X7_awayOf : GoodIn wf_c_X11_nearest (wsV RX11 240 RX7 yX7_awayOf wf_c_X7_awayOf) := goodIn_app (gi_cons (j := 21) rfl rfl (gi_cons (j := 22) rfl rfl (gi_cons (j := 23) rfl rfl (gi_cons (j := 24) rfl rfl (gi_nil))))) (gi_cons (j := 25) rfl rfl (goodIn_app (gi_cons (j := 26) rfl rfl (gi_cons (j := 27) rfl rfl (gi_cons (j := 28) rfl rfl (gi_cons (j := 29) rfl rfl (gi_cons (j := 30) rfl rfl (gi_cons (j := 31) rfl rfl (gi_nil))))))) (goodIn_sub iw_c_X11_nearest_X7 gw_X7)))
set_option maxRecDepth 20000 in
theorem gf_c_X11_nearest_c_X11_isBoat : GoodIn wf_c_X11_nearest (wsV RX11 191 RX11 yX11_isBoat wf_c_X11_isBoat) := goodIn_app (gi_cons (j := 1) rfl rfl (gi_cons (j := 2) rfl rfl (gi_cons (j := 3) rfl rfl (gi_cons (j := 4) rfl rfl (gi_nil))))) (gi_cons (j := 5) rfl rfl (goodIn_app (goodIn_app (gi_cons (j := 6) rfl rfl (gi_cons (j := 7) rfl rfl (gi_nil))) (goodIn_sub iw_c_X11_nearest_X11 gw_X11)) (goodIn_sub iw_c_X11_nearest_X0 gw_X0)))
set_option maxHeartbeats 4000000 in
set_option maxRecDepth 100000 in
theorem c_X11_nearest (l : Launch) (dC : Nat → ClassId) (dI : Nat → Nat → Nat) (sz : Nat) (h0 : Nat) (p1 : Int32) (h0_0 : Nat) (h0_1 : Nat) (h0_2 : Nat) (h0_3 : Nat) (h0_4 : Nat) (h0_f5 : Int32) (h0_6 : Nat) (h0_7 : Nat) (h0_8 : Nat) (h0_9 : Nat) (h0_10 : Nat) (h0_11 : Nat) (h0_12 : Nat) (h0_13 : Nat) (h0_14 : Nat) (h0_f15 : Int64) (h0_1_0 : Nat) (h0_1_f1 : Int32) (h0_1_f2 : Int32) (h0_1_f3 : Int32) (h0_1_0k : ClassId) (h0_1_0c : Nat → Int32) (h0_7_f0 : Int32) (h0_7_f1 : Int32) (h0_7_f2 : Int32) (h0_7_f3 : Int32) (h0_7_4 : Nat) (h0_7_5 : Nat) (h0_7_6 : Nat) (h0_7_7 : Nat) (h0_7_8 : Nat) (h0_7_9 : Nat) (h0_7_10 : Nat) (h0_7_11 : Nat) (h0_7_12 : Nat) (h0_7_4k : ClassId) (h0_7_4c : Nat → Int32) (h0_7_5k : ClassId) (h0_7_5c : Nat → Int32) (g_h0_f5 : RG h0_f5 0 4) (g_h0_1_f1 : RG h0_1_f1 0 8) (g_h0_1_f2 : RG h0_1_f2 0 3) (g_h0_1_f3 : RG h0_1_f3 0 1) (a_h0_1_0c : AI h0_1_0c (-1) 99) (g_h0_7_f2 : RG h0_7_f2 0 9999) (g_h0_7_f3 : RG h0_7_f3 0 9999) : Met l yX11_nearest wf_c_X11_nearest ({ frames := 2, cells := 0, slots := 0, locals := 37 }) (va_Pc [.ref h0, .int p1] (fun U => U.heap.size = sz ∧ va_P (dC, dI) vwCl (wd_c_X11_nearest h0 h0_0 h0_1 h0_2 h0_3 h0_4 h0_f5 h0_6 h0_7 h0_8 h0_9 h0_10 h0_11 h0_12 h0_13 h0_14 h0_f15 h0_1 h0_1_0 h0_1_f1 h0_1_f2 h0_1_f3 h0_1_0 h0_1_0k h0_1_0c h0_7 h0_7_f0 h0_7_f1 h0_7_f2 h0_7_f3 h0_7_4 h0_7_5 h0_7_6 h0_7_7 h0_7_8 h0_7_9 h0_7_10 h0_7_11 h0_7_12 h0_7_4 h0_7_4k h0_7_4c h0_7_5 h0_7_5k h0_7_5c) U.heap ∧ va_K (dC, dI) vwCl [(h0_1_0k, .int), (h0_7_4k, .int), (h0_7_5k, .int)] U ∧ va_D (fun _ => True) (wd_c_X11_nearest h0 h0_0 h0_1 h0_2 h0_3 h0_4 h0_f5 h0_6 h0_7 h0_8 h0_9 h0_10 h0_11 h0_12 h0_13 h0_14 h0_f15 h0_1 h0_1_0 h0_1_f1 h0_1_f2 h0_1_f3 h0_1_0 h0_1_0k h0_1_0c h0_7 h0_7_f0 h0_7_f1 h0_7_f2 h0_7_f3 h0_7_4 h0_7_5 h0_7_6 h0_7_7 h0_7_8 h0_7_9 h0_7_10 h0_7_11 h0_7_12 h0_7_4 h0_7_4k h0_7_4c h0_7_5 h0_7_5k h0_7_5c))) (va_Qi (fun (r : Int32) (u : Unit) => (r = (-1)) ∨ (RG r 0 7 ∧ RG h0_1_f2 1 3 ∧ RG p1 0 2)) (fun (u : Unit) t => va_P (dC, dI) vwCl (wd_c_X11_nearest h0 h0_0 h0_1 h0_2 h0_3 h0_4 h0_f5 h0_6 h0_7 h0_8 h0_9 h0_10 h0_11 h0_12 h0_13 h0_14 h0_f15 h0_1 h0_1_0 h0_1_f1 h0_1_f2 h0_1_f3 h0_1_0 h0_1_0k h0_1_0c h0_7 h0_7_f0 h0_7_f1 h0_7_f2 h0_7_f3 h0_7_4 h0_7_5 h0_7_6 h0_7_7 h0_7_8 h0_7_9 h0_7_10 h0_7_11 h0_7_12 h0_7_4 h0_7_4k h0_7_4c h0_7_5 h0_7_5k h0_7_5c) t.heap ∧ va_K (dC, dI) vwCl [] t ∧ va_D (va_A (wd_c_X11_nearest h0 h0_0 h0_1 h0_2 h0_3 h0_4 h0_f5 h0_6 h0_7 h0_8 h0_9 h0_10 h0_11 h0_12 h0_13 h0_14 h0_f15 h0_1 h0_1_0 h0_1_f1 h0_1_f2 h0_1_f3 h0_1_0 h0_1_0k h0_1_0c h0_7 h0_7_f0 h0_7_f1 h0_7_f2 h0_7_f3 h0_7_4 h0_7_5 h0_7_6 h0_7_7 h0_7_8 h0_7_9 h0_7_10 h0_7_11 h0_7_12 h0_7_4 h0_7_4k h0_7_4c h0_7_5 h0_7_5k h0_7_5c) sz) (wd_c_X11_nearest h0 h0_0 h0_1 h0_2 h0_3 h0_4 h0_f5 h0_6 h0_7 h0_8 h0_9 h0_10 h0_11 h0_12 h0_13 h0_14 h0_f15 h0_1 h0_1_0 h0_1_f1 h0_1_f2 h0_1_f3 h0_1_0 h0_1_0k h0_1_0c h0_7 h0_7_f0 h0_7_f1 h0_7_f2 h0_7_f3 h0_7_4 h0_7_5 h0_7_6 h0_7_7 h0_7_8 h0_7_9 h0_7_10 h0_7_11 h0_7_12 h0_7_4 h0_7_4k h0_7_4c h0_7_5 h0_7_5k h0_7_5c)) (va_A (wd_c_X11_nearest h0 h0_0 h0_1 h0_2 h0_3 h0_4 h0_f5 h0_6 h0_7 h0_8 h0_9 h0_10 h0_11 h0_12 h0_13 h0_14 h0_f15 h0_1 h0_1_0 h0_1_f1 h0_1_f2 h0_1_f3 h0_1_0 h0_1_0k h0_1_0c h0_7 h0_7_f0 h0_7_f1 h0_7_f2 h0_7_f3 h0_7_4 h0_7_5 h0_7_6 h0_7_7 h0_7_8 h0_7_9 h0_7_10 h0_7_11 h0_7_12 h0_7_4 h0_7_4k h0_7_4c h0_7_5 h0_7_5k h0_7_5c) sz)) 0 0 (va_A (wd_c_X11_nearest h0 h0_0 h0_1 h0_2 h0_3 h0_4 h0_f5 h0_6 h0_7 h0_8 h0_9 h0_10 h0_11 h0_12 h0_13 h0_14 h0_f15 h0_1 h0_1_0 h0_1_f1 h0_1_f2 h0_1_f3 h0_1_0 h0_1_0k h0_1_0c h0_7 h0_7_f0 h0_7_f1 h0_7_f2 h0_7_f3 h0_7_4 h0_7_5 h0_7_6 h0_7_7 h0_7_8 h0_7_9 h0_7_10 h0_7_11 h0_7_12 h0_7_4 h0_7_4k h0_7_4c h0_7_5 h0_7_5k h0_7_5c) sz) := by
  refine Met.ofW (cc := cX11_nearest) (maxL := 6) (ret := (some .int)) (by decide) rfl ?_
  intro p e s m args below meth c s₁ B hml hv
  obtain ⟨rfl, hsz, hP, hK, hD0⟩ := hv
  have hx := B.exec
  have hb := B.bytes
  have hr := B.returns
  have hts := atoms_spec (ws := wf_c_X11_nearest) B.pre
  have hown : s.vm.findClass RX11 = some m.cls := findClass_of_methodNamed B.named
  have hlocks := B.notSynchronized
  subst hsz
  have hD := hD0.self (sz := s.heap.size)
  generalize hAe : va_A (wd_c_X11_nearest h0 h0_0 h0_1 h0_2 h0_3 h0_4 h0_f5 h0_6 h0_7 h0_8 h0_9 h0_10 h0_11 h0_12 h0_13 h0_14 h0_f15 h0_1 h0_1_0 h0_1_f1 h0_1_f2 h0_1_f3 h0_1_0 h0_1_0k h0_1_0c h0_7 h0_7_f0 h0_7_f1 h0_7_f2 h0_7_f3 h0_7_4 h0_7_5 h0_7_6 h0_7_7 h0_7_8 h0_7_9 h0_7_10 h0_7_11 h0_7_12 h0_7_4 h0_7_4k h0_7_4c h0_7_5 h0_7_5k h0_7_5c) s.heap.size = A at hD ⊢
  have hA : ∀ q : Nat, s.heap.size ≤ q → A q := fun q h => by rw [← hAe]; exact Or.inr h
  have hP : va_P (dC, dI) vwCl (wd_c_X11_nearest h0 h0_0 h0_1 h0_2 h0_3 h0_4 h0_f5 h0_6 h0_7 h0_8 h0_9 h0_10 h0_11 h0_12 h0_13 h0_14 h0_f15 h0_1 h0_1_0 h0_1_f1 h0_1_f2 h0_1_f3 h0_1_0 h0_1_0k h0_1_0c h0_7 h0_7_f0 h0_7_f1 h0_7_f2 h0_7_f3 h0_7_4 h0_7_5 h0_7_6 h0_7_7 h0_7_8 h0_7_9 h0_7_10 h0_7_11 h0_7_12 h0_7_4 h0_7_4k h0_7_4c h0_7_5 h0_7_5k h0_7_5c) s.heap := hP
  have hl := lv_entry ([.ref h0, .int p1]) (n := 6) (Nat.le_of_ble_eq_true rfl)
  rw [lg_entry_eq]
  generalize (lg_sl ([.ref h0, .int p1]) ++ List.replicate (6 - (lg_sl ([.ref h0, .int p1])).length) Slot.unset).toArray = ls at hl ⊢
  have hl : lv_has ls 6 [(0, .ref h0), (1, .int p1)] := hl
  obtain ⟨H, hHe⟩ : ∃ H : Heap, s.heap = H := ⟨_, rfl⟩
  have hS : va_S A s.heap H [] := by rw [hHe]; exact va_S.rf
  have hP : va_P (dC, dI) vwCl (wd_c_X11_nearest h0 h0_0 h0_1 h0_2 h0_3 h0_4 h0_f5 h0_6 h0_7 h0_8 h0_9 h0_10 h0_11 h0_12 h0_13 h0_14 h0_f15 h0_1 h0_1_0 h0_1_f1 h0_1_f2 h0_1_f3 h0_1_0 h0_1_0k h0_1_0c h0_7 h0_7_f0 h0_7_f1 h0_7_f2 h0_7_f3 h0_7_4 h0_7_5 h0_7_6 h0_7_7 h0_7_8 h0_7_9 h0_7_10 h0_7_11 h0_7_12 h0_7_4 h0_7_4k h0_7_4c h0_7_5 h0_7_5k h0_7_5c) H := by rw [← hHe]; exact hP
  rw [hHe]
  refine wj (fun G hG hU => ?_)
  have J19 : ∀ (n19 : Nat) (j19_l4 : Int32) (j19_l3 : Int32) (j19_l2 : Int32) (hM19 : MU j19_l4 < n19) (g_h0_1_f1 : RG h0_1_f1 0 8) (g_h0_1_f2 : RG h0_1_f2 1 3) (g_h0_1_f3 : RG h0_1_f3 0 1) (g_h0_7_f2 : RG h0_7_f2 0 9999) (g_h0_7_f3 : RG h0_7_f3 0 9999) (g_h0_f5 : RG h0_f5 0 4) (g_j19_l2 : RG j19_l2 0 7) (g_j19_l3 : RG j19_l3 (-2147483648) 1000000) (g_j19_l4 : RG j19_l4 0 8) (g_p1 : RG p1 0 2) (H : Heap) (locs : List Loc) (ls : Array Slot) (hP : va_P (dC, dI) vwCl (wd_c_X11_nearest h0 h0_0 h0_1 h0_2 h0_3 h0_4 h0_f5 h0_6 h0_7 h0_8 h0_9 h0_10 h0_11 h0_12 h0_13 h0_14 h0_f15 h0_1 h0_1_0 h0_1_f1 h0_1_f2 h0_1_f3 h0_1_0 h0_1_0k h0_1_0c h0_7 h0_7_f0 h0_7_f1 h0_7_f2 h0_7_f3 h0_7_4 h0_7_5 h0_7_6 h0_7_7 h0_7_8 h0_7_9 h0_7_10 h0_7_11 h0_7_12 h0_7_4 h0_7_4k h0_7_4c h0_7_5 h0_7_5k h0_7_5c) H) (hD : va_D A (wd_c_X11_nearest h0 h0_0 h0_1 h0_2 h0_3 h0_4 h0_f5 h0_6 h0_7 h0_8 h0_9 h0_10 h0_11 h0_12 h0_13 h0_14 h0_f15 h0_1 h0_1_0 h0_1_f1 h0_1_f2 h0_1_f3 h0_1_0 h0_1_0k h0_1_0c h0_7 h0_7_f0 h0_7_f1 h0_7_f2 h0_7_f3 h0_7_4 h0_7_5 h0_7_6 h0_7_7 h0_7_8 h0_7_9 h0_7_10 h0_7_11 h0_7_12 h0_7_4 h0_7_4k h0_7_4c h0_7_5 h0_7_5k h0_7_5c)) (hS : va_S A s.heap H locs) (hl : lv_has ls 6 [(4, .int j19_l4), (3, .int j19_l3), (2, .int j19_l2), (0, .ref h0), (1, .int p1)]), G H locs (F0 m 19 ls []) := by
    intro n19
    induction n19 with
    | zero => intros; exact absurd (by assumption) (Nat.not_lt_zero _)
    | succ n19 ih19 =>
      intro j19_l4 j19_l3 j19_l2 hM19 g_h0_1_f1 g_h0_1_f2 g_h0_1_f3 g_h0_7_f2 g_h0_7_f3 g_h0_f5 g_j19_l2 g_j19_l3 g_j19_l4 g_p1 H locs ls hP hD hS hl
      have J71 : ∀ (j71_l3 : Int32) (j71_l2 : Int32) (g_h0_1_f1 : RG h0_1_f1 1 8) (g_h0_1_f2 : RG h0_1_f2 1 3) (g_h0_1_f3 : RG h0_1_f3 0 1) (g_h0_7_f2 : RG h0_7_f2 0 9999) (g_h0_7_f3 : RG h0_7_f3 0 9999) (g_h0_f5 : RG h0_f5 0 4) (g_j19_l2 : RG j19_l2 0 7) (g_j19_l3 : RG j19_l3 (-2147483648) 1000000) (g_j19_l4 : RG j19_l4 0 7) (g_j71_l2 : RG j71_l2 0 7) (g_j71_l3 : RG j71_l3 (-2147483648) 1000000) (g_p1 : RG p1 0 2) (H : Heap) (locs : List Loc) (ls : Array Slot) (hP : va_P (dC, dI) vwCl (wd_c_X11_nearest h0 h0_0 h0_1 h0_2 h0_3 h0_4 h0_f5 h0_6 h0_7 h0_8 h0_9 h0_10 h0_11 h0_12 h0_13 h0_14 h0_f15 h0_1 h0_1_0 h0_1_f1 h0_1_f2 h0_1_f3 h0_1_0 h0_1_0k h0_1_0c h0_7 h0_7_f0 h0_7_f1 h0_7_f2 h0_7_f3 h0_7_4 h0_7_5 h0_7_6 h0_7_7 h0_7_8 h0_7_9 h0_7_10 h0_7_11 h0_7_12 h0_7_4 h0_7_4k h0_7_4c h0_7_5 h0_7_5k h0_7_5c) H) (hD : va_D A (wd_c_X11_nearest h0 h0_0 h0_1 h0_2 h0_3 h0_4 h0_f5 h0_6 h0_7 h0_8 h0_9 h0_10 h0_11 h0_12 h0_13 h0_14 h0_f15 h0_1 h0_1_0 h0_1_f1 h0_1_f2 h0_1_f3 h0_1_0 h0_1_0k h0_1_0c h0_7 h0_7_f0 h0_7_f1 h0_7_f2 h0_7_f3 h0_7_4 h0_7_5 h0_7_6 h0_7_7 h0_7_8 h0_7_9 h0_7_10 h0_7_11 h0_7_12 h0_7_4 h0_7_4k h0_7_4c h0_7_5 h0_7_5k h0_7_5c)) (hS : va_S A s.heap H locs) (hl : lv_has ls 6 [(4, .int j19_l4), (3, .int j71_l3), (2, .int j71_l2), (0, .ref h0), (1, .int p1)]), G H locs (F0 m 71 ls []) := by
        intro j71_l3 j71_l2 g_h0_1_f1 g_h0_1_f2 g_h0_1_f3 g_h0_7_f2 g_h0_7_f3 g_h0_f5 g_j19_l2 g_j19_l3 g_j19_l4 g_j71_l2 g_j71_l3 g_p1 H locs ls hP hD hS hl
        refine hG _ _ _ ?_
        obtain ⟨x_1, ex_1⟩ : ∃ y : Int32, y = j19_l4 + 1 := ⟨_, rfl⟩
        have g_2 : RG x_1 1 8 := RG_add ex_1 g_j19_l4 (RG_k 1 1 rfl) (by decide)
        refine lv_iinc (v := x_1) (lv' := [(4, .int x_1), (3, .int j71_l3), (2, .int j71_l2), (0, .ref h0), (1, .int p1)]) hx hb dX11_nearest_71 hl (k := 0) rfl (by rw [ex_1]; rfl) (Nat.le_of_ble_eq_true rfl) rfl (fun ls hl => ?_)
        refine lv_goto (tgt := 19) hx hb dX11_nearest_74 rfl ?_
        exact hU _ _ _ (ih19 x_1 j71_l3 j71_l2 (mu_s (MU_add ex_1 g_j19_l4 (q := 1) rfl (by decide)) hM19) (RG_w g_h0_1_f1 (by decide)) g_h0_1_f2 g_h0_1_f3 g_h0_7_f2 g_h0_7_f3 g_h0_f5 g_j71_l2 g_j71_l3 (RG_w g_2 (by decide)) g_p1 _ _ _ hP hD hS (lv_sub hl [0, 1, 2, 3, 4] rfl))
      refine hG _ _ _ ?_
      refine lv_iload hx hb dX11_nearest_19 (lv_at hl 0 rfl) ?_
      refine lv_aload_n hx hb dX11_nearest_21 rfl (lv_at hl 3 rfl) ?_
      refine va_get (D := (dC, dI)) (ci := 11) (v := .ref h0_1) (C := RX11) (T := TX11) (N := 16) hx hb hts iw_c_X11_nearest_X11 hown hK hP 0 rfl rfl 1 (by decide) (hts (.fieldLink RX11 19 "BuoyVote" "told" "LBuoyVote$Borough;") (List.mem_of_getElem? (i := 6) rfl)) (fun _ h9 => h9) rfl dX11_nearest_22 ?_
      refine va_get (D := (dC, dI)) (ci := 0) (v := .int h0_1_f1) (C := RX0) (T := TX0) (N := 4) hx hb hts iw_c_X11_nearest_X0 hown hK hP 1 rfl rfl 1 (by decide) (hts (.fieldLink RX11 275 "BuoyVote$Borough" "buoys" "I") (List.mem_of_getElem? (i := 9) rfl)) (fun _ h9 => h9) rfl dX11_nearest_25 ?_
      refine lv_icmp_ge (tgt := 77) hx hb dX11_nearest_28 rfl (fun c_3 => ?_) (fun c_3 => ?_)
      · refine lv_iload_n hx hb dX11_nearest_77 rfl (lv_at hl 2 rfl) ?_
        have hK9 := hK.sub (tys' := []) [] rfl
        exact W.iret (v := j19_l2) hx hb hr (fun t ht hW => ⟨⟨j19_l2, (), rfl, (Or.inr ⟨g_j19_l2, g_h0_1_f2, g_p1⟩), by rw [ht]; exact hP, va_K.moved hW.alike hK9, hD⟩, hS.F ht⟩) hS.2.2 dX11_nearest_78
      · have d_4 := Int32.not_le.mp c_3
        have g_5 : RG j19_l4 0 7 := RG_lt1 g_j19_l4 g_h0_1_f1 d_4 (by decide)
        have g_6 : RG h0_1_f1 1 8 := RG_lt2 g_j19_l4 g_h0_1_f1 d_4 (by decide)
        refine lv_aload_n hx hb dX11_nearest_31 rfl (lv_at hl 3 rfl) ?_
        refine va_get (D := (dC, dI)) (ci := 11) (v := .ref h0_7) (C := RX11) (T := TX11) (N := 16) hx hb hts iw_c_X11_nearest_X11 hown hK hP 0 rfl rfl 7 (by decide) (hts (.fieldLink RX11 52 "BuoyVote" "now" "LBuoyVote$Sea;") (List.mem_of_getElem? (i := 10) rfl)) (fun _ h9 => h9) rfl dX11_nearest_32 ?_
        refine lv_iload_n hx hb dX11_nearest_35 rfl (lv_at hl 4 rfl) ?_
        refine lv_aload_n hx hb dX11_nearest_36 rfl (lv_at hl 3 rfl) ?_
        refine va_get (D := (dC, dI)) (ci := 11) (v := .ref h0_1) (C := RX11) (T := TX11) (N := 16) hx hb hts iw_c_X11_nearest_X11 hown hK hP 0 rfl rfl 1 (by decide) (hts (.fieldLink RX11 19 "BuoyVote" "told" "LBuoyVote$Borough;") (List.mem_of_getElem? (i := 6) rfl)) (fun _ h9 => h9) rfl dX11_nearest_37 ?_
        refine lv_iload hx hb dX11_nearest_40 (lv_at hl 0 rfl) ?_
        have hPc := hP.sub (ws' := (wd_c_X0_buoyX h0_1 h0_1_0 h0_1_f1 h0_1_f2 h0_1_f3 h0_1_0 h0_1_0k h0_1_0c)) [1, 2] rfl
        have hDc := hD.sub (ws' := (wd_c_X0_buoyX h0_1 h0_1_0 h0_1_f1 h0_1_f2 h0_1_f3 h0_1_0 h0_1_0k h0_1_0c)) [1, 2] (by decide) rfl
        have hKc := hK.sub (tys' := [(h0_1_0k, .int)]) [0] rfl
        have hFc := va_free (wc := (wd_c_X0_buoyX h0_1 h0_1_0 h0_1_f1 h0_1_f2 h0_1_f3 h0_1_0 h0_1_0k h0_1_0c)) hD hS hA [1, 2] rfl
        refine va_calli (va_runV (As := [.int j19_l4]) (rest := [.int p1, .ref h0_7]) ⟨hx, hb, hml, hown, hts⟩ (c_X0_buoyX l dC dI H.size h0_1 j19_l4 h0_1_0 h0_1_f1 h0_1_f2 h0_1_f3 h0_1_0k h0_1_0c g_5 (RG_w g_6 (by decide)) (RG_w g_h0_1_f2 (by decide)) g_h0_1_f3 a_h0_1_0c) (cwV 1 hts gf_c_X11_nearest_c_X0_buoyX rfl rfl rfl (by decide +kernel) ⟨Nat.le_of_ble_eq_true rfl, Nat.le_of_ble_eq_true rfl⟩) ⟨fun a U g mk q => by obtain ⟨q0, q1, qP, qK, qD⟩ := q; exact ⟨q0, q1, qP, va_K.moved (u := U) (U := U.calling g mk a) (Vm.Alike.refl U.vm) qK, qD⟩, va_recv hKc hPc (ci := 0) (q0 := 0) rfl rfl, fun U hU hW => ⟨rfl, by rw [hU], by rw [hU]; exact hPc, va_K.moved hW.alike hKc, hDc.weaken (fun _ _ _ _ => trivial)⟩⟩ rfl rfl hl.1 rfl (lv_room (Nat.le_of_ble_eq_true rfl)) dX11_nearest_42 ⟨Nat.le_of_ble_eq_true rfl, Nat.le_of_ble_eq_true rfl⟩) hS (fun q _ h => hFc q h) hFc (fun r_7 u t H1 locs ht hvm hw hB hz1 hk1 hS => ?_)
        obtain ⟨hP1, hK1, hD1⟩ := hB
        rw [ht] at hP1
        obtain ⟨hP, hD⟩ := va_join (wr := [(h0, .inr (11, [.ref h0_0, .ref h0_1, .ref h0_2, .ref h0_3, .ref h0_4, .int h0_f5, .ref h0_6, .ref h0_7, .ref h0_8, .ref h0_9, .ref h0_10, .ref h0_11, .ref h0_12, .ref h0_13, .ref h0_14, .long h0_f15])), (h0_7, .inr (7, [.int h0_7_f0, .int h0_7_f1, .int h0_7_f2, .int h0_7_f3, .ref h0_7_4, .ref h0_7_5, .ref h0_7_6, .ref h0_7_7, .ref h0_7_8, .ref h0_7_9, .ref h0_7_10, .ref h0_7_11, .ref h0_7_12])), (h0_7_4, .inl (h0_7_4k, 3, .inl h0_7_4c)), (h0_7_5, .inl (h0_7_5k, 3, .inl h0_7_5c))]) (w1 := (wd_c_X0_buoyX h0_1 h0_1_0 h0_1_f1 h0_1_f2 h0_1_f3 h0_1_0 h0_1_0k h0_1_0c)) hP hD [1, 2] [0, 3, 4, 5] rfl rfl (by decide) (by decide) hk1 hFc hP1 hD1
        have hP := hP.sub (ws' := (wd_c_X11_nearest h0 h0_0 h0_1 h0_2 h0_3 h0_4 h0_f5 h0_6 h0_7 h0_8 h0_9 h0_10 h0_11 h0_12 h0_13 h0_14 h0_f15 h0_1 h0_1_0 h0_1_f1 h0_1_f2 h0_1_f3 h0_1_0 h0_1_0k h0_1_0c h0_7 h0_7_f0 h0_7_f1 h0_7_f2 h0_7_f3 h0_7_4 h0_7_5 h0_7_6 h0_7_7 h0_7_8 h0_7_9 h0_7_10 h0_7_11 h0_7_12 h0_7_4 h0_7_4k h0_7_4c h0_7_5 h0_7_5k h0_7_5c)) [0, 4, 5, 1, 2, 3] rfl
        have hD := hD.sub (ws' := (wd_c_X11_nearest h0 h0_0 h0_1 h0_2 h0_3 h0_4 h0_f5 h0_6 h0_7 h0_8 h0_9 h0_10 h0_11 h0_12 h0_13 h0_14 h0_f15 h0_1 h0_1_0 h0_1_f1 h0_1_f2 h0_1_f3 h0_1_0 h0_1_0k h0_1_0c h0_7 h0_7_f0 h0_7_f1 h0_7_f2 h0_7_f3 h0_7_4 h0_7_5 h0_7_6 h0_7_7 h0_7_8 h0_7_9 h0_7_10 h0_7_11 h0_7_12 h0_7_4 h0_7_4k h0_7_4c h0_7_5 h0_7_5k h0_7_5c)) [0, 4, 5, 1, 2, 3] (by decide) rfl
        generalize H1 = H at hP hS ⊢
        have h_8 := hw
        refine lv_aload_n hx hb dX11_nearest_45 rfl (lv_at hl 3 rfl) ?_
        refine va_get (D := (dC, dI)) (ci := 11) (v := .ref h0_1) (C := RX11) (T := TX11) (N := 16) hx hb hts iw_c_X11_nearest_X11 hown hK hP 0 rfl rfl 1 (by decide) (hts (.fieldLink RX11 19 "BuoyVote" "told" "LBuoyVote$Borough;") (List.mem_of_getElem? (i := 6) rfl)) (fun _ h9 => h9) rfl dX11_nearest_46 ?_
        refine lv_iload hx hb dX11_nearest_49 (lv_at hl 0 rfl) ?_
        have hPc := hP.sub (ws' := (wd_c_X0_buoyY h0_1 h0_1_0 h0_1_f1 h0_1_f2 h0_1_f3 h0_1_0 h0_1_0k h0_1_0c)) [1, 2] rfl
        have hDc := hD.sub (ws' := (wd_c_X0_buoyY h0_1 h0_1_0 h0_1_f1 h0_1_f2 h0_1_f3 h0_1_0 h0_1_0k h0_1_0c)) [1, 2] (by decide) rfl
        have hKc := hK.sub (tys' := [(h0_1_0k, .int)]) [0] rfl
        have hFc := va_free (wc := (wd_c_X0_buoyY h0_1 h0_1_0 h0_1_f1 h0_1_f2 h0_1_f3 h0_1_0 h0_1_0k h0_1_0c)) hD hS hA [1, 2] rfl
        refine va_calli (va_runV (As := [.int j19_l4]) (rest := [.int r_7, .int p1, .ref h0_7]) ⟨hx, hb, hml, hown, hts⟩ (c_X0_buoyY l dC dI H.size h0_1 j19_l4 h0_1_0 h0_1_f1 h0_1_f2 h0_1_f3 h0_1_0k h0_1_0c g_5 (RG_w g_6 (by decide)) (RG_w g_h0_1_f2 (by decide)) g_h0_1_f3 a_h0_1_0c) (cwV 1 hts gf_c_X11_nearest_c_X0_buoyY rfl rfl rfl (by decide +kernel) ⟨Nat.le_of_ble_eq_true rfl, Nat.le_of_ble_eq_true rfl⟩) ⟨fun a U g mk q => by obtain ⟨q0, q1, qP, qK, qD⟩ := q; exact ⟨q0, q1, qP, va_K.moved (u := U) (U := U.calling g mk a) (Vm.Alike.refl U.vm) qK, qD⟩, va_recv hKc hPc (ci := 0) (q0 := 0) rfl rfl, fun U hU hW => ⟨rfl, by rw [hU], by rw [hU]; exact hPc, va_K.moved hW.alike hKc, hDc.weaken (fun _ _ _ _ => trivial)⟩⟩ rfl rfl hl.1 rfl (lv_room (Nat.le_of_ble_eq_true rfl)) dX11_nearest_51 ⟨Nat.le_of_ble_eq_true rfl, Nat.le_of_ble_eq_true rfl⟩) hS (fun q _ h => hFc q h) hFc (fun r_9 u t H1 locs ht hvm hw hB hz1 hk1 hS => ?_)
        obtain ⟨hP1, hK1, hD1⟩ := hB
        rw [ht] at hP1
        obtain ⟨hP, hD⟩ := va_join (wr := [(h0, .inr (11, [.ref h0_0, .ref h0_1, .ref h0_2, .ref h0_3, .ref h0_4, .int h0_f5, .ref h0_6, .ref h0_7, .ref h0_8, .ref h0_9, .ref h0_10, .ref h0_11, .ref h0_12, .ref h0_13, .ref h0_14, .long h0_f15])), (h0_7, .inr (7, [.int h0_7_f0, .int h0_7_f1, .int h0_7_f2, .int h0_7_f3, .ref h0_7_4, .ref h0_7_5, .ref h0_7_6, .ref h0_7_7, .ref h0_7_8, .ref h0_7_9, .ref h0_7_10, .ref h0_7_11, .ref h0_7_12])), (h0_7_4, .inl (h0_7_4k, 3, .inl h0_7_4c)), (h0_7_5, .inl (h0_7_5k, 3, .inl h0_7_5c))]) (w1 := (wd_c_X0_buoyY h0_1 h0_1_0 h0_1_f1 h0_1_f2 h0_1_f3 h0_1_0 h0_1_0k h0_1_0c)) hP hD [1, 2] [0, 3, 4, 5] rfl rfl (by decide) (by decide) hk1 hFc hP1 hD1
        have hP := hP.sub (ws' := (wd_c_X11_nearest h0 h0_0 h0_1 h0_2 h0_3 h0_4 h0_f5 h0_6 h0_7 h0_8 h0_9 h0_10 h0_11 h0_12 h0_13 h0_14 h0_f15 h0_1 h0_1_0 h0_1_f1 h0_1_f2 h0_1_f3 h0_1_0 h0_1_0k h0_1_0c h0_7 h0_7_f0 h0_7_f1 h0_7_f2 h0_7_f3 h0_7_4 h0_7_5 h0_7_6 h0_7_7 h0_7_8 h0_7_9 h0_7_10 h0_7_11 h0_7_12 h0_7_4 h0_7_4k h0_7_4c h0_7_5 h0_7_5k h0_7_5c)) [0, 4, 5, 1, 2, 3] rfl
        have hD := hD.sub (ws' := (wd_c_X11_nearest h0 h0_0 h0_1 h0_2 h0_3 h0_4 h0_f5 h0_6 h0_7 h0_8 h0_9 h0_10 h0_11 h0_12 h0_13 h0_14 h0_f15 h0_1 h0_1_0 h0_1_f1 h0_1_f2 h0_1_f3 h0_1_0 h0_1_0k h0_1_0c h0_7 h0_7_f0 h0_7_f1 h0_7_f2 h0_7_f3 h0_7_4 h0_7_5 h0_7_6 h0_7_7 h0_7_8 h0_7_9 h0_7_10 h0_7_11 h0_7_12 h0_7_4 h0_7_4k h0_7_4c h0_7_5 h0_7_5k h0_7_5c)) [0, 4, 5, 1, 2, 3] (by decide) rfl
        generalize H1 = H at hP hS ⊢
        have h_10 := hw
        have hPc := hP.sub (ws' := (wd_c_X7_awayOf h0_7 h0_7_f0 h0_7_f1 h0_7_f2 h0_7_f3 h0_7_4 h0_7_5 h0_7_6 h0_7_7 h0_7_8 h0_7_9 h0_7_10 h0_7_11 h0_7_12 h0_7_4 h0_7_4k h0_7_4c h0_7_5 h0_7_5k h0_7_5c)) [3, 4, 5] rfl
        have hDc := hD.sub (ws' := (wd_c_X7_awayOf h0_7 h0_7_f0 h0_7_f1 h0_7_f2 h0_7_f3 h0_7_4 h0_7_5 h0_7_6 h0_7_7 h0_7_8 h0_7_9 h0_7_10 h0_7_11 h0_7_12 h0_7_4 h0_7_4k h0_7_4c h0_7_5 h0_7_5k h0_7_5c)) [3, 4, 5] (by decide) rfl
        have hKc := hK.sub (tys' := [(h0_7_4k, .int), (h0_7_5k, .int)]) [1, 2] rfl
        have hFc := va_free (wc := (wd_c_X7_awayOf h0_7 h0_7_f0 h0_7_f1 h0_7_f2 h0_7_f3 h0_7_4 h0_7_5 h0_7_6 h0_7_7 h0_7_8 h0_7_9 h0_7_10 h0_7_11 h0_7_12 h0_7_4 h0_7_4k h0_7_4c h0_7_5 h0_7_5k h0_7_5c)) hD hS hA [3, 4, 5] rfl
        refine va_calli (va_runV (As := [.int p1, .int r_7, .int r_9]) (rest := []) ⟨hx, hb, hml, hown, hts⟩ (c_X7_awayOf l dC dI H.size h0_7 p1 r_7 r_9 h0_7_f0 h0_7_f1 h0_7_f2 h0_7_f3 h0_7_4 h0_7_5 h0_7_6 h0_7_7 h0_7_8 h0_7_9 h0_7_10 h0_7_11 h0_7_12 h0_7_4k h0_7_4c h0_7_5k h0_7_5c g_p1 h_8 h_10) (cwV 3 hts gf_c_X11_nearest_c_X7_awayOf rfl rfl rfl (by decide +kernel) ⟨Nat.le_of_ble_eq_true rfl, Nat.le_of_ble_eq_true rfl⟩) ⟨fun a U g mk q => by obtain ⟨q0, q1, qP, qK, qD⟩ := q; exact ⟨q0, q1, qP, va_K.moved (u := U) (U := U.calling g mk a) (Vm.Alike.refl U.vm) qK, qD⟩, va_recv hKc hPc (ci := 7) (q0 := 0) rfl rfl, fun U hU hW => ⟨rfl, by rw [hU], by rw [hU]; exact hPc, va_K.moved hW.alike hKc, hDc.weaken (fun _ _ _ _ => trivial)⟩⟩ rfl rfl hl.1 rfl (lv_room (Nat.le_of_ble_eq_true rfl)) dX11_nearest_54 ⟨Nat.le_of_ble_eq_true rfl, Nat.le_of_ble_eq_true rfl⟩) hS (fun q _ h => hFc q h) hFc (fun r_11 u t H1 locs ht hvm hw hB hz1 hk1 hS => ?_)
        obtain ⟨hP1, hK1, hD1⟩ := hB
        rw [ht] at hP1
        obtain ⟨hP, hD⟩ := va_join (wr := [(h0, .inr (11, [.ref h0_0, .ref h0_1, .ref h0_2, .ref h0_3, .ref h0_4, .int h0_f5, .ref h0_6, .ref h0_7, .ref h0_8, .ref h0_9, .ref h0_10, .ref h0_11, .ref h0_12, .ref h0_13, .ref h0_14, .long h0_f15])), (h0_1, .inr (0, [.ref h0_1_0, .int h0_1_f1, .int h0_1_f2, .int h0_1_f3])), (h0_1_0, .inl (h0_1_0k, 80, .inl h0_1_0c))]) (w1 := (wd_c_X7_awayOf h0_7 h0_7_f0 h0_7_f1 h0_7_f2 h0_7_f3 h0_7_4 h0_7_5 h0_7_6 h0_7_7 h0_7_8 h0_7_9 h0_7_10 h0_7_11 h0_7_12 h0_7_4 h0_7_4k h0_7_4c h0_7_5 h0_7_5k h0_7_5c)) hP hD [3, 4, 5] [0, 1, 2] rfl rfl (by decide) (by decide) hk1 hFc hP1 hD1
        have hP := hP.sub (ws' := (wd_c_X11_nearest h0 h0_0 h0_1 h0_2 h0_3 h0_4 h0_f5 h0_6 h0_7 h0_8 h0_9 h0_10 h0_11 h0_12 h0_13 h0_14 h0_f15 h0_1 h0_1_0 h0_1_f1 h0_1_f2 h0_1_f3 h0_1_0 h0_1_0k h0_1_0c h0_7 h0_7_f0 h0_7_f1 h0_7_f2 h0_7_f3 h0_7_4 h0_7_5 h0_7_6 h0_7_7 h0_7_8 h0_7_9 h0_7_10 h0_7_11 h0_7_12 h0_7_4 h0_7_4k h0_7_4c h0_7_5 h0_7_5k h0_7_5c)) [0, 1, 2, 3, 4, 5] rfl
        have hD := hD.sub (ws' := (wd_c_X11_nearest h0 h0_0 h0_1 h0_2 h0_3 h0_4 h0_f5 h0_6 h0_7 h0_8 h0_9 h0_10 h0_11 h0_12 h0_13 h0_14 h0_f15 h0_1 h0_1_0 h0_1_f1 h0_1_f2 h0_1_f3 h0_1_0 h0_1_0k h0_1_0c h0_7 h0_7_f0 h0_7_f1 h0_7_f2 h0_7_f3 h0_7_4 h0_7_5 h0_7_6 h0_7_7 h0_7_8 h0_7_9 h0_7_10 h0_7_11 h0_7_12 h0_7_4 h0_7_4k h0_7_4c h0_7_5 h0_7_5k h0_7_5c)) [0, 1, 2, 3, 4, 5] (by decide) rfl
        generalize H1 = H at hP hS ⊢
        have h_12 := hw
        refine lv_istore (lv' := [(5, .int r_11), (4, .int j19_l4), (3, .int j19_l3), (2, .int j19_l2), (0, .ref h0), (1, .int p1)]) hx hb dX11_nearest_57 hl (Nat.le_of_ble_eq_true rfl) rfl (fun ls hl => ?_)
        refine lv_iload hx hb dX11_nearest_59 (lv_at hl 0 rfl) ?_
        refine lv_iload_n hx hb dX11_nearest_61 rfl (lv_at hl 2 rfl) ?_
        refine lv_icmp_ge (tgt := 71) hx hb dX11_nearest_62 rfl (fun c_13 => ?_) (fun c_13 => ?_)
        · exact hU _ _ _ (J71 j19_l3 j19_l2 g_6 g_h0_1_f2 g_h0_1_f3 g_h0_7_f2 g_h0_7_f3 g_h0_f5 g_j19_l2 g_j19_l3 g_5 g_j19_l2 g_j19_l3 g_p1 _ _ _ hP hD hS (lv_sub hl [1, 2, 3, 4, 5] rfl))
        · have d_14 := Int32.not_le.mp c_13
          have g_15 : RG r_11 (-2147483648) 999999 := RG_lt1 h_12 g_j19_l3 d_14 (by decide)
          have g_16 : RG j19_l3 (-2147483647) 1000000 := RG_lt2 h_12 g_j19_l3 d_14 (by decide)
          refine lv_iload hx hb dX11_nearest_65 (lv_at hl 0 rfl) ?_
          refine lv_istore_n (lv' := [(3, .int r_11), (5, .int r_11), (4, .int j19_l4), (2, .int j19_l2), (0, .ref h0), (1, .int p1)]) hx hb dX11_nearest_67 rfl hl (Nat.le_of_ble_eq_true rfl) rfl (fun ls hl => ?_)
          refine lv_iload hx hb dX11_nearest_68 (lv_at hl 2 rfl) ?_
          refine lv_istore_n (lv' := [(2, .int j19_l4), (3, .int r_11), (5, .int r_11), (4, .int j19_l4), (0, .ref h0), (1, .int p1)]) hx hb dX11_nearest_70 rfl hl (Nat.le_of_ble_eq_true rfl) rfl (fun ls hl => ?_)
          exact hU _ _ _ (J71 r_11 j19_l4 g_6 g_h0_1_f2 g_h0_1_f3 g_h0_7_f2 g_h0_7_f3 g_h0_f5 g_j19_l2 (RG_w g_16 (by decide)) g_5 g_5 (RG_w g_15 (by decide)) g_p1 _ _ _ hP hD hS (lv_sub hl [3, 1, 0, 4, 5] rfl))
  refine hG _ _ _ ?_
  refine lv_aload_n hx hb dX11_nearest_0 rfl (lv_at hl 0 rfl) ?_
  refine lv_iload_n hx hb dX11_nearest_1 rfl (lv_at hl 1 rfl) ?_
  have hPc := hP.sub (ws' := (wd_c_X11_isBoat h0 h0_0 h0_1 h0_2 h0_3 h0_4 h0_f5 h0_6 h0_7 h0_8 h0_9 h0_10 h0_11 h0_12 h0_13 h0_14 h0_f15 h0_1 h0_1_0 h0_1_f1 h0_1_f2 h0_1_f3)) [0, 1] rfl
  have hDc := hD.sub (ws' := (wd_c_X11_isBoat h0 h0_0 h0_1 h0_2 h0_3 h0_4 h0_f5 h0_6 h0_7 h0_8 h0_9 h0_10 h0_11 h0_12 h0_13 h0_14 h0_f15 h0_1 h0_1_0 h0_1_f1 h0_1_f2 h0_1_f3)) [0, 1] (by decide) rfl
  have hKc := hK.sub (tys' := []) [] rfl
  have hFc := va_free (wc := (wd_c_X11_isBoat h0 h0_0 h0_1 h0_2 h0_3 h0_4 h0_f5 h0_6 h0_7 h0_8 h0_9 h0_10 h0_11 h0_12 h0_13 h0_14 h0_f15 h0_1 h0_1_0 h0_1_f1 h0_1_f2 h0_1_f3)) hD hS hA [0, 1] rfl
  refine va_calli (va_runV (As := [.int p1]) (rest := []) ⟨hx, hb, hml, hown, hts⟩ (c_X11_isBoat l dC dI H.size h0 p1 h0_0 h0_1 h0_2 h0_3 h0_4 h0_f5 h0_6 h0_7 h0_8 h0_9 h0_10 h0_11 h0_12 h0_13 h0_14 h0_f15 h0_1_0 h0_1_f1 h0_1_f2 h0_1_f3 g_h0_f5 g_h0_1_f1 g_h0_1_f2 g_h0_1_f3) (cwV 1 hts gf_c_X11_nearest_c_X11_isBoat rfl rfl rfl (by decide +kernel) ⟨Nat.le_of_ble_eq_true rfl, Nat.le_of_ble_eq_true rfl⟩) ⟨fun a U g mk q => by obtain ⟨q0, q1, qP, qK, qD⟩ := q; exact ⟨q0, q1, qP, va_K.moved (u := U) (U := U.calling g mk a) (Vm.Alike.refl U.vm) qK, qD⟩, va_recv hKc hPc (ci := 11) (q0 := 0) rfl rfl, fun U hU hW => ⟨rfl, by rw [hU], by rw [hU]; exact hPc, va_K.moved hW.alike hKc, hDc.weaken (fun _ _ _ _ => trivial)⟩⟩ rfl rfl hl.1 rfl (lv_room (Nat.le_of_ble_eq_true rfl)) dX11_nearest_2 ⟨Nat.le_of_ble_eq_true rfl, Nat.le_of_ble_eq_true rfl⟩) hS (fun q _ h => hFc q h) hFc (fun r_17 u t H1 locs ht hvm hw hB hz1 hk1 hS => ?_)
  obtain ⟨hP1, hK1, hD1⟩ := hB
  rw [ht] at hP1
  obtain ⟨hP, hD⟩ := va_join (wr := [(h0_1_0, .inl (h0_1_0k, 80, .inl h0_1_0c)), (h0_7, .inr (7, [.int h0_7_f0, .int h0_7_f1, .int h0_7_f2, .int h0_7_f3, .ref h0_7_4, .ref h0_7_5, .ref h0_7_6, .ref h0_7_7, .ref h0_7_8, .ref h0_7_9, .ref h0_7_10, .ref h0_7_11, .ref h0_7_12])), (h0_7_4, .inl (h0_7_4k, 3, .inl h0_7_4c)), (h0_7_5, .inl (h0_7_5k, 3, .inl h0_7_5c))]) (w1 := (wd_c_X11_isBoat h0 h0_0 h0_1 h0_2 h0_3 h0_4 h0_f5 h0_6 h0_7 h0_8 h0_9 h0_10 h0_11 h0_12 h0_13 h0_14 h0_f15 h0_1 h0_1_0 h0_1_f1 h0_1_f2 h0_1_f3)) hP hD [0, 1] [2, 3, 4, 5] rfl rfl (by decide) (by decide) hk1 hFc hP1 hD1
  have hP := hP.sub (ws' := (wd_c_X11_nearest h0 h0_0 h0_1 h0_2 h0_3 h0_4 h0_f5 h0_6 h0_7 h0_8 h0_9 h0_10 h0_11 h0_12 h0_13 h0_14 h0_f15 h0_1 h0_1_0 h0_1_f1 h0_1_f2 h0_1_f3 h0_1_0 h0_1_0k h0_1_0c h0_7 h0_7_f0 h0_7_f1 h0_7_f2 h0_7_f3 h0_7_4 h0_7_5 h0_7_6 h0_7_7 h0_7_8 h0_7_9 h0_7_10 h0_7_11 h0_7_12 h0_7_4 h0_7_4k h0_7_4c h0_7_5 h0_7_5k h0_7_5c)) [4, 5, 0, 1, 2, 3] rfl
  have hD := hD.sub (ws' := (wd_c_X11_nearest h0 h0_0 h0_1 h0_2 h0_3 h0_4 h0_f5 h0_6 h0_7 h0_8 h0_9 h0_10 h0_11 h0_12 h0_13 h0_14 h0_f15 h0_1 h0_1_0 h0_1_f1 h0_1_f2 h0_1_f3 h0_1_0 h0_1_0k h0_1_0c h0_7 h0_7_f0 h0_7_f1 h0_7_f2 h0_7_f3 h0_7_4 h0_7_5 h0_7_6 h0_7_7 h0_7_8 h0_7_9 h0_7_10 h0_7_11 h0_7_12 h0_7_4 h0_7_4k h0_7_4c h0_7_5 h0_7_5k h0_7_5c)) [4, 5, 0, 1, 2, 3] (by decide) rfl
  generalize H1 = H at hP hS ⊢
  rcases hw with ⟨h_18, h_19⟩ | ⟨h_20, h_21, h_22⟩
  · rw [h_18]
    refine lv_if_ne (tgt := 10) hx hb dX11_nearest_5 rfl (fun c_23 => absurd c_23 (by decide)) (fun c_23 => ?_)
    refine lv_iconst (v := (-1)) hx hb dX11_nearest_8 kc_iconst_m1 ?_
    have hK9 := hK.sub (tys' := []) [] rfl
    exact W.iret (v := (-1)) hx hb hr (fun t ht hW => ⟨⟨(-1), (), rfl, (Or.inl rfl), by rw [ht]; exact hP, va_K.moved hW.alike hK9, hD⟩, hS.F ht⟩) hS.2.2 dX11_nearest_9
  · rw [h_20]
    refine lv_if_ne (tgt := 10) hx hb dX11_nearest_5 rfl (fun c_24 => ?_) (fun c_24 => absurd c_24 (by decide))
    refine lv_iconst (v := 0) hx hb dX11_nearest_10 kc_iconst_0 ?_
    refine lv_istore_n (lv' := [(2, .int 0), (0, .ref h0), (1, .int p1)]) hx hb dX11_nearest_11 rfl hl (Nat.le_of_ble_eq_true rfl) rfl (fun ls hl => ?_)
    refine lv_ldcw hx hb hown (hts (.constant RX11 406 (1000000)) (List.mem_of_getElem? (i := 8) rfl)) dX11_nearest_12 ?_
    refine lv_istore_n (lv' := [(3, .int 1000000), (2, .int 0), (0, .ref h0), (1, .int p1)]) hx hb dX11_nearest_15 rfl hl (Nat.le_of_ble_eq_true rfl) rfl (fun ls hl => ?_)
    refine lv_iconst (v := 0) hx hb dX11_nearest_16 kc_iconst_0 ?_
    refine lv_istore (lv' := [(4, .int 0), (3, .int 1000000), (2, .int 0), (0, .ref h0), (1, .int p1)]) hx hb dX11_nearest_17 hl (Nat.le_of_ble_eq_true rfl) rfl (fun ls hl => ?_)
    exact hU _ _ _ (J19 _ 0 1000000 0 (Nat.lt_succ_self _) g_h0_1_f1 h_21 g_h0_1_f3 g_h0_7_f2 g_h0_7_f3 g_h0_f5 (RG_w (RG_k 0 0 rfl) (by decide)) (RG_w (RG_k 1000000 1000000 rfl) (by decide)) (RG_w (RG_k 0 0 rfl) (by decide)) h_22 _ _ _ hP hD hS (lv_sub hl [0, 1, 2, 3, 4] rfl))
def wd_c_X1_between_13 (a0 : Nat) (a1 : Nat) (a2 : Nat) (a3 : Nat) (a4 : Nat) (a5 : Nat) (a6 : Nat) (a7 : Int32) (a8 : Int32) (a9 : Int32) (a10 : Nat) (a11 : ClassId) (a12 : Nat → Int32) : va_W := [(a0, .inr (1, [.ref a1, .ref a2, .ref a3, .ref a4])), (a5, .inr (0, [.ref a6, .int a7, .int a8, .int a9])), (a10, .inl (a11, 80, .inl a12))]
def wf_c_X1_between_13 : List Cond := .code yX1_between cX1_between 4 (some .int) :: ([.fieldLink RX1 9 "BuoyVote$Charts" "told" "LBuoyVote$Borough;", .methodLink RX1 35 yX0_buoyX, .instanceMethod yX0_buoyX, .selects RX0 yX0_buoyX yX0_buoyX, .initialized RX0, .code yX0_buoyX cX0_buoyX 2 (some .int), .fieldLink RX0 11 "BuoyVote$Borough" "values" "[I", .methodLink RX1 62 Lib.Math.abs.name, .static Lib.Math.abs.name, .initialized "java/lang/Math", .code Lib.Math.abs.name Lib.Math.abs.code 1 (some .int), .methodLink RX1 38 yX0_buoyY, .instanceMethod yX0_buoyY, .selects RX0 yX0_buoyY yX0_buoyY, .code yX0_buoyY cX0_buoyY 2 (some .int)] ++ wsX10 ++ wsX00)
theorem iw_c_X1_between_13_X1 : ∀ w ∈ wsX10, w ∈ wf_c_X1_between_13 := fun w h => List.mem_cons_of_mem _ (List.mem_append_left _ (List.mem_append_right _ h))
theorem iw_c_X1_between_13_X0 : ∀ w ∈ wsX00, w ∈ wf_c_X1_between_13 := fun w h => List.mem_cons_of_mem _ (List.mem_append_right _ h)
set_option maxRecDepth 20000 in
theorem gf_c_X1_between_13_c_X0_buoyX : GoodIn wf_c_X1_between_13 (wsV RX1 35 RX0 yX0_buoyX wf_c_X0_buoyX) := goodIn_app (gi_cons (j := 2) rfl rfl (gi_cons (j := 3) rfl rfl (gi_cons (j := 4) rfl rfl (gi_cons (j := 5) rfl rfl (gi_nil))))) (gi_cons (j := 6) rfl rfl (goodIn_app (gi_cons (j := 7) rfl rfl (gi_nil)) (goodIn_sub iw_c_X1_between_13_X0 gw_X0)))
set_option maxRecDepth 20000 in
theorem gf_c_X1_between_13_c_X0_buoyY : GoodIn wf_c_X1_between_13 (wsV RX1 38 RX0 yX0_buoyY wf_c_X0_buoyY) := goodIn_app (gi_cons (j := 12) rfl rfl (gi_cons (j := 13) rfl rfl (gi_cons (j := 14) rfl rfl (gi_cons (j := 5) rfl rfl (gi_nil))))) (gi_cons (j := 15) rfl rfl (goodIn_app (gi_cons (j := 7) rfl rfl (gi_nil)) (goodIn_sub iw_c_X1_between_13_X0 gw_X0)))
set_option maxHeartbeats 4000000 in
set_option maxRecDepth 100000 in
theorem c_X1_between_13 (l : Launch) (dC : Nat → ClassId) (dI : Nat → Nat → Nat) (sz : Nat) (h0 : Nat) (p1 : Int32) (p2 : Int32) (p3 : Int32) (h0_0 : Nat) (h0_1 : Nat) (h0_2 : Nat) (h0_3 : Nat) (h0_0_0 : Nat) (h0_0_f1 : Int32) (h0_0_f2 : Int32) (h0_0_f3 : Int32) (h0_0_0k : ClassId) (h0_0_0c : Nat → Int32) (g_p1 : RG p1 0 7) (g_p2 : RG p2 0 9) (g_p3 : RG p3 0 9) (g_h0_0_f1 : RG h0_0_f1 0 8) (g_h0_0_f2 : RG h0_0_f2 0 3) (g_h0_0_f3 : RG h0_0_f3 0 1) (a_h0_0_0c : AI h0_0_0c (-1) 99) : Met l yX1_between wf_c_X1_between_13 ({ frames := 1, cells := 0, slots := 0, locals := 21 }) (va_Pc [.ref h0, .int p1, .int p2, .int p3] (fun U => U.heap.size = sz ∧ va_P (dC, dI) vwCl (wd_c_X1_between_13 h0 h0_0 h0_1 h0_2 h0_3 h0_0 h0_0_0 h0_0_f1 h0_0_f2 h0_0_f3 h0_0_0 h0_0_0k h0_0_0c) U.heap ∧ va_K (dC, dI) vwCl [(h0_0_0k, .int)] U ∧ va_D (fun _ => True) (wd_c_X1_between_13 h0 h0_0 h0_1 h0_2 h0_3 h0_0 h0_0_0 h0_0_f1 h0_0_f2 h0_0_f3 h0_0_0 h0_0_0k h0_0_0c))) (va_Qi (fun (r : Int32) (u : Unit) => (RG r 0 198)) (fun (u : Unit) t => va_P (dC, dI) vwCl (wd_c_X1_between_13 h0 h0_0 h0_1 h0_2 h0_3 h0_0 h0_0_0 h0_0_f1 h0_0_f2 h0_0_f3 h0_0_0 h0_0_0k h0_0_0c) t.heap ∧ va_K (dC, dI) vwCl [] t ∧ va_D (va_A (wd_c_X1_between_13 h0 h0_0 h0_1 h0_2 h0_3 h0_0 h0_0_0 h0_0_f1 h0_0_f2 h0_0_f3 h0_0_0 h0_0_0k h0_0_0c) sz) (wd_c_X1_between_13 h0 h0_0 h0_1 h0_2 h0_3 h0_0 h0_0_0 h0_0_f1 h0_0_f2 h0_0_f3 h0_0_0 h0_0_0k h0_0_0c)) (va_A (wd_c_X1_between_13 h0 h0_0 h0_1 h0_2 h0_3 h0_0 h0_0_0 h0_0_f1 h0_0_f2 h0_0_f3 h0_0_0 h0_0_0k h0_0_0c) sz)) 0 0 (va_A (wd_c_X1_between_13 h0 h0_0 h0_1 h0_2 h0_3 h0_0 h0_0_0 h0_0_f1 h0_0_f2 h0_0_f3 h0_0_0 h0_0_0k h0_0_0c) sz) := by
  refine Met.ofW (cc := cX1_between) (maxL := 4) (ret := (some .int)) (by decide) rfl ?_
  intro p e s m args below meth c s₁ B hml hv
  obtain ⟨rfl, hsz, hP, hK, hD0⟩ := hv
  have hx := B.exec
  have hb := B.bytes
  have hr := B.returns
  have hts := atoms_spec (ws := wf_c_X1_between_13) B.pre
  have hown : s.vm.findClass RX1 = some m.cls := findClass_of_methodNamed B.named
  have hlocks := B.notSynchronized
  subst hsz
  have hD := hD0.self (sz := s.heap.size)
  generalize hAe : va_A (wd_c_X1_between_13 h0 h0_0 h0_1 h0_2 h0_3 h0_0 h0_0_0 h0_0_f1 h0_0_f2 h0_0_f3 h0_0_0 h0_0_0k h0_0_0c) s.heap.size = A at hD ⊢
  have hA : ∀ q : Nat, s.heap.size ≤ q → A q := fun q h => by rw [← hAe]; exact Or.inr h
  have hP : va_P (dC, dI) vwCl (wd_c_X1_between_13 h0 h0_0 h0_1 h0_2 h0_3 h0_0 h0_0_0 h0_0_f1 h0_0_f2 h0_0_f3 h0_0_0 h0_0_0k h0_0_0c) s.heap := hP
  have hl := lv_entry ([.ref h0, .int p1, .int p2, .int p3]) (n := 4) (Nat.le_of_ble_eq_true rfl)
  rw [lg_entry_eq]
  generalize (lg_sl ([.ref h0, .int p1, .int p2, .int p3]) ++ List.replicate (4 - (lg_sl ([.ref h0, .int p1, .int p2, .int p3])).length) Slot.unset).toArray = ls at hl ⊢
  have hl : lv_has ls 4 [(0, .ref h0), (1, .int p1), (2, .int p2), (3, .int p3)] := hl
  obtain ⟨H, hHe⟩ : ∃ H : Heap, s.heap = H := ⟨_, rfl⟩
  have hS : va_S A s.heap H [] := by rw [hHe]; exact va_S.rf
  have hP : va_P (dC, dI) vwCl (wd_c_X1_between_13 h0 h0_0 h0_1 h0_2 h0_3 h0_0 h0_0_0 h0_0_f1 h0_0_f2 h0_0_f3 h0_0_0 h0_0_0k h0_0_0c) H := by rw [← hHe]; exact hP
  rw [hHe]
  refine lv_aload_n hx hb dX1_between_0 rfl (lv_at hl 0 rfl) ?_
  refine va_get (D := (dC, dI)) (ci := 1) (v := .ref h0_0) (C := RX1) (T := TX1) (N := 4) hx hb hts iw_c_X1_between_13_X1 hown hK hP 0 rfl rfl 0 (by decide) (hts (.fieldLink RX1 9 "BuoyVote$Charts" "told" "LBuoyVote$Borough;") (List.mem_of_getElem? (i := 1) rfl)) (fun _ h9 => h9) rfl dX1_between_1 ?_
  refine lv_iload_n hx hb dX1_between_4 rfl (lv_at hl 1 rfl) ?_
  have hPc := hP.sub (ws' := (wd_c_X0_buoyX h0_0 h0_0_0 h0_0_f1 h0_0_f2 h0_0_f3 h0_0_0 h0_0_0k h0_0_0c)) [1, 2] rfl
  have hDc := hD.sub (ws' := (wd_c_X0_buoyX h0_0 h0_0_0 h0_0_f1 h0_0_f2 h0_0_f3 h0_0_0 h0_0_0k h0_0_0c)) [1, 2] (by decide) rfl
  have hKc := hK.sub (tys' := [(h0_0_0k, .int)]) [0] rfl
  have hFc := va_free (wc := (wd_c_X0_buoyX h0_0 h0_0_0 h0_0_f1 h0_0_f2 h0_0_f3 h0_0_0 h0_0_0k h0_0_0c)) hD hS hA [1, 2] rfl
  refine va_calli (va_runV (As := [.int p1]) (rest := []) ⟨hx, hb, hml, hown, hts⟩ (c_X0_buoyX l dC dI H.size h0_0 p1 h0_0_0 h0_0_f1 h0_0_f2 h0_0_f3 h0_0_0k h0_0_0c g_p1 g_h0_0_f1 g_h0_0_f2 g_h0_0_f3 a_h0_0_0c) (cwV 1 hts gf_c_X1_between_13_c_X0_buoyX rfl rfl rfl (by decide +kernel) ⟨Nat.le_of_ble_eq_true rfl, Nat.le_of_ble_eq_true rfl⟩) ⟨fun a U g mk q => by obtain ⟨q0, q1, qP, qK, qD⟩ := q; exact ⟨q0, q1, qP, va_K.moved (u := U) (U := U.calling g mk a) (Vm.Alike.refl U.vm) qK, qD⟩, va_recv hKc hPc (ci := 0) (q0 := 0) rfl rfl, fun U hU hW => ⟨rfl, by rw [hU], by rw [hU]; exact hPc, va_K.moved hW.alike hKc, hDc.weaken (fun _ _ _ _ => trivial)⟩⟩ rfl rfl hl.1 rfl (lv_room (Nat.le_of_ble_eq_true rfl)) dX1_between_5 ⟨Nat.le_of_ble_eq_true rfl, Nat.le_of_ble_eq_true rfl⟩) hS (fun q _ h => hFc q h) hFc (fun r_1 u t H1 locs ht hvm hw hB hz1 hk1 hS => ?_)
  obtain ⟨hP1, hK1, hD1⟩ := hB
  rw [ht] at hP1
  obtain ⟨hP, hD⟩ := va_join (wr := [(h0, .inr (1, [.ref h0_0, .ref h0_1, .ref h0_2, .ref h0_3]))]) (w1 := (wd_c_X0_buoyX h0_0 h0_0_0 h0_0_f1 h0_0_f2 h0_0_f3 h0_0_0 h0_0_0k h0_0_0c)) hP hD [1, 2] [0] rfl rfl (by decide) (by decide) hk1 hFc hP1 hD1
  have hP := hP.sub (ws' := (wd_c_X1_between_13 h0 h0_0 h0_1 h0_2 h0_3 h0_0 h0_0_0 h0_0_f1 h0_0_f2 h0_0_f3 h0_0_0 h0_0_0k h0_0_0c)) [0, 1, 2] rfl
  have hD := hD.sub (ws' := (wd_c_X1_between_13 h0 h0_0 h0_1 h0_2 h0_3 h0_0 h0_0_0 h0_0_f1 h0_0_f2 h0_0_f3 h0_0_0 h0_0_0k h0_0_0c)) [0, 1, 2] (by decide) rfl
  generalize H1 = H at hP hS ⊢
  have h_2 := hw
  refine lv_iload_n hx hb dX1_between_8 rfl (lv_at hl 2 rfl) ?_
  refine lv_isub hx hb dX1_between_9 ?_
  refine lv_topi (fun x_3 ex_3 => ?_)
  have g_4 : RG x_3 (-10) 99 := RG_sub ex_3 h_2 g_p2 (by decide)
  refine va_mabs hx hb (by rw [hml]; exact hl.1.symm) hown (hts (.methodLink RX1 62 Lib.Math.abs.name) (List.mem_of_getElem? (i := 8) rfl)) (hts (.static Lib.Math.abs.name) (List.mem_of_getElem? (i := 9) rfl)) (hts (.initialized "java/lang/Math") (List.mem_of_getElem? (i := 10) rfl)) (hts (.code Lib.Math.abs.name Lib.Math.abs.code 1 (some .int)) (List.mem_of_getElem? (i := 11) rfl)) (Nat.le_of_ble_eq_true rfl) (Nat.le_of_ble_eq_true rfl) (Nat.le_of_ble_eq_true rfl) (Nat.le_of_ble_eq_true rfl) dX1_between_10 ?_
  refine lv_topi (fun x_5 ex_5 => ?_)
  have g_6 : RG x_5 0 99 := RG_abs ex_5 g_4 (by decide)
  refine lv_aload_n hx hb dX1_between_13 rfl (lv_at hl 0 rfl) ?_
  refine va_get (D := (dC, dI)) (ci := 1) (v := .ref h0_0) (C := RX1) (T := TX1) (N := 4) hx hb hts iw_c_X1_between_13_X1 hown hK hP 0 rfl rfl 0 (by decide) (hts (.fieldLink RX1 9 "BuoyVote$Charts" "told" "LBuoyVote$Borough;") (List.mem_of_getElem? (i := 1) rfl)) (fun _ h9 => h9) rfl dX1_between_14 ?_
  refine lv_iload_n hx hb dX1_between_17 rfl (lv_at hl 1 rfl) ?_
  have hPc := hP.sub (ws' := (wd_c_X0_buoyY h0_0 h0_0_0 h0_0_f1 h0_0_f2 h0_0_f3 h0_0_0 h0_0_0k h0_0_0c)) [1, 2] rfl
  have hDc := hD.sub (ws' := (wd_c_X0_buoyY h0_0 h0_0_0 h0_0_f1 h0_0_f2 h0_0_f3 h0_0_0 h0_0_0k h0_0_0c)) [1, 2] (by decide) rfl
  have hKc := hK.sub (tys' := [(h0_0_0k, .int)]) [0] rfl
  have hFc := va_free (wc := (wd_c_X0_buoyY h0_0 h0_0_0 h0_0_f1 h0_0_f2 h0_0_f3 h0_0_0 h0_0_0k h0_0_0c)) hD hS hA [1, 2] rfl
  refine va_calli (va_runV (As := [.int p1]) (rest := [.int x_5]) ⟨hx, hb, hml, hown, hts⟩ (c_X0_buoyY l dC dI H.size h0_0 p1 h0_0_0 h0_0_f1 h0_0_f2 h0_0_f3 h0_0_0k h0_0_0c g_p1 g_h0_0_f1 g_h0_0_f2 g_h0_0_f3 a_h0_0_0c) (cwV 1 hts gf_c_X1_between_13_c_X0_buoyY rfl rfl rfl (by decide +kernel) ⟨Nat.le_of_ble_eq_true rfl, Nat.le_of_ble_eq_true rfl⟩) ⟨fun a U g mk q => by obtain ⟨q0, q1, qP, qK, qD⟩ := q; exact ⟨q0, q1, qP, va_K.moved (u := U) (U := U.calling g mk a) (Vm.Alike.refl U.vm) qK, qD⟩, va_recv hKc hPc (ci := 0) (q0 := 0) rfl rfl, fun U hU hW => ⟨rfl, by rw [hU], by rw [hU]; exact hPc, va_K.moved hW.alike hKc, hDc.weaken (fun _ _ _ _ => trivial)⟩⟩ rfl rfl hl.1 rfl (lv_room (Nat.le_of_ble_eq_true rfl)) dX1_between_18 ⟨Nat.le_of_ble_eq_true rfl, Nat.le_of_ble_eq_true rfl⟩) hS (fun q _ h => hFc q h) hFc (fun r_7 u t H1 locs ht hvm hw hB hz1 hk1 hS => ?_)
  obtain ⟨hP1, hK1, hD1⟩ := hB
  rw [ht] at hP1
  obtain ⟨hP, hD⟩ := va_join (wr := [(h0, .inr (1, [.ref h0_0, .ref h0_1, .ref h0_2, .ref h0_3]))]) (w1 := (wd_c_X0_buoyY h0_0 h0_0_0 h0_0_f1 h0_0_f2 h0_0_f3 h0_0_0 h0_0_0k h0_0_0c)) hP hD [1, 2] [0] rfl rfl (by decide) (by decide) hk1 hFc hP1 hD1
  have hP := hP.sub (ws' := (wd_c_X1_between_13 h0 h0_0 h0_1 h0_2 h0_3 h0_0 h0_0_0 h0_0_f1 h0_0_f2 h0_0_f3 h0_0_0 h0_0_0k h0_0_0c)) [0, 1, 2] rfl
  have hD := hD.sub (ws' := (wd_c_X1_between_13 h0 h0_0 h0_1 h0_2 h0_3 h0_0 h0_0_0 h0_0_f1 h0_0_f2 h0_0_f3 h0_0_0 h0_0_0k h0_0_0c)) [0, 1, 2] (by decide) rfl
  generalize H1 = H at hP hS ⊢
  have h_8 := hw
  refine lv_iload_n hx hb dX1_between_21 rfl (lv_at hl 3 rfl) ?_
  refine lv_isub hx hb dX1_between_22 ?_
  refine lv_topi (fun x_9 ex_9 => ?_)
  have g_10 : RG x_9 (-10) 99 := RG_sub ex_9 h_8 g_p3 (by decide)
  refine va_mabs hx hb (by rw [hml]; exact hl.1.symm) hown (hts (.methodLink RX1 62 Lib.Math.abs.name) (List.mem_of_getElem? (i := 8) rfl)) (hts (.static Lib.Math.abs.name) (List.mem_of_getElem? (i := 9) rfl)) (hts (.initialized "java/lang/Math") (List.mem_of_getElem? (i := 10) rfl)) (hts (.code Lib.Math.abs.name Lib.Math.abs.code 1 (some .int)) (List.mem_of_getElem? (i := 11) rfl)) (Nat.le_of_ble_eq_true rfl) (Nat.le_of_ble_eq_true rfl) (Nat.le_of_ble_eq_true rfl) (Nat.le_of_ble_eq_true rfl) dX1_between_23 ?_
  refine lv_topi (fun x_11 ex_11 => ?_)
  have g_12 : RG x_11 0 99 := RG_abs ex_11 g_10 (by decide)
  refine lv_iadd hx hb dX1_between_26 ?_
  refine lv_topi (fun x_13 ex_13 => ?_)
  have g_14 : RG x_13 0 198 := RG_add ex_13 g_6 g_12 (by decide)
  have hK9 := hK.sub (tys' := []) [] rfl
  exact W.iret (v := x_13) hx hb hr (fun t ht hW => ⟨⟨x_13, (), rfl, g_14, by rw [ht]; exact hP, va_K.moved hW.alike hK9, hD⟩, hS.F ht⟩) hS.2.2 dX1_between_27
