noncomputable def wf_c_X12_bytesIn : List Cond := .code yX12_bytesIn cX12_bytesIn 3 (some .int) :: ([])
set_option maxHeartbeats 4000000 in
set_option maxRecDepth 100000 in
theorem c_X12_bytesIn (l : Launch) (dC : Nat → ClassId) (dI : Nat → Nat → Nat) (sz : Nat) (p0 : Int32) : Met l yX12_bytesIn wf_c_X12_bytesIn ({ frames := 0, cells := 0, slots := 0, locals := 0 }) (va_Pc [.int p0] (fun U => U.heap.size = sz ∧ va_P (dC, dI) vwCl [] U.heap ∧ va_K (dC, dI) vwCl [] U ∧ va_D (fun _ => True) [])) (va_Qi (fun (r : Int32) (u : Unit) => (RG r 0 4 ∧ r.toInt = BN p0 ∧ r = fx_c_X12_bytesIn p0)) (fun (u : Unit) t => va_P (dC, dI) vwCl [] t.heap ∧ va_K (dC, dI) vwCl [] t ∧ va_D (va_A [] sz) []) (va_A [] sz)) 0 0 (va_A [] sz) := by
  refine Met.ofW (cc := cX12_bytesIn) (maxL := 3) (ret := (some .int)) (by decide +kernel) rfl ?_
  intro p e s m args below meth c s₁ B hml hv
  obtain ⟨rfl, hsz, hP, hK, hD0⟩ := hv
  have hx := B.exec
  have hb := B.bytes
  have hr := B.returns
  have hts := atoms_spec (ws := wf_c_X12_bytesIn) B.pre
  have hown : s.vm.findClass RX12 = some m.cls := findClass_of_methodNamed B.named
  have hlocks := B.notSynchronized
  subst hsz
  have hD := hD0.self (sz := s.heap.size)
  generalize hAe : va_A [] s.heap.size = A at hD ⊢
  have hA : ∀ q : Nat, s.heap.size ≤ q → A q := fun q h => by rw [← hAe]; exact Or.inr h
  have hP : va_P (dC, dI) vwCl [] s.heap := hP
  have hl := lv_entry ([.int p0]) (n := 3) (Nat.le_of_ble_eq_true rfl)
  rw [lg_entry_eq]
  generalize (lg_sl ([.int p0]) ++ List.replicate (3 - (lg_sl ([.int p0])).length) Slot.unset).toArray = ls at hl ⊢
  have hl : lv_has ls 3 [(0, .int p0)] := hl
  obtain ⟨H, hHe⟩ : ∃ H : Heap, s.heap = H := ⟨_, rfl⟩
  have hS : va_S A s.heap H [] := by rw [hHe]; exact va_S.rf
  have hP : va_P (dC, dI) vwCl [] H := by rw [← hHe]; exact hP
  rw [hHe]
  obtain ⟨RES, hR⟩ : ∃ z, fx_c_X12_bytesIn p0 = z := ⟨_, rfl⟩
  have hEX : RES = fx_c_X12_bytesIn p0 := hR.symm
  refine lv_iconst (v := 0) hx hb dX12_bytesIn_0 kc_iconst_0 ?_
  as_aux_lemma =>
  refine lv_istore_n (lv' := [(1, .int 0), (0, .int p0)]) hx hb dX12_bytesIn_1 rfl hl (Nat.le_of_ble_eq_true rfl) rfl (fun ls hl => ?_)
  refine lv_bipush (v := 24) hx hb dX12_bytesIn_2 kc_bipush_24 ?_
  refine lv_istore_n (lv' := [(2, .int 24), (1, .int 0), (0, .int p0)]) hx hb dX12_bytesIn_4 rfl hl (Nat.le_of_ble_eq_true rfl) rfl (fun ls hl => ?_)
  refine lv_iload_n hx hb dX12_bytesIn_5 rfl (lv_at hl 0 rfl) ?_
  refine lv_if_lt (tgt := 33) hx hb dX12_bytesIn_6 rfl (fun c_1 => absurd c_1 (by decide +kernel)) (fun c_1 => ?_)
  refine lv_iload_n hx hb dX12_bytesIn_9 rfl (lv_at hl 1 rfl) ?_
  refine lv_iload_n hx hb dX12_bytesIn_10 rfl (lv_at hl 2 rfl) ?_
  refine lv_iload_n hx hb dX12_bytesIn_11 rfl (lv_at hl 0 rfl) ?_
  refine lv_ishr hx hb dX12_bytesIn_12 ?_
  refine lv_topi (fun x_2 ex_2 => ?_)
  replace hEX := hEX.trans (exl_eq ex_2)
  refine lv_sipush (v := 255) hx hb dX12_bytesIn_13 kc_sipush_255 ?_
  refine lv_iand hx hb dX12_bytesIn_16 ?_
  refine lv_topi (fun x_3 ex_3 => ?_)
  as_aux_lemma =>
  replace hEX := hEX.trans (exl_eq ex_3)
  have g_4 : RG x_3 0 255 := RG_andr ex_3 (RG_k 255 255 rfl) (by decide +kernel)
  refine lv_if_eq (tgt := 24) hx hb dX12_bytesIn_17 rfl (fun c_5 => ?_) (fun c_5 => ?_)
  · replace hEX := hEX.trans (if_pos c_5)
    have g_6 : RG x_3 0 0 := RG_eq1 g_4 (RG_k 0 0 rfl) c_5 (by decide +kernel)
    have n_7 : bn p0 24 = 0 := bn_0 (k := 24) ex_2 ex_3 c_5
    refine lv_iconst (v := 0) hx hb dX12_bytesIn_24 kc_iconst_0 ?_
    refine lv_iadd hx hb dX12_bytesIn_25 ?_
    refine lv_topi (fun x_8 ex_8 => ?_)
    obtain rfl : x_8 = 0 := ex_8.trans (by decide +kernel)
    refine lv_istore_n (lv' := [(1, .int 0), (2, .int 24), (0, .int p0)]) hx hb dX12_bytesIn_26 rfl hl (Nat.le_of_ble_eq_true rfl) rfl (fun ls hl => ?_)
    refine lv_iinc (v := 16) (lv' := [(2, .int 16), (1, .int 0), (0, .int p0)]) hx hb dX12_bytesIn_27 hl (k := 1) rfl (by decide +kernel) (Nat.le_of_ble_eq_true rfl) rfl (fun ls hl => ?_)
    refine lv_goto (tgt := 5) hx hb dX12_bytesIn_30 rfl ?_
    refine lv_iload_n hx hb dX12_bytesIn_5 rfl (lv_at hl 0 rfl) ?_
    as_aux_lemma =>
    refine lv_if_lt (tgt := 33) hx hb dX12_bytesIn_6 rfl (fun c_9 => absurd c_9 (by decide +kernel)) (fun c_9 => ?_)
    refine lv_iload_n hx hb dX12_bytesIn_9 rfl (lv_at hl 1 rfl) ?_
    refine lv_iload_n hx hb dX12_bytesIn_10 rfl (lv_at hl 2 rfl) ?_
    refine lv_iload_n hx hb dX12_bytesIn_11 rfl (lv_at hl 0 rfl) ?_
    refine lv_ishr hx hb dX12_bytesIn_12 ?_
    refine lv_topi (fun x_10 ex_10 => ?_)
    replace hEX := hEX.trans (exl_eq ex_10)
    refine lv_sipush (v := 255) hx hb dX12_bytesIn_13 kc_sipush_255 ?_
    refine lv_iand hx hb dX12_bytesIn_16 ?_
    refine lv_topi (fun x_11 ex_11 => ?_)
    replace hEX := hEX.trans (exl_eq ex_11)
    have g_12 : RG x_11 0 255 := RG_andr ex_11 (RG_k 255 255 rfl) (by decide +kernel)
    refine lv_if_eq (tgt := 24) hx hb dX12_bytesIn_17 rfl (fun c_13 => ?_) (fun c_13 => ?_)
    · replace hEX := hEX.trans (if_pos c_13)
      have g_14 : RG x_11 0 0 := RG_eq1 g_12 (RG_k 0 0 rfl) c_13 (by decide +kernel)
      have n_15 : bn p0 16 = 0 := bn_0 (k := 16) ex_10 ex_11 c_13
      refine lv_iconst (v := 0) hx hb dX12_bytesIn_24 kc_iconst_0 ?_
      as_aux_lemma =>
      refine lv_iadd hx hb dX12_bytesIn_25 ?_
      refine lv_topi (fun x_16 ex_16 => ?_)
      obtain rfl : x_16 = 0 := ex_16.trans (by decide +kernel)
      refine lv_istore_n (lv' := [(1, .int 0), (2, .int 16), (0, .int p0)]) hx hb dX12_bytesIn_26 rfl hl (Nat.le_of_ble_eq_true rfl) rfl (fun ls hl => ?_)
      refine lv_iinc (v := 8) (lv' := [(2, .int 8), (1, .int 0), (0, .int p0)]) hx hb dX12_bytesIn_27 hl (k := 1) rfl (by decide +kernel) (Nat.le_of_ble_eq_true rfl) rfl (fun ls hl => ?_)
      refine lv_goto (tgt := 5) hx hb dX12_bytesIn_30 rfl ?_
      refine lv_iload_n hx hb dX12_bytesIn_5 rfl (lv_at hl 0 rfl) ?_
      refine lv_if_lt (tgt := 33) hx hb dX12_bytesIn_6 rfl (fun c_17 => absurd c_17 (by decide +kernel)) (fun c_17 => ?_)
      refine lv_iload_n hx hb dX12_bytesIn_9 rfl (lv_at hl 1 rfl) ?_
      refine lv_iload_n hx hb dX12_bytesIn_10 rfl (lv_at hl 2 rfl) ?_
      refine lv_iload_n hx hb dX12_bytesIn_11 rfl (lv_at hl 0 rfl) ?_
      refine lv_ishr hx hb dX12_bytesIn_12 ?_
      refine lv_topi (fun x_18 ex_18 => ?_)
      replace hEX := hEX.trans (exl_eq ex_18)
      refine lv_sipush (v := 255) hx hb dX12_bytesIn_13 kc_sipush_255 ?_
      as_aux_lemma =>
      refine lv_iand hx hb dX12_bytesIn_16 ?_
      refine lv_topi (fun x_19 ex_19 => ?_)
      replace hEX := hEX.trans (exl_eq ex_19)
      have g_20 : RG x_19 0 255 := RG_andr ex_19 (RG_k 255 255 rfl) (by decide +kernel)
      refine lv_if_eq (tgt := 24) hx hb dX12_bytesIn_17 rfl (fun c_21 => ?_) (fun c_21 => ?_)
      · replace hEX := hEX.trans (if_pos c_21)
        have g_22 : RG x_19 0 0 := RG_eq1 g_20 (RG_k 0 0 rfl) c_21 (by decide +kernel)
        have n_23 : bn p0 8 = 0 := bn_0 (k := 8) ex_18 ex_19 c_21
        refine lv_iconst (v := 0) hx hb dX12_bytesIn_24 kc_iconst_0 ?_
        refine lv_iadd hx hb dX12_bytesIn_25 ?_
        refine lv_topi (fun x_24 ex_24 => ?_)
        obtain rfl : x_24 = 0 := ex_24.trans (by decide +kernel)
        refine lv_istore_n (lv' := [(1, .int 0), (2, .int 8), (0, .int p0)]) hx hb dX12_bytesIn_26 rfl hl (Nat.le_of_ble_eq_true rfl) rfl (fun ls hl => ?_)
        refine lv_iinc (v := 0) (lv' := [(2, .int 0), (1, .int 0), (0, .int p0)]) hx hb dX12_bytesIn_27 hl (k := 1) rfl (by decide +kernel) (Nat.le_of_ble_eq_true rfl) rfl (fun ls hl => ?_)
        as_aux_lemma =>
        refine lv_goto (tgt := 5) hx hb dX12_bytesIn_30 rfl ?_
        refine lv_iload_n hx hb dX12_bytesIn_5 rfl (lv_at hl 0 rfl) ?_
        refine lv_if_lt (tgt := 33) hx hb dX12_bytesIn_6 rfl (fun c_25 => absurd c_25 (by decide +kernel)) (fun c_25 => ?_)
        refine lv_iload_n hx hb dX12_bytesIn_9 rfl (lv_at hl 1 rfl) ?_
        refine lv_iload_n hx hb dX12_bytesIn_10 rfl (lv_at hl 2 rfl) ?_
        refine lv_iload_n hx hb dX12_bytesIn_11 rfl (lv_at hl 0 rfl) ?_
        refine lv_ishr hx hb dX12_bytesIn_12 ?_
        refine lv_topi (fun x_26 ex_26 => ?_)
        replace hEX := hEX.trans (exl_eq ex_26)
        refine lv_sipush (v := 255) hx hb dX12_bytesIn_13 kc_sipush_255 ?_
        refine lv_iand hx hb dX12_bytesIn_16 ?_
        refine lv_topi (fun x_27 ex_27 => ?_)
        replace hEX := hEX.trans (exl_eq ex_27)
        have g_28 : RG x_27 0 255 := RG_andr ex_27 (RG_k 255 255 rfl) (by decide +kernel)
        refine lv_if_eq (tgt := 24) hx hb dX12_bytesIn_17 rfl (fun c_29 => ?_) (fun c_29 => ?_)
        · replace hEX := hEX.trans (if_pos c_29)
          have g_30 : RG x_27 0 0 := RG_eq1 g_28 (RG_k 0 0 rfl) c_29 (by decide +kernel)
          have n_31 : bn p0 0 = 0 := bn_0 (k := 0) ex_26 ex_27 c_29
          refine lv_iconst (v := 0) hx hb dX12_bytesIn_24 kc_iconst_0 ?_
          as_aux_lemma =>
          refine lv_iadd hx hb dX12_bytesIn_25 ?_
          refine lv_topi (fun x_32 ex_32 => ?_)
          obtain rfl : x_32 = 0 := ex_32.trans (by decide +kernel)
          refine lv_istore_n (lv' := [(1, .int 0), (2, .int 0), (0, .int p0)]) hx hb dX12_bytesIn_26 rfl hl (Nat.le_of_ble_eq_true rfl) rfl (fun ls hl => ?_)
          refine lv_iinc (v := (-8)) (lv' := [(2, .int (-8)), (1, .int 0), (0, .int p0)]) hx hb dX12_bytesIn_27 hl (k := 1) rfl (by decide +kernel) (Nat.le_of_ble_eq_true rfl) rfl (fun ls hl => ?_)
          refine lv_goto (tgt := 5) hx hb dX12_bytesIn_30 rfl ?_
          refine lv_iload_n hx hb dX12_bytesIn_5 rfl (lv_at hl 0 rfl) ?_
          refine lv_if_lt (tgt := 33) hx hb dX12_bytesIn_6 rfl (fun c_33 => ?_) (fun c_33 => absurd c_33 (by decide +kernel))
          refine lv_iload_n hx hb dX12_bytesIn_33 rfl (lv_at hl 1 rfl) ?_
          have hK9 := hK.sub (tys' := []) [] rfl
          exact W.iret (v := 0) hx hb hr (fun t ht hW => ⟨⟨0, (), rfl, ⟨(RG_w (RG_k 0 0 rfl) (by decide +kernel)), (by have := n_7; have := n_15; have := n_23; have := n_31; show (0 : Int32).toInt = BN p0; have h0 : (0 : Int32).toInt = 0 := rfl; unfold BN; omega), (hR.trans hEX).symm⟩, by rw [ht]; exact hP, va_K.moved hW.alike hK9, hD⟩, hS.F ht⟩) hS.2.2 dX12_bytesIn_34
        · replace hEX := hEX.trans (if_neg c_29)
          have g_34 : RG x_27 1 255 := RG_ne1 g_28 (q := 0) rfl c_29 (by decide +kernel)
          have n_35 : bn p0 0 = 1 := bn_1 (k := 0) ex_26 ex_27 c_29
          refine lv_iconst (v := 1) hx hb dX12_bytesIn_20 kc_iconst_1 ?_
          as_aux_lemma =>
          refine lv_goto (tgt := 25) hx hb dX12_bytesIn_21 rfl ?_
          refine lv_iadd hx hb dX12_bytesIn_25 ?_
          refine lv_topi (fun x_36 ex_36 => ?_)
          obtain rfl : x_36 = 1 := ex_36.trans (by decide +kernel)
          refine lv_istore_n (lv' := [(1, .int 1), (2, .int 0), (0, .int p0)]) hx hb dX12_bytesIn_26 rfl hl (Nat.le_of_ble_eq_true rfl) rfl (fun ls hl => ?_)
          refine lv_iinc (v := (-8)) (lv' := [(2, .int (-8)), (1, .int 1), (0, .int p0)]) hx hb dX12_bytesIn_27 hl (k := 1) rfl (by decide +kernel) (Nat.le_of_ble_eq_true rfl) rfl (fun ls hl => ?_)
          refine lv_goto (tgt := 5) hx hb dX12_bytesIn_30 rfl ?_
          refine lv_iload_n hx hb dX12_bytesIn_5 rfl (lv_at hl 0 rfl) ?_
          refine lv_if_lt (tgt := 33) hx hb dX12_bytesIn_6 rfl (fun c_37 => ?_) (fun c_37 => absurd c_37 (by decide +kernel))
          refine lv_iload_n hx hb dX12_bytesIn_33 rfl (lv_at hl 1 rfl) ?_
          have hK9 := hK.sub (tys' := []) [] rfl
          exact W.iret (v := 1) hx hb hr (fun t ht hW => ⟨⟨1, (), rfl, ⟨(RG_w (RG_k 1 1 rfl) (by decide +kernel)), (by have := n_7; have := n_15; have := n_23; have := n_35; show (1 : Int32).toInt = BN p0; have h0 : (1 : Int32).toInt = 1 := rfl; unfold BN; omega), (hR.trans hEX).symm⟩, by rw [ht]; exact hP, va_K.moved hW.alike hK9, hD⟩, hS.F ht⟩) hS.2.2 dX12_bytesIn_34
      · replace hEX := hEX.trans (if_neg c_21)
        have g_38 : RG x_19 1 255 := RG_ne1 g_20 (q := 0) rfl c_21 (by decide +kernel)
        have n_39 : bn p0 8 = 1 := bn_1 (k := 8) ex_18 ex_19 c_21
        refine lv_iconst (v := 1) hx hb dX12_bytesIn_20 kc_iconst_1 ?_
        as_aux_lemma =>
        refine lv_goto (tgt := 25) hx hb dX12_bytesIn_21 rfl ?_
        refine lv_iadd hx hb dX12_bytesIn_25 ?_
        refine lv_topi (fun x_40 ex_40 => ?_)
        obtain rfl : x_40 = 1 := ex_40.trans (by decide +kernel)
        refine lv_istore_n (lv' := [(1, .int 1), (2, .int 8), (0, .int p0)]) hx hb dX12_bytesIn_26 rfl hl (Nat.le_of_ble_eq_true rfl) rfl (fun ls hl => ?_)
        refine lv_iinc (v := 0) (lv' := [(2, .int 0), (1, .int 1), (0, .int p0)]) hx hb dX12_bytesIn_27 hl (k := 1) rfl (by decide +kernel) (Nat.le_of_ble_eq_true rfl) rfl (fun ls hl => ?_)
        refine lv_goto (tgt := 5) hx hb dX12_bytesIn_30 rfl ?_
        refine lv_iload_n hx hb dX12_bytesIn_5 rfl (lv_at hl 0 rfl) ?_
        refine lv_if_lt (tgt := 33) hx hb dX12_bytesIn_6 rfl (fun c_41 => absurd c_41 (by decide +kernel)) (fun c_41 => ?_)
        refine lv_iload_n hx hb dX12_bytesIn_9 rfl (lv_at hl 1 rfl) ?_
        refine lv_iload_n hx hb dX12_bytesIn_10 rfl (lv_at hl 2 rfl) ?_
        refine lv_iload_n hx hb dX12_bytesIn_11 rfl (lv_at hl 0 rfl) ?_
        refine lv_ishr hx hb dX12_bytesIn_12 ?_
        refine lv_topi (fun x_42 ex_42 => ?_)
        as_aux_lemma =>
        replace hEX := hEX.trans (exl_eq ex_42)
        refine lv_sipush (v := 255) hx hb dX12_bytesIn_13 kc_sipush_255 ?_
        refine lv_iand hx hb dX12_bytesIn_16 ?_
        refine lv_topi (fun x_43 ex_43 => ?_)
        replace hEX := hEX.trans (exl_eq ex_43)
        have g_44 : RG x_43 0 255 := RG_andr ex_43 (RG_k 255 255 rfl) (by decide +kernel)
        refine lv_if_eq (tgt := 24) hx hb dX12_bytesIn_17 rfl (fun c_45 => ?_) (fun c_45 => ?_)
        · replace hEX := hEX.trans (if_pos c_45)
          have g_46 : RG x_43 0 0 := RG_eq1 g_44 (RG_k 0 0 rfl) c_45 (by decide +kernel)
          have n_47 : bn p0 0 = 0 := bn_0 (k := 0) ex_42 ex_43 c_45
          refine lv_iconst (v := 0) hx hb dX12_bytesIn_24 kc_iconst_0 ?_
          refine lv_iadd hx hb dX12_bytesIn_25 ?_
          refine lv_topi (fun x_48 ex_48 => ?_)
          obtain rfl : x_48 = 1 := ex_48.trans (by decide +kernel)
          refine lv_istore_n (lv' := [(1, .int 1), (2, .int 0), (0, .int p0)]) hx hb dX12_bytesIn_26 rfl hl (Nat.le_of_ble_eq_true rfl) rfl (fun ls hl => ?_)
          as_aux_lemma =>
          refine lv_iinc (v := (-8)) (lv' := [(2, .int (-8)), (1, .int 1), (0, .int p0)]) hx hb dX12_bytesIn_27 hl (k := 1) rfl (by decide +kernel) (Nat.le_of_ble_eq_true rfl) rfl (fun ls hl => ?_)
          refine lv_goto (tgt := 5) hx hb dX12_bytesIn_30 rfl ?_
          refine lv_iload_n hx hb dX12_bytesIn_5 rfl (lv_at hl 0 rfl) ?_
          refine lv_if_lt (tgt := 33) hx hb dX12_bytesIn_6 rfl (fun c_49 => ?_) (fun c_49 => absurd c_49 (by decide +kernel))
          refine lv_iload_n hx hb dX12_bytesIn_33 rfl (lv_at hl 1 rfl) ?_
          have hK9 := hK.sub (tys' := []) [] rfl
          exact W.iret (v := 1) hx hb hr (fun t ht hW => ⟨⟨1, (), rfl, ⟨(RG_w (RG_k 1 1 rfl) (by decide +kernel)), (by have := n_7; have := n_15; have := n_39; have := n_47; show (1 : Int32).toInt = BN p0; have h0 : (1 : Int32).toInt = 1 := rfl; unfold BN; omega), (hR.trans hEX).symm⟩, by rw [ht]; exact hP, va_K.moved hW.alike hK9, hD⟩, hS.F ht⟩) hS.2.2 dX12_bytesIn_34
        · replace hEX := hEX.trans (if_neg c_45)
          have g_50 : RG x_43 1 255 := RG_ne1 g_44 (q := 0) rfl c_45 (by decide +kernel)
          have n_51 : bn p0 0 = 1 := bn_1 (k := 0) ex_42 ex_43 c_45
          refine lv_iconst (v := 1) hx hb dX12_bytesIn_20 kc_iconst_1 ?_
          refine lv_goto (tgt := 25) hx hb dX12_bytesIn_21 rfl ?_
          refine lv_iadd hx hb dX12_bytesIn_25 ?_
          refine lv_topi (fun x_52 ex_52 => ?_)
          as_aux_lemma =>
          obtain rfl : x_52 = 2 := ex_52.trans (by decide +kernel)
          refine lv_istore_n (lv' := [(1, .int 2), (2, .int 0), (0, .int p0)]) hx hb dX12_bytesIn_26 rfl hl (Nat.le_of_ble_eq_true rfl) rfl (fun ls hl => ?_)
          refine lv_iinc (v := (-8)) (lv' := [(2, .int (-8)), (1, .int 2), (0, .int p0)]) hx hb dX12_bytesIn_27 hl (k := 1) rfl (by decide +kernel) (Nat.le_of_ble_eq_true rfl) rfl (fun ls hl => ?_)
          refine lv_goto (tgt := 5) hx hb dX12_bytesIn_30 rfl ?_
          refine lv_iload_n hx hb dX12_bytesIn_5 rfl (lv_at hl 0 rfl) ?_
          refine lv_if_lt (tgt := 33) hx hb dX12_bytesIn_6 rfl (fun c_53 => ?_) (fun c_53 => absurd c_53 (by decide +kernel))
          refine lv_iload_n hx hb dX12_bytesIn_33 rfl (lv_at hl 1 rfl) ?_
          have hK9 := hK.sub (tys' := []) [] rfl
          exact W.iret (v := 2) hx hb hr (fun t ht hW => ⟨⟨2, (), rfl, ⟨(RG_w (RG_k 2 2 rfl) (by decide +kernel)), (by have := n_7; have := n_15; have := n_39; have := n_51; show (2 : Int32).toInt = BN p0; have h0 : (2 : Int32).toInt = 2 := rfl; unfold BN; omega), (hR.trans hEX).symm⟩, by rw [ht]; exact hP, va_K.moved hW.alike hK9, hD⟩, hS.F ht⟩) hS.2.2 dX12_bytesIn_34
    · replace hEX := hEX.trans (if_neg c_13)
      have g_54 : RG x_11 1 255 := RG_ne1 g_12 (q := 0) rfl c_13 (by decide +kernel)
      have n_55 : bn p0 16 = 1 := bn_1 (k := 16) ex_10 ex_11 c_13
      refine lv_iconst (v := 1) hx hb dX12_bytesIn_20 kc_iconst_1 ?_
      refine lv_goto (tgt := 25) hx hb dX12_bytesIn_21 rfl ?_
      as_aux_lemma =>
      refine lv_iadd hx hb dX12_bytesIn_25 ?_
      refine lv_topi (fun x_56 ex_56 => ?_)
      obtain rfl : x_56 = 1 := ex_56.trans (by decide +kernel)
      refine lv_istore_n (lv' := [(1, .int 1), (2, .int 16), (0, .int p0)]) hx hb dX12_bytesIn_26 rfl hl (Nat.le_of_ble_eq_true rfl) rfl (fun ls hl => ?_)
      refine lv_iinc (v := 8) (lv' := [(2, .int 8), (1, .int 1), (0, .int p0)]) hx hb dX12_bytesIn_27 hl (k := 1) rfl (by decide +kernel) (Nat.le_of_ble_eq_true rfl) rfl (fun ls hl => ?_)
      refine lv_goto (tgt := 5) hx hb dX12_bytesIn_30 rfl ?_
      refine lv_iload_n hx hb dX12_bytesIn_5 rfl (lv_at hl 0 rfl) ?_
      refine lv_if_lt (tgt := 33) hx hb dX12_bytesIn_6 rfl (fun c_57 => absurd c_57 (by decide +kernel)) (fun c_57 => ?_)
      refine lv_iload_n hx hb dX12_bytesIn_9 rfl (lv_at hl 1 rfl) ?_
      refine lv_iload_n hx hb dX12_bytesIn_10 rfl (lv_at hl 2 rfl) ?_
      refine lv_iload_n hx hb dX12_bytesIn_11 rfl (lv_at hl 0 rfl) ?_
      refine lv_ishr hx hb dX12_bytesIn_12 ?_
      refine lv_topi (fun x_58 ex_58 => ?_)
      replace hEX := hEX.trans (exl_eq ex_58)
      refine lv_sipush (v := 255) hx hb dX12_bytesIn_13 kc_sipush_255 ?_
      as_aux_lemma =>
      refine lv_iand hx hb dX12_bytesIn_16 ?_
      refine lv_topi (fun x_59 ex_59 => ?_)
      replace hEX := hEX.trans (exl_eq ex_59)
      have g_60 : RG x_59 0 255 := RG_andr ex_59 (RG_k 255 255 rfl) (by decide +kernel)
      refine lv_if_eq (tgt := 24) hx hb dX12_bytesIn_17 rfl (fun c_61 => ?_) (fun c_61 => ?_)
      · replace hEX := hEX.trans (if_pos c_61)
        have g_62 : RG x_59 0 0 := RG_eq1 g_60 (RG_k 0 0 rfl) c_61 (by decide +kernel)
        have n_63 : bn p0 8 = 0 := bn_0 (k := 8) ex_58 ex_59 c_61
        refine lv_iconst (v := 0) hx hb dX12_bytesIn_24 kc_iconst_0 ?_
        refine lv_iadd hx hb dX12_bytesIn_25 ?_
        refine lv_topi (fun x_64 ex_64 => ?_)
        obtain rfl : x_64 = 1 := ex_64.trans (by decide +kernel)
        refine lv_istore_n (lv' := [(1, .int 1), (2, .int 8), (0, .int p0)]) hx hb dX12_bytesIn_26 rfl hl (Nat.le_of_ble_eq_true rfl) rfl (fun ls hl => ?_)
        refine lv_iinc (v := 0) (lv' := [(2, .int 0), (1, .int 1), (0, .int p0)]) hx hb dX12_bytesIn_27 hl (k := 1) rfl (by decide +kernel) (Nat.le_of_ble_eq_true rfl) rfl (fun ls hl => ?_)
        as_aux_lemma =>
        refine lv_goto (tgt := 5) hx hb dX12_bytesIn_30 rfl ?_
        refine lv_iload_n hx hb dX12_bytesIn_5 rfl (lv_at hl 0 rfl) ?_
        refine lv_if_lt (tgt := 33) hx hb dX12_bytesIn_6 rfl (fun c_65 => absurd c_65 (by decide +kernel)) (fun c_65 => ?_)
        refine lv_iload_n hx hb dX12_bytesIn_9 rfl (lv_at hl 1 rfl) ?_
        refine lv_iload_n hx hb dX12_bytesIn_10 rfl (lv_at hl 2 rfl) ?_
        refine lv_iload_n hx hb dX12_bytesIn_11 rfl (lv_at hl 0 rfl) ?_
        refine lv_ishr hx hb dX12_bytesIn_12 ?_
        refine lv_topi (fun x_66 ex_66 => ?_)
        replace hEX := hEX.trans (exl_eq ex_66)
        refine lv_sipush (v := 255) hx hb dX12_bytesIn_13 kc_sipush_255 ?_
        refine lv_iand hx hb dX12_bytesIn_16 ?_
        refine lv_topi (fun x_67 ex_67 => ?_)
        replace hEX := hEX.trans (exl_eq ex_67)
        have g_68 : RG x_67 0 255 := RG_andr ex_67 (RG_k 255 255 rfl) (by decide +kernel)
        refine lv_if_eq (tgt := 24) hx hb dX12_bytesIn_17 rfl (fun c_69 => ?_) (fun c_69 => ?_)
        · replace hEX := hEX.trans (if_pos c_69)
          have g_70 : RG x_67 0 0 := RG_eq1 g_68 (RG_k 0 0 rfl) c_69 (by decide +kernel)
          have n_71 : bn p0 0 = 0 := bn_0 (k := 0) ex_66 ex_67 c_69
          refine lv_iconst (v := 0) hx hb dX12_bytesIn_24 kc_iconst_0 ?_
          as_aux_lemma =>
          refine lv_iadd hx hb dX12_bytesIn_25 ?_
          refine lv_topi (fun x_72 ex_72 => ?_)
          obtain rfl : x_72 = 1 := ex_72.trans (by decide +kernel)
          refine lv_istore_n (lv' := [(1, .int 1), (2, .int 0), (0, .int p0)]) hx hb dX12_bytesIn_26 rfl hl (Nat.le_of_ble_eq_true rfl) rfl (fun ls hl => ?_)
          refine lv_iinc (v := (-8)) (lv' := [(2, .int (-8)), (1, .int 1), (0, .int p0)]) hx hb dX12_bytesIn_27 hl (k := 1) rfl (by decide +kernel) (Nat.le_of_ble_eq_true rfl) rfl (fun ls hl => ?_)
          refine lv_goto (tgt := 5) hx hb dX12_bytesIn_30 rfl ?_
          refine lv_iload_n hx hb dX12_bytesIn_5 rfl (lv_at hl 0 rfl) ?_
          refine lv_if_lt (tgt := 33) hx hb dX12_bytesIn_6 rfl (fun c_73 => ?_) (fun c_73 => absurd c_73 (by decide +kernel))
          refine lv_iload_n hx hb dX12_bytesIn_33 rfl (lv_at hl 1 rfl) ?_
          have hK9 := hK.sub (tys' := []) [] rfl
          exact W.iret (v := 1) hx hb hr (fun t ht hW => ⟨⟨1, (), rfl, ⟨(RG_w (RG_k 1 1 rfl) (by decide +kernel)), (by have := n_7; have := n_55; have := n_63; have := n_71; show (1 : Int32).toInt = BN p0; have h0 : (1 : Int32).toInt = 1 := rfl; unfold BN; omega), (hR.trans hEX).symm⟩, by rw [ht]; exact hP, va_K.moved hW.alike hK9, hD⟩, hS.F ht⟩) hS.2.2 dX12_bytesIn_34
        · replace hEX := hEX.trans (if_neg c_69)
          have g_74 : RG x_67 1 255 := RG_ne1 g_68 (q := 0) rfl c_69 (by decide +kernel)
          have n_75 : bn p0 0 = 1 := bn_1 (k := 0) ex_66 ex_67 c_69
          refine lv_iconst (v := 1) hx hb dX12_bytesIn_20 kc_iconst_1 ?_
          as_aux_lemma =>
          refine lv_goto (tgt := 25) hx hb dX12_bytesIn_21 rfl ?_
          refine lv_iadd hx hb dX12_bytesIn_25 ?_
          refine lv_topi (fun x_76 ex_76 => ?_)
          obtain rfl : x_76 = 2 := ex_76.trans (by decide +kernel)
          refine lv_istore_n (lv' := [(1, .int 2), (2, .int 0), (0, .int p0)]) hx hb dX12_bytesIn_26 rfl hl (Nat.le_of_ble_eq_true rfl) rfl (fun ls hl => ?_)
          refine lv_iinc (v := (-8)) (lv' := [(2, .int (-8)), (1, .int 2), (0, .int p0)]) hx hb dX12_bytesIn_27 hl (k := 1) rfl (by decide +kernel) (Nat.le_of_ble_eq_true rfl) rfl (fun ls hl => ?_)
          refine lv_goto (tgt := 5) hx hb dX12_bytesIn_30 rfl ?_
          refine lv_iload_n hx hb dX12_bytesIn_5 rfl (lv_at hl 0 rfl) ?_
          refine lv_if_lt (tgt := 33) hx hb dX12_bytesIn_6 rfl (fun c_77 => ?_) (fun c_77 => absurd c_77 (by decide +kernel))
          refine lv_iload_n hx hb dX12_bytesIn_33 rfl (lv_at hl 1 rfl) ?_
          have hK9 := hK.sub (tys' := []) [] rfl
          exact W.iret (v := 2) hx hb hr (fun t ht hW => ⟨⟨2, (), rfl, ⟨(RG_w (RG_k 2 2 rfl) (by decide +kernel)), (by have := n_7; have := n_55; have := n_63; have := n_75; show (2 : Int32).toInt = BN p0; have h0 : (2 : Int32).toInt = 2 := rfl; unfold BN; omega), (hR.trans hEX).symm⟩, by rw [ht]; exact hP, va_K.moved hW.alike hK9, hD⟩, hS.F ht⟩) hS.2.2 dX12_bytesIn_34
      · replace hEX := hEX.trans (if_neg c_61)
        have g_78 : RG x_59 1 255 := RG_ne1 g_60 (q := 0) rfl c_61 (by decide +kernel)
        have n_79 : bn p0 8 = 1 := bn_1 (k := 8) ex_58 ex_59 c_61
        refine lv_iconst (v := 1) hx hb dX12_bytesIn_20 kc_iconst_1 ?_
        as_aux_lemma =>
        refine lv_goto (tgt := 25) hx hb dX12_bytesIn_21 rfl ?_
        refine lv_iadd hx hb dX12_bytesIn_25 ?_
        refine lv_topi (fun x_80 ex_80 => ?_)
        obtain rfl : x_80 = 2 := ex_80.trans (by decide +kernel)
        refine lv_istore_n (lv' := [(1, .int 2), (2, .int 8), (0, .int p0)]) hx hb dX12_bytesIn_26 rfl hl (Nat.le_of_ble_eq_true rfl) rfl (fun ls hl => ?_)
        refine lv_iinc (v := 0) (lv' := [(2, .int 0), (1, .int 2), (0, .int p0)]) hx hb dX12_bytesIn_27 hl (k := 1) rfl (by decide +kernel) (Nat.le_of_ble_eq_true rfl) rfl (fun ls hl => ?_)
        refine lv_goto (tgt := 5) hx hb dX12_bytesIn_30 rfl ?_
        refine lv_iload_n hx hb dX12_bytesIn_5 rfl (lv_at hl 0 rfl) ?_
        refine lv_if_lt (tgt := 33) hx hb dX12_bytesIn_6 rfl (fun c_81 => absurd c_81 (by decide +kernel)) (fun c_81 => ?_)
        refine lv_iload_n hx hb dX12_bytesIn_9 rfl (lv_at hl 1 rfl) ?_
        refine lv_iload_n hx hb dX12_bytesIn_10 rfl (lv_at hl 2 rfl) ?_
        refine lv_iload_n hx hb dX12_bytesIn_11 rfl (lv_at hl 0 rfl) ?_
        refine lv_ishr hx hb dX12_bytesIn_12 ?_
        refine lv_topi (fun x_82 ex_82 => ?_)
        as_aux_lemma =>
        replace hEX := hEX.trans (exl_eq ex_82)
        refine lv_sipush (v := 255) hx hb dX12_bytesIn_13 kc_sipush_255 ?_
        refine lv_iand hx hb dX12_bytesIn_16 ?_
        refine lv_topi (fun x_83 ex_83 => ?_)
        replace hEX := hEX.trans (exl_eq ex_83)
        have g_84 : RG x_83 0 255 := RG_andr ex_83 (RG_k 255 255 rfl) (by decide +kernel)
        refine lv_if_eq (tgt := 24) hx hb dX12_bytesIn_17 rfl (fun c_85 => ?_) (fun c_85 => ?_)
        · replace hEX := hEX.trans (if_pos c_85)
          have g_86 : RG x_83 0 0 := RG_eq1 g_84 (RG_k 0 0 rfl) c_85 (by decide +kernel)
          have n_87 : bn p0 0 = 0 := bn_0 (k := 0) ex_82 ex_83 c_85
          refine lv_iconst (v := 0) hx hb dX12_bytesIn_24 kc_iconst_0 ?_
          refine lv_iadd hx hb dX12_bytesIn_25 ?_
          refine lv_topi (fun x_88 ex_88 => ?_)
          obtain rfl : x_88 = 2 := ex_88.trans (by decide +kernel)
          refine lv_istore_n (lv' := [(1, .int 2), (2, .int 0), (0, .int p0)]) hx hb dX12_bytesIn_26 rfl hl (Nat.le_of_ble_eq_true rfl) rfl (fun ls hl => ?_)
          as_aux_lemma =>
          refine lv_iinc (v := (-8)) (lv' := [(2, .int (-8)), (1, .int 2), (0, .int p0)]) hx hb dX12_bytesIn_27 hl (k := 1) rfl (by decide +kernel) (Nat.le_of_ble_eq_true rfl) rfl (fun ls hl => ?_)
          refine lv_goto (tgt := 5) hx hb dX12_bytesIn_30 rfl ?_
          refine lv_iload_n hx hb dX12_bytesIn_5 rfl (lv_at hl 0 rfl) ?_
          refine lv_if_lt (tgt := 33) hx hb dX12_bytesIn_6 rfl (fun c_89 => ?_) (fun c_89 => absurd c_89 (by decide +kernel))
          refine lv_iload_n hx hb dX12_bytesIn_33 rfl (lv_at hl 1 rfl) ?_
          have hK9 := hK.sub (tys' := []) [] rfl
          exact W.iret (v := 2) hx hb hr (fun t ht hW => ⟨⟨2, (), rfl, ⟨(RG_w (RG_k 2 2 rfl) (by decide +kernel)), (by have := n_7; have := n_55; have := n_79; have := n_87; show (2 : Int32).toInt = BN p0; have h0 : (2 : Int32).toInt = 2 := rfl; unfold BN; omega), (hR.trans hEX).symm⟩, by rw [ht]; exact hP, va_K.moved hW.alike hK9, hD⟩, hS.F ht⟩) hS.2.2 dX12_bytesIn_34
        · replace hEX := hEX.trans (if_neg c_85)
          have g_90 : RG x_83 1 255 := RG_ne1 g_84 (q := 0) rfl c_85 (by decide +kernel)
          have n_91 : bn p0 0 = 1 := bn_1 (k := 0) ex_82 ex_83 c_85
          refine lv_iconst (v := 1) hx hb dX12_bytesIn_20 kc_iconst_1 ?_
          refine lv_goto (tgt := 25) hx hb dX12_bytesIn_21 rfl ?_
          refine lv_iadd hx hb dX12_bytesIn_25 ?_
          refine lv_topi (fun x_92 ex_92 => ?_)
          as_aux_lemma =>
          obtain rfl : x_92 = 3 := ex_92.trans (by decide +kernel)
          refine lv_istore_n (lv' := [(1, .int 3), (2, .int 0), (0, .int p0)]) hx hb dX12_bytesIn_26 rfl hl (Nat.le_of_ble_eq_true rfl) rfl (fun ls hl => ?_)
          refine lv_iinc (v := (-8)) (lv' := [(2, .int (-8)), (1, .int 3), (0, .int p0)]) hx hb dX12_bytesIn_27 hl (k := 1) rfl (by decide +kernel) (Nat.le_of_ble_eq_true rfl) rfl (fun ls hl => ?_)
          refine lv_goto (tgt := 5) hx hb dX12_bytesIn_30 rfl ?_
          refine lv_iload_n hx hb dX12_bytesIn_5 rfl (lv_at hl 0 rfl) ?_
          refine lv_if_lt (tgt := 33) hx hb dX12_bytesIn_6 rfl (fun c_93 => ?_) (fun c_93 => absurd c_93 (by decide +kernel))
          refine lv_iload_n hx hb dX12_bytesIn_33 rfl (lv_at hl 1 rfl) ?_
          have hK9 := hK.sub (tys' := []) [] rfl
          exact W.iret (v := 3) hx hb hr (fun t ht hW => ⟨⟨3, (), rfl, ⟨(RG_w (RG_k 3 3 rfl) (by decide +kernel)), (by have := n_7; have := n_55; have := n_79; have := n_91; show (3 : Int32).toInt = BN p0; have h0 : (3 : Int32).toInt = 3 := rfl; unfold BN; omega), (hR.trans hEX).symm⟩, by rw [ht]; exact hP, va_K.moved hW.alike hK9, hD⟩, hS.F ht⟩) hS.2.2 dX12_bytesIn_34
  · replace hEX := hEX.trans (if_neg c_5)
    have g_94 : RG x_3 1 255 := RG_ne1 g_4 (q := 0) rfl c_5 (by decide +kernel)
    have n_95 : bn p0 24 = 1 := bn_1 (k := 24) ex_2 ex_3 c_5
    refine lv_iconst (v := 1) hx hb dX12_bytesIn_20 kc_iconst_1 ?_
    refine lv_goto (tgt := 25) hx hb dX12_bytesIn_21 rfl ?_
    as_aux_lemma =>
    refine lv_iadd hx hb dX12_bytesIn_25 ?_
    refine lv_topi (fun x_96 ex_96 => ?_)
    obtain rfl : x_96 = 1 := ex_96.trans (by decide +kernel)
    refine lv_istore_n (lv' := [(1, .int 1), (2, .int 24), (0, .int p0)]) hx hb dX12_bytesIn_26 rfl hl (Nat.le_of_ble_eq_true rfl) rfl (fun ls hl => ?_)
    refine lv_iinc (v := 16) (lv' := [(2, .int 16), (1, .int 1), (0, .int p0)]) hx hb dX12_bytesIn_27 hl (k := 1) rfl (by decide +kernel) (Nat.le_of_ble_eq_true rfl) rfl (fun ls hl => ?_)
    refine lv_goto (tgt := 5) hx hb dX12_bytesIn_30 rfl ?_
    refine lv_iload_n hx hb dX12_bytesIn_5 rfl (lv_at hl 0 rfl) ?_
    refine lv_if_lt (tgt := 33) hx hb dX12_bytesIn_6 rfl (fun c_97 => absurd c_97 (by decide +kernel)) (fun c_97 => ?_)
    refine lv_iload_n hx hb dX12_bytesIn_9 rfl (lv_at hl 1 rfl) ?_
    refine lv_iload_n hx hb dX12_bytesIn_10 rfl (lv_at hl 2 rfl) ?_
    refine lv_iload_n hx hb dX12_bytesIn_11 rfl (lv_at hl 0 rfl) ?_
    refine lv_ishr hx hb dX12_bytesIn_12 ?_
    refine lv_topi (fun x_98 ex_98 => ?_)
    replace hEX := hEX.trans (exl_eq ex_98)
    refine lv_sipush (v := 255) hx hb dX12_bytesIn_13 kc_sipush_255 ?_
    as_aux_lemma =>
    refine lv_iand hx hb dX12_bytesIn_16 ?_
    refine lv_topi (fun x_99 ex_99 => ?_)
    replace hEX := hEX.trans (exl_eq ex_99)
    have g_100 : RG x_99 0 255 := RG_andr ex_99 (RG_k 255 255 rfl) (by decide +kernel)
    refine lv_if_eq (tgt := 24) hx hb dX12_bytesIn_17 rfl (fun c_101 => ?_) (fun c_101 => ?_)
    · replace hEX := hEX.trans (if_pos c_101)
      have g_102 : RG x_99 0 0 := RG_eq1 g_100 (RG_k 0 0 rfl) c_101 (by decide +kernel)
      have n_103 : bn p0 16 = 0 := bn_0 (k := 16) ex_98 ex_99 c_101
      refine lv_iconst (v := 0) hx hb dX12_bytesIn_24 kc_iconst_0 ?_
      refine lv_iadd hx hb dX12_bytesIn_25 ?_
      refine lv_topi (fun x_104 ex_104 => ?_)
      obtain rfl : x_104 = 1 := ex_104.trans (by decide +kernel)
      refine lv_istore_n (lv' := [(1, .int 1), (2, .int 16), (0, .int p0)]) hx hb dX12_bytesIn_26 rfl hl (Nat.le_of_ble_eq_true rfl) rfl (fun ls hl => ?_)
      refine lv_iinc (v := 8) (lv' := [(2, .int 8), (1, .int 1), (0, .int p0)]) hx hb dX12_bytesIn_27 hl (k := 1) rfl (by decide +kernel) (Nat.le_of_ble_eq_true rfl) rfl (fun ls hl => ?_)
      as_aux_lemma =>
      refine lv_goto (tgt := 5) hx hb dX12_bytesIn_30 rfl ?_
      refine lv_iload_n hx hb dX12_bytesIn_5 rfl (lv_at hl 0 rfl) ?_
      refine lv_if_lt (tgt := 33) hx hb dX12_bytesIn_6 rfl (fun c_105 => absurd c_105 (by decide +kernel)) (fun c_105 => ?_)
      refine lv_iload_n hx hb dX12_bytesIn_9 rfl (lv_at hl 1 rfl) ?_
      refine lv_iload_n hx hb dX12_bytesIn_10 rfl (lv_at hl 2 rfl) ?_
      refine lv_iload_n hx hb dX12_bytesIn_11 rfl (lv_at hl 0 rfl) ?_
      refine lv_ishr hx hb dX12_bytesIn_12 ?_
      refine lv_topi (fun x_106 ex_106 => ?_)
      replace hEX := hEX.trans (exl_eq ex_106)
      refine lv_sipush (v := 255) hx hb dX12_bytesIn_13 kc_sipush_255 ?_
      refine lv_iand hx hb dX12_bytesIn_16 ?_
      refine lv_topi (fun x_107 ex_107 => ?_)
      replace hEX := hEX.trans (exl_eq ex_107)
      have g_108 : RG x_107 0 255 := RG_andr ex_107 (RG_k 255 255 rfl) (by decide +kernel)
      refine lv_if_eq (tgt := 24) hx hb dX12_bytesIn_17 rfl (fun c_109 => ?_) (fun c_109 => ?_)
      · replace hEX := hEX.trans (if_pos c_109)
        have g_110 : RG x_107 0 0 := RG_eq1 g_108 (RG_k 0 0 rfl) c_109 (by decide +kernel)
        have n_111 : bn p0 8 = 0 := bn_0 (k := 8) ex_106 ex_107 c_109
        refine lv_iconst (v := 0) hx hb dX12_bytesIn_24 kc_iconst_0 ?_
        as_aux_lemma =>
        refine lv_iadd hx hb dX12_bytesIn_25 ?_
        refine lv_topi (fun x_112 ex_112 => ?_)
        obtain rfl : x_112 = 1 := ex_112.trans (by decide +kernel)
        refine lv_istore_n (lv' := [(1, .int 1), (2, .int 8), (0, .int p0)]) hx hb dX12_bytesIn_26 rfl hl (Nat.le_of_ble_eq_true rfl) rfl (fun ls hl => ?_)
        refine lv_iinc (v := 0) (lv' := [(2, .int 0), (1, .int 1), (0, .int p0)]) hx hb dX12_bytesIn_27 hl (k := 1) rfl (by decide +kernel) (Nat.le_of_ble_eq_true rfl) rfl (fun ls hl => ?_)
        refine lv_goto (tgt := 5) hx hb dX12_bytesIn_30 rfl ?_
        refine lv_iload_n hx hb dX12_bytesIn_5 rfl (lv_at hl 0 rfl) ?_
        refine lv_if_lt (tgt := 33) hx hb dX12_bytesIn_6 rfl (fun c_113 => absurd c_113 (by decide +kernel)) (fun c_113 => ?_)
        refine lv_iload_n hx hb dX12_bytesIn_9 rfl (lv_at hl 1 rfl) ?_
        refine lv_iload_n hx hb dX12_bytesIn_10 rfl (lv_at hl 2 rfl) ?_
        refine lv_iload_n hx hb dX12_bytesIn_11 rfl (lv_at hl 0 rfl) ?_
        refine lv_ishr hx hb dX12_bytesIn_12 ?_
        refine lv_topi (fun x_114 ex_114 => ?_)
        replace hEX := hEX.trans (exl_eq ex_114)
        refine lv_sipush (v := 255) hx hb dX12_bytesIn_13 kc_sipush_255 ?_
        as_aux_lemma =>
        refine lv_iand hx hb dX12_bytesIn_16 ?_
        refine lv_topi (fun x_115 ex_115 => ?_)
        replace hEX := hEX.trans (exl_eq ex_115)
        have g_116 : RG x_115 0 255 := RG_andr ex_115 (RG_k 255 255 rfl) (by decide +kernel)
        refine lv_if_eq (tgt := 24) hx hb dX12_bytesIn_17 rfl (fun c_117 => ?_) (fun c_117 => ?_)
        · replace hEX := hEX.trans (if_pos c_117)
          have g_118 : RG x_115 0 0 := RG_eq1 g_116 (RG_k 0 0 rfl) c_117 (by decide +kernel)
          have n_119 : bn p0 0 = 0 := bn_0 (k := 0) ex_114 ex_115 c_117
          refine lv_iconst (v := 0) hx hb dX12_bytesIn_24 kc_iconst_0 ?_
          refine lv_iadd hx hb dX12_bytesIn_25 ?_
          refine lv_topi (fun x_120 ex_120 => ?_)
          obtain rfl : x_120 = 1 := ex_120.trans (by decide +kernel)
          refine lv_istore_n (lv' := [(1, .int 1), (2, .int 0), (0, .int p0)]) hx hb dX12_bytesIn_26 rfl hl (Nat.le_of_ble_eq_true rfl) rfl (fun ls hl => ?_)
          refine lv_iinc (v := (-8)) (lv' := [(2, .int (-8)), (1, .int 1), (0, .int p0)]) hx hb dX12_bytesIn_27 hl (k := 1) rfl (by decide +kernel) (Nat.le_of_ble_eq_true rfl) rfl (fun ls hl => ?_)
          as_aux_lemma =>
          refine lv_goto (tgt := 5) hx hb dX12_bytesIn_30 rfl ?_
          refine lv_iload_n hx hb dX12_bytesIn_5 rfl (lv_at hl 0 rfl) ?_
          refine lv_if_lt (tgt := 33) hx hb dX12_bytesIn_6 rfl (fun c_121 => ?_) (fun c_121 => absurd c_121 (by decide +kernel))
          refine lv_iload_n hx hb dX12_bytesIn_33 rfl (lv_at hl 1 rfl) ?_
          have hK9 := hK.sub (tys' := []) [] rfl
          exact W.iret (v := 1) hx hb hr (fun t ht hW => ⟨⟨1, (), rfl, ⟨(RG_w (RG_k 1 1 rfl) (by decide +kernel)), (by have := n_95; have := n_103; have := n_111; have := n_119; show (1 : Int32).toInt = BN p0; have h0 : (1 : Int32).toInt = 1 := rfl; unfold BN; omega), (hR.trans hEX).symm⟩, by rw [ht]; exact hP, va_K.moved hW.alike hK9, hD⟩, hS.F ht⟩) hS.2.2 dX12_bytesIn_34
        · replace hEX := hEX.trans (if_neg c_117)
          have g_122 : RG x_115 1 255 := RG_ne1 g_116 (q := 0) rfl c_117 (by decide +kernel)
          have n_123 : bn p0 0 = 1 := bn_1 (k := 0) ex_114 ex_115 c_117
          refine lv_iconst (v := 1) hx hb dX12_bytesIn_20 kc_iconst_1 ?_
          refine lv_goto (tgt := 25) hx hb dX12_bytesIn_21 rfl ?_
          refine lv_iadd hx hb dX12_bytesIn_25 ?_
          refine lv_topi (fun x_124 ex_124 => ?_)
          obtain rfl : x_124 = 2 := ex_124.trans (by decide +kernel)
          refine lv_istore_n (lv' := [(1, .int 2), (2, .int 0), (0, .int p0)]) hx hb dX12_bytesIn_26 rfl hl (Nat.le_of_ble_eq_true rfl) rfl (fun ls hl => ?_)
          as_aux_lemma =>
          refine lv_iinc (v := (-8)) (lv' := [(2, .int (-8)), (1, .int 2), (0, .int p0)]) hx hb dX12_bytesIn_27 hl (k := 1) rfl (by decide +kernel) (Nat.le_of_ble_eq_true rfl) rfl (fun ls hl => ?_)
          refine lv_goto (tgt := 5) hx hb dX12_bytesIn_30 rfl ?_
          refine lv_iload_n hx hb dX12_bytesIn_5 rfl (lv_at hl 0 rfl) ?_
          refine lv_if_lt (tgt := 33) hx hb dX12_bytesIn_6 rfl (fun c_125 => ?_) (fun c_125 => absurd c_125 (by decide +kernel))
          refine lv_iload_n hx hb dX12_bytesIn_33 rfl (lv_at hl 1 rfl) ?_
          have hK9 := hK.sub (tys' := []) [] rfl
          exact W.iret (v := 2) hx hb hr (fun t ht hW => ⟨⟨2, (), rfl, ⟨(RG_w (RG_k 2 2 rfl) (by decide +kernel)), (by have := n_95; have := n_103; have := n_111; have := n_123; show (2 : Int32).toInt = BN p0; have h0 : (2 : Int32).toInt = 2 := rfl; unfold BN; omega), (hR.trans hEX).symm⟩, by rw [ht]; exact hP, va_K.moved hW.alike hK9, hD⟩, hS.F ht⟩) hS.2.2 dX12_bytesIn_34
      · replace hEX := hEX.trans (if_neg c_109)
        have g_126 : RG x_107 1 255 := RG_ne1 g_108 (q := 0) rfl c_109 (by decide +kernel)
        have n_127 : bn p0 8 = 1 := bn_1 (k := 8) ex_106 ex_107 c_109
        refine lv_iconst (v := 1) hx hb dX12_bytesIn_20 kc_iconst_1 ?_
        refine lv_goto (tgt := 25) hx hb dX12_bytesIn_21 rfl ?_
        refine lv_iadd hx hb dX12_bytesIn_25 ?_
        refine lv_topi (fun x_128 ex_128 => ?_)
        as_aux_lemma =>
        obtain rfl : x_128 = 2 := ex_128.trans (by decide +kernel)
        refine lv_istore_n (lv' := [(1, .int 2), (2, .int 8), (0, .int p0)]) hx hb dX12_bytesIn_26 rfl hl (Nat.le_of_ble_eq_true rfl) rfl (fun ls hl => ?_)
        refine lv_iinc (v := 0) (lv' := [(2, .int 0), (1, .int 2), (0, .int p0)]) hx hb dX12_bytesIn_27 hl (k := 1) rfl (by decide +kernel) (Nat.le_of_ble_eq_true rfl) rfl (fun ls hl => ?_)
        refine lv_goto (tgt := 5) hx hb dX12_bytesIn_30 rfl ?_
        refine lv_iload_n hx hb dX12_bytesIn_5 rfl (lv_at hl 0 rfl) ?_
        refine lv_if_lt (tgt := 33) hx hb dX12_bytesIn_6 rfl (fun c_129 => absurd c_129 (by decide +kernel)) (fun c_129 => ?_)
        refine lv_iload_n hx hb dX12_bytesIn_9 rfl (lv_at hl 1 rfl) ?_
        refine lv_iload_n hx hb dX12_bytesIn_10 rfl (lv_at hl 2 rfl) ?_
        refine lv_iload_n hx hb dX12_bytesIn_11 rfl (lv_at hl 0 rfl) ?_
        refine lv_ishr hx hb dX12_bytesIn_12 ?_
        refine lv_topi (fun x_130 ex_130 => ?_)
        replace hEX := hEX.trans (exl_eq ex_130)
        refine lv_sipush (v := 255) hx hb dX12_bytesIn_13 kc_sipush_255 ?_
        refine lv_iand hx hb dX12_bytesIn_16 ?_
        as_aux_lemma =>
        refine lv_topi (fun x_131 ex_131 => ?_)
        replace hEX := hEX.trans (exl_eq ex_131)
        have g_132 : RG x_131 0 255 := RG_andr ex_131 (RG_k 255 255 rfl) (by decide +kernel)
        refine lv_if_eq (tgt := 24) hx hb dX12_bytesIn_17 rfl (fun c_133 => ?_) (fun c_133 => ?_)
        · replace hEX := hEX.trans (if_pos c_133)
          have g_134 : RG x_131 0 0 := RG_eq1 g_132 (RG_k 0 0 rfl) c_133 (by decide +kernel)
          have n_135 : bn p0 0 = 0 := bn_0 (k := 0) ex_130 ex_131 c_133
          refine lv_iconst (v := 0) hx hb dX12_bytesIn_24 kc_iconst_0 ?_
          refine lv_iadd hx hb dX12_bytesIn_25 ?_
          refine lv_topi (fun x_136 ex_136 => ?_)
          obtain rfl : x_136 = 2 := ex_136.trans (by decide +kernel)
          refine lv_istore_n (lv' := [(1, .int 2), (2, .int 0), (0, .int p0)]) hx hb dX12_bytesIn_26 rfl hl (Nat.le_of_ble_eq_true rfl) rfl (fun ls hl => ?_)
          refine lv_iinc (v := (-8)) (lv' := [(2, .int (-8)), (1, .int 2), (0, .int p0)]) hx hb dX12_bytesIn_27 hl (k := 1) rfl (by decide +kernel) (Nat.le_of_ble_eq_true rfl) rfl (fun ls hl => ?_)
          refine lv_goto (tgt := 5) hx hb dX12_bytesIn_30 rfl ?_
          as_aux_lemma =>
          refine lv_iload_n hx hb dX12_bytesIn_5 rfl (lv_at hl 0 rfl) ?_
          refine lv_if_lt (tgt := 33) hx hb dX12_bytesIn_6 rfl (fun c_137 => ?_) (fun c_137 => absurd c_137 (by decide +kernel))
          refine lv_iload_n hx hb dX12_bytesIn_33 rfl (lv_at hl 1 rfl) ?_
          have hK9 := hK.sub (tys' := []) [] rfl
          exact W.iret (v := 2) hx hb hr (fun t ht hW => ⟨⟨2, (), rfl, ⟨(RG_w (RG_k 2 2 rfl) (by decide +kernel)), (by have := n_95; have := n_103; have := n_127; have := n_135; show (2 : Int32).toInt = BN p0; have h0 : (2 : Int32).toInt = 2 := rfl; unfold BN; omega), (hR.trans hEX).symm⟩, by rw [ht]; exact hP, va_K.moved hW.alike hK9, hD⟩, hS.F ht⟩) hS.2.2 dX12_bytesIn_34
        · replace hEX := hEX.trans (if_neg c_133)
          have g_138 : RG x_131 1 255 := RG_ne1 g_132 (q := 0) rfl c_133 (by decide +kernel)
          have n_139 : bn p0 0 = 1 := bn_1 (k := 0) ex_130 ex_131 c_133
          refine lv_iconst (v := 1) hx hb dX12_bytesIn_20 kc_iconst_1 ?_
          refine lv_goto (tgt := 25) hx hb dX12_bytesIn_21 rfl ?_
          refine lv_iadd hx hb dX12_bytesIn_25 ?_
          refine lv_topi (fun x_140 ex_140 => ?_)
          obtain rfl : x_140 = 3 := ex_140.trans (by decide +kernel)
          refine lv_istore_n (lv' := [(1, .int 3), (2, .int 0), (0, .int p0)]) hx hb dX12_bytesIn_26 rfl hl (Nat.le_of_ble_eq_true rfl) rfl (fun ls hl => ?_)
          as_aux_lemma =>
          refine lv_iinc (v := (-8)) (lv' := [(2, .int (-8)), (1, .int 3), (0, .int p0)]) hx hb dX12_bytesIn_27 hl (k := 1) rfl (by decide +kernel) (Nat.le_of_ble_eq_true rfl) rfl (fun ls hl => ?_)
          refine lv_goto (tgt := 5) hx hb dX12_bytesIn_30 rfl ?_
          refine lv_iload_n hx hb dX12_bytesIn_5 rfl (lv_at hl 0 rfl) ?_
          refine lv_if_lt (tgt := 33) hx hb dX12_bytesIn_6 rfl (fun c_141 => ?_) (fun c_141 => absurd c_141 (by decide +kernel))
          refine lv_iload_n hx hb dX12_bytesIn_33 rfl (lv_at hl 1 rfl) ?_
          have hK9 := hK.sub (tys' := []) [] rfl
          exact W.iret (v := 3) hx hb hr (fun t ht hW => ⟨⟨3, (), rfl, ⟨(RG_w (RG_k 3 3 rfl) (by decide +kernel)), (by have := n_95; have := n_103; have := n_127; have := n_139; show (3 : Int32).toInt = BN p0; have h0 : (3 : Int32).toInt = 3 := rfl; unfold BN; omega), (hR.trans hEX).symm⟩, by rw [ht]; exact hP, va_K.moved hW.alike hK9, hD⟩, hS.F ht⟩) hS.2.2 dX12_bytesIn_34
    · replace hEX := hEX.trans (if_neg c_101)
      have g_142 : RG x_99 1 255 := RG_ne1 g_100 (q := 0) rfl c_101 (by decide +kernel)
      have n_143 : bn p0 16 = 1 := bn_1 (k := 16) ex_98 ex_99 c_101
      refine lv_iconst (v := 1) hx hb dX12_bytesIn_20 kc_iconst_1 ?_
      refine lv_goto (tgt := 25) hx hb dX12_bytesIn_21 rfl ?_
      refine lv_iadd hx hb dX12_bytesIn_25 ?_
      refine lv_topi (fun x_144 ex_144 => ?_)
      as_aux_lemma =>
      obtain rfl : x_144 = 2 := ex_144.trans (by decide +kernel)
      refine lv_istore_n (lv' := [(1, .int 2), (2, .int 16), (0, .int p0)]) hx hb dX12_bytesIn_26 rfl hl (Nat.le_of_ble_eq_true rfl) rfl (fun ls hl => ?_)
      refine lv_iinc (v := 8) (lv' := [(2, .int 8), (1, .int 2), (0, .int p0)]) hx hb dX12_bytesIn_27 hl (k := 1) rfl (by decide +kernel) (Nat.le_of_ble_eq_true rfl) rfl (fun ls hl => ?_)
      refine lv_goto (tgt := 5) hx hb dX12_bytesIn_30 rfl ?_
      refine lv_iload_n hx hb dX12_bytesIn_5 rfl (lv_at hl 0 rfl) ?_
      refine lv_if_lt (tgt := 33) hx hb dX12_bytesIn_6 rfl (fun c_145 => absurd c_145 (by decide +kernel)) (fun c_145 => ?_)
      refine lv_iload_n hx hb dX12_bytesIn_9 rfl (lv_at hl 1 rfl) ?_
      refine lv_iload_n hx hb dX12_bytesIn_10 rfl (lv_at hl 2 rfl) ?_
      refine lv_iload_n hx hb dX12_bytesIn_11 rfl (lv_at hl 0 rfl) ?_
      refine lv_ishr hx hb dX12_bytesIn_12 ?_
      refine lv_topi (fun x_146 ex_146 => ?_)
      replace hEX := hEX.trans (exl_eq ex_146)
      refine lv_sipush (v := 255) hx hb dX12_bytesIn_13 kc_sipush_255 ?_
      refine lv_iand hx hb dX12_bytesIn_16 ?_
      as_aux_lemma =>
      refine lv_topi (fun x_147 ex_147 => ?_)
      replace hEX := hEX.trans (exl_eq ex_147)
      have g_148 : RG x_147 0 255 := RG_andr ex_147 (RG_k 255 255 rfl) (by decide +kernel)
      refine lv_if_eq (tgt := 24) hx hb dX12_bytesIn_17 rfl (fun c_149 => ?_) (fun c_149 => ?_)
      · replace hEX := hEX.trans (if_pos c_149)
        have g_150 : RG x_147 0 0 := RG_eq1 g_148 (RG_k 0 0 rfl) c_149 (by decide +kernel)
        have n_151 : bn p0 8 = 0 := bn_0 (k := 8) ex_146 ex_147 c_149
        refine lv_iconst (v := 0) hx hb dX12_bytesIn_24 kc_iconst_0 ?_
        refine lv_iadd hx hb dX12_bytesIn_25 ?_
        refine lv_topi (fun x_152 ex_152 => ?_)
        obtain rfl : x_152 = 2 := ex_152.trans (by decide +kernel)
        refine lv_istore_n (lv' := [(1, .int 2), (2, .int 8), (0, .int p0)]) hx hb dX12_bytesIn_26 rfl hl (Nat.le_of_ble_eq_true rfl) rfl (fun ls hl => ?_)
        refine lv_iinc (v := 0) (lv' := [(2, .int 0), (1, .int 2), (0, .int p0)]) hx hb dX12_bytesIn_27 hl (k := 1) rfl (by decide +kernel) (Nat.le_of_ble_eq_true rfl) rfl (fun ls hl => ?_)
        refine lv_goto (tgt := 5) hx hb dX12_bytesIn_30 rfl ?_
        as_aux_lemma =>
        refine lv_iload_n hx hb dX12_bytesIn_5 rfl (lv_at hl 0 rfl) ?_
        refine lv_if_lt (tgt := 33) hx hb dX12_bytesIn_6 rfl (fun c_153 => absurd c_153 (by decide +kernel)) (fun c_153 => ?_)
        refine lv_iload_n hx hb dX12_bytesIn_9 rfl (lv_at hl 1 rfl) ?_
        refine lv_iload_n hx hb dX12_bytesIn_10 rfl (lv_at hl 2 rfl) ?_
        refine lv_iload_n hx hb dX12_bytesIn_11 rfl (lv_at hl 0 rfl) ?_
        refine lv_ishr hx hb dX12_bytesIn_12 ?_
        refine lv_topi (fun x_154 ex_154 => ?_)
        replace hEX := hEX.trans (exl_eq ex_154)
        refine lv_sipush (v := 255) hx hb dX12_bytesIn_13 kc_sipush_255 ?_
        refine lv_iand hx hb dX12_bytesIn_16 ?_
        refine lv_topi (fun x_155 ex_155 => ?_)
        replace hEX := hEX.trans (exl_eq ex_155)
        have g_156 : RG x_155 0 255 := RG_andr ex_155 (RG_k 255 255 rfl) (by decide +kernel)
        refine lv_if_eq (tgt := 24) hx hb dX12_bytesIn_17 rfl (fun c_157 => ?_) (fun c_157 => ?_)
        · replace hEX := hEX.trans (if_pos c_157)
          have g_158 : RG x_155 0 0 := RG_eq1 g_156 (RG_k 0 0 rfl) c_157 (by decide +kernel)
          have n_159 : bn p0 0 = 0 := bn_0 (k := 0) ex_154 ex_155 c_157
          refine lv_iconst (v := 0) hx hb dX12_bytesIn_24 kc_iconst_0 ?_
          as_aux_lemma =>
          refine lv_iadd hx hb dX12_bytesIn_25 ?_
          refine lv_topi (fun x_160 ex_160 => ?_)
          obtain rfl : x_160 = 2 := ex_160.trans (by decide +kernel)
          refine lv_istore_n (lv' := [(1, .int 2), (2, .int 0), (0, .int p0)]) hx hb dX12_bytesIn_26 rfl hl (Nat.le_of_ble_eq_true rfl) rfl (fun ls hl => ?_)
          refine lv_iinc (v := (-8)) (lv' := [(2, .int (-8)), (1, .int 2), (0, .int p0)]) hx hb dX12_bytesIn_27 hl (k := 1) rfl (by decide +kernel) (Nat.le_of_ble_eq_true rfl) rfl (fun ls hl => ?_)
          refine lv_goto (tgt := 5) hx hb dX12_bytesIn_30 rfl ?_
          refine lv_iload_n hx hb dX12_bytesIn_5 rfl (lv_at hl 0 rfl) ?_
          refine lv_if_lt (tgt := 33) hx hb dX12_bytesIn_6 rfl (fun c_161 => ?_) (fun c_161 => absurd c_161 (by decide +kernel))
          refine lv_iload_n hx hb dX12_bytesIn_33 rfl (lv_at hl 1 rfl) ?_
          have hK9 := hK.sub (tys' := []) [] rfl
          exact W.iret (v := 2) hx hb hr (fun t ht hW => ⟨⟨2, (), rfl, ⟨(RG_w (RG_k 2 2 rfl) (by decide +kernel)), (by have := n_95; have := n_143; have := n_151; have := n_159; show (2 : Int32).toInt = BN p0; have h0 : (2 : Int32).toInt = 2 := rfl; unfold BN; omega), (hR.trans hEX).symm⟩, by rw [ht]; exact hP, va_K.moved hW.alike hK9, hD⟩, hS.F ht⟩) hS.2.2 dX12_bytesIn_34
        · replace hEX := hEX.trans (if_neg c_157)
          have g_162 : RG x_155 1 255 := RG_ne1 g_156 (q := 0) rfl c_157 (by decide +kernel)
          have n_163 : bn p0 0 = 1 := bn_1 (k := 0) ex_154 ex_155 c_157
          refine lv_iconst (v := 1) hx hb dX12_bytesIn_20 kc_iconst_1 ?_
          as_aux_lemma =>
          refine lv_goto (tgt := 25) hx hb dX12_bytesIn_21 rfl ?_
          refine lv_iadd hx hb dX12_bytesIn_25 ?_
          refine lv_topi (fun x_164 ex_164 => ?_)
          obtain rfl : x_164 = 3 := ex_164.trans (by decide +kernel)
          refine lv_istore_n (lv' := [(1, .int 3), (2, .int 0), (0, .int p0)]) hx hb dX12_bytesIn_26 rfl hl (Nat.le_of_ble_eq_true rfl) rfl (fun ls hl => ?_)
          refine lv_iinc (v := (-8)) (lv' := [(2, .int (-8)), (1, .int 3), (0, .int p0)]) hx hb dX12_bytesIn_27 hl (k := 1) rfl (by decide +kernel) (Nat.le_of_ble_eq_true rfl) rfl (fun ls hl => ?_)
          refine lv_goto (tgt := 5) hx hb dX12_bytesIn_30 rfl ?_
          refine lv_iload_n hx hb dX12_bytesIn_5 rfl (lv_at hl 0 rfl) ?_
          refine lv_if_lt (tgt := 33) hx hb dX12_bytesIn_6 rfl (fun c_165 => ?_) (fun c_165 => absurd c_165 (by decide +kernel))
          refine lv_iload_n hx hb dX12_bytesIn_33 rfl (lv_at hl 1 rfl) ?_
          have hK9 := hK.sub (tys' := []) [] rfl
          exact W.iret (v := 3) hx hb hr (fun t ht hW => ⟨⟨3, (), rfl, ⟨(RG_w (RG_k 3 3 rfl) (by decide +kernel)), (by have := n_95; have := n_143; have := n_151; have := n_163; show (3 : Int32).toInt = BN p0; have h0 : (3 : Int32).toInt = 3 := rfl; unfold BN; omega), (hR.trans hEX).symm⟩, by rw [ht]; exact hP, va_K.moved hW.alike hK9, hD⟩, hS.F ht⟩) hS.2.2 dX12_bytesIn_34
      · replace hEX := hEX.trans (if_neg c_149)
        have g_166 : RG x_147 1 255 := RG_ne1 g_148 (q := 0) rfl c_149 (by decide +kernel)
        have n_167 : bn p0 8 = 1 := bn_1 (k := 8) ex_146 ex_147 c_149
        refine lv_iconst (v := 1) hx hb dX12_bytesIn_20 kc_iconst_1 ?_
        as_aux_lemma =>
        refine lv_goto (tgt := 25) hx hb dX12_bytesIn_21 rfl ?_
        refine lv_iadd hx hb dX12_bytesIn_25 ?_
        refine lv_topi (fun x_168 ex_168 => ?_)
        obtain rfl : x_168 = 3 := ex_168.trans (by decide +kernel)
        refine lv_istore_n (lv' := [(1, .int 3), (2, .int 8), (0, .int p0)]) hx hb dX12_bytesIn_26 rfl hl (Nat.le_of_ble_eq_true rfl) rfl (fun ls hl => ?_)
        refine lv_iinc (v := 0) (lv' := [(2, .int 0), (1, .int 3), (0, .int p0)]) hx hb dX12_bytesIn_27 hl (k := 1) rfl (by decide +kernel) (Nat.le_of_ble_eq_true rfl) rfl (fun ls hl => ?_)
        refine lv_goto (tgt := 5) hx hb dX12_bytesIn_30 rfl ?_
        refine lv_iload_n hx hb dX12_bytesIn_5 rfl (lv_at hl 0 rfl) ?_
        refine lv_if_lt (tgt := 33) hx hb dX12_bytesIn_6 rfl (fun c_169 => absurd c_169 (by decide +kernel)) (fun c_169 => ?_)
        refine lv_iload_n hx hb dX12_bytesIn_9 rfl (lv_at hl 1 rfl) ?_
        refine lv_iload_n hx hb dX12_bytesIn_10 rfl (lv_at hl 2 rfl) ?_
        refine lv_iload_n hx hb dX12_bytesIn_11 rfl (lv_at hl 0 rfl) ?_
        refine lv_ishr hx hb dX12_bytesIn_12 ?_
        refine lv_topi (fun x_170 ex_170 => ?_)
        as_aux_lemma =>
        replace hEX := hEX.trans (exl_eq ex_170)
        refine lv_sipush (v := 255) hx hb dX12_bytesIn_13 kc_sipush_255 ?_
        refine lv_iand hx hb dX12_bytesIn_16 ?_
        refine lv_topi (fun x_171 ex_171 => ?_)
        replace hEX := hEX.trans (exl_eq ex_171)
        have g_172 : RG x_171 0 255 := RG_andr ex_171 (RG_k 255 255 rfl) (by decide +kernel)
        refine lv_if_eq (tgt := 24) hx hb dX12_bytesIn_17 rfl (fun c_173 => ?_) (fun c_173 => ?_)
        · replace hEX := hEX.trans (if_pos c_173)
          have g_174 : RG x_171 0 0 := RG_eq1 g_172 (RG_k 0 0 rfl) c_173 (by decide +kernel)
          have n_175 : bn p0 0 = 0 := bn_0 (k := 0) ex_170 ex_171 c_173
          refine lv_iconst (v := 0) hx hb dX12_bytesIn_24 kc_iconst_0 ?_
          refine lv_iadd hx hb dX12_bytesIn_25 ?_
          refine lv_topi (fun x_176 ex_176 => ?_)
          obtain rfl : x_176 = 3 := ex_176.trans (by decide +kernel)
          refine lv_istore_n (lv' := [(1, .int 3), (2, .int 0), (0, .int p0)]) hx hb dX12_bytesIn_26 rfl hl (Nat.le_of_ble_eq_true rfl) rfl (fun ls hl => ?_)
          as_aux_lemma =>
          refine lv_iinc (v := (-8)) (lv' := [(2, .int (-8)), (1, .int 3), (0, .int p0)]) hx hb dX12_bytesIn_27 hl (k := 1) rfl (by decide +kernel) (Nat.le_of_ble_eq_true rfl) rfl (fun ls hl => ?_)
          refine lv_goto (tgt := 5) hx hb dX12_bytesIn_30 rfl ?_
          refine lv_iload_n hx hb dX12_bytesIn_5 rfl (lv_at hl 0 rfl) ?_
          refine lv_if_lt (tgt := 33) hx hb dX12_bytesIn_6 rfl (fun c_177 => ?_) (fun c_177 => absurd c_177 (by decide +kernel))
          refine lv_iload_n hx hb dX12_bytesIn_33 rfl (lv_at hl 1 rfl) ?_
          have hK9 := hK.sub (tys' := []) [] rfl
          exact W.iret (v := 3) hx hb hr (fun t ht hW => ⟨⟨3, (), rfl, ⟨(RG_w (RG_k 3 3 rfl) (by decide +kernel)), (by have := n_95; have := n_143; have := n_167; have := n_175; show (3 : Int32).toInt = BN p0; have h0 : (3 : Int32).toInt = 3 := rfl; unfold BN; omega), (hR.trans hEX).symm⟩, by rw [ht]; exact hP, va_K.moved hW.alike hK9, hD⟩, hS.F ht⟩) hS.2.2 dX12_bytesIn_34
        · replace hEX := hEX.trans (if_neg c_173)
          have g_178 : RG x_171 1 255 := RG_ne1 g_172 (q := 0) rfl c_173 (by decide +kernel)
          have n_179 : bn p0 0 = 1 := bn_1 (k := 0) ex_170 ex_171 c_173
          refine lv_iconst (v := 1) hx hb dX12_bytesIn_20 kc_iconst_1 ?_
          refine lv_goto (tgt := 25) hx hb dX12_bytesIn_21 rfl ?_
          refine lv_iadd hx hb dX12_bytesIn_25 ?_
          refine lv_topi (fun x_180 ex_180 => ?_)
          as_aux_lemma =>
          obtain rfl : x_180 = 4 := ex_180.trans (by decide +kernel)
          refine lv_istore_n (lv' := [(1, .int 4), (2, .int 0), (0, .int p0)]) hx hb dX12_bytesIn_26 rfl hl (Nat.le_of_ble_eq_true rfl) rfl (fun ls hl => ?_)
          refine lv_iinc (v := (-8)) (lv' := [(2, .int (-8)), (1, .int 4), (0, .int p0)]) hx hb dX12_bytesIn_27 hl (k := 1) rfl (by decide +kernel) (Nat.le_of_ble_eq_true rfl) rfl (fun ls hl => ?_)
          refine lv_goto (tgt := 5) hx hb dX12_bytesIn_30 rfl ?_
          refine lv_iload_n hx hb dX12_bytesIn_5 rfl (lv_at hl 0 rfl) ?_
          refine lv_if_lt (tgt := 33) hx hb dX12_bytesIn_6 rfl (fun c_181 => ?_) (fun c_181 => absurd c_181 (by decide +kernel))
          refine lv_iload_n hx hb dX12_bytesIn_33 rfl (lv_at hl 1 rfl) ?_
          have hK9 := hK.sub (tys' := []) [] rfl
          exact W.iret (v := 4) hx hb hr (fun t ht hW => ⟨⟨4, (), rfl, ⟨(RG_w (RG_k 4 4 rfl) (by decide +kernel)), (by have := n_95; have := n_143; have := n_167; have := n_179; show (4 : Int32).toInt = BN p0; have h0 : (4 : Int32).toInt = 4 := rfl; unfold BN; omega), (hR.trans hEX).symm⟩, by rw [ht]; exact hP, va_K.moved hW.alike hK9, hD⟩, hS.F ht⟩) hS.2.2 dX12_bytesIn_34
noncomputable def wd_c_X12_put (a0 : Nat) (a1 : Int32) (a2 : Nat) (a3 : Nat) (a4 : Nat) (a5 : Nat) (a6 : Nat) (a7 : Int32) (a8 : Int32) (a9 : Int32) (a10 : Int32) (a11 : Int32) (a12 : Int32) (a13 : Int32) (a14 : Int32) (a15 : Int32) (a16 : Nat) (a17 : Nat) (a18 : Int32) (a19 : Nat) (a20 : Nat) (a21 : Nat) (a22 : Nat) (a23 : Nat) (a24 : Nat) (a25 : Nat) (a26 : Nat) (a27 : Int32) (a28 : Int32) (a29 : Int32) (a30 : Int32) (a31 : Int32) (a32 : Int32) (a33 : Nat) (a34 : Nat) (a35 : Int32) (a36 : Nat) (a37 : Nat) (a38 : Nat) (a39 : Nat) (a40 : Nat) (a41 : Nat) (a42 : Int32) (a43 : Int64) (a44 : Int32) (a45 : Int32) (a46 : Nat) (a47 : Nat) (a48 : Nat) (a49 : Nat) (a50 : Nat) (a51 : Nat) (a52 : Int32) (a53 : Nat) (a54 : Int32) (a55 : Nat) (a56 : ClassId) (a57 : Nat → Int32) : va_W := [(a0, .inr (12, [.int a1, .ref a2, .ref a3, .ref a4, .ref a5, .ref a6, .int a7, .int a8, .int a9, .int a10, .int a11, .int a12, .int a13, .int a14, .int a15, .ref a16, .ref a17, .int a18, .ref a19, .ref a20, .ref a21, .ref a22, .ref a23, .ref a24, .ref a25, .ref a26, .int a27, .int a28, .int a29, .int a30, .int a31, .int a32, .ref a33, .ref a34, .int a35, .ref a36, .ref a37, .ref a38, .ref a39, .ref a40, .ref a41, .int a42, .long a43, .int a44, .int a45, .ref a46, .ref a47, .ref a48, .ref a49, .ref a50, .ref a51, .int a52, .ref a53, .int a54])), (a55, .inl (a56, 240, .inl a57))]
noncomputable def wf_c_X12_put : List Cond := List.cons (.code yX12_put cX12_put 3 none) (@HAppend.hAppend (List Cond) (List Cond) (List Cond) _ [.fieldLink RX12 9 "BuoyVoteModel" "tape" "[B", .fieldLink RX12 124 "BuoyVoteModel" "length" "I"] wsX120)
theorem iw_c_X12_put_X12 : ∀ w ∈ wsX120, w ∈ wf_c_X12_put := fun w h => List.mem_cons_of_mem _ (List.mem_append_right _ h)
set_option maxHeartbeats 4000000 in
set_option maxRecDepth 100000 in
theorem c_X12_put (l : Launch) (dC : Nat → ClassId) (dI : Nat → Nat → Nat) (sz : Nat) (h0 : Nat) (p1 : Int32) (h0_f0 : Int32) (h0_1 : Nat) (h0_2 : Nat) (h0_3 : Nat) (h0_4 : Nat) (h0_5 : Nat) (h0_f6 : Int32) (h0_f7 : Int32) (h0_f8 : Int32) (h0_f9 : Int32) (h0_f10 : Int32) (h0_f11 : Int32) (h0_f12 : Int32) (h0_f13 : Int32) (h0_f14 : Int32) (h0_15 : Nat) (h0_16 : Nat) (h0_f17 : Int32) (h0_18 : Nat) (h0_19 : Nat) (h0_20 : Nat) (h0_21 : Nat) (h0_22 : Nat) (h0_23 : Nat) (h0_24 : Nat) (h0_25 : Nat) (h0_f26 : Int32) (h0_f27 : Int32) (h0_f28 : Int32) (h0_f29 : Int32) (h0_f30 : Int32) (h0_f31 : Int32) (h0_32 : Nat) (h0_33 : Nat) (h0_f34 : Int32) (h0_35 : Nat) (h0_36 : Nat) (h0_37 : Nat) (h0_38 : Nat) (h0_39 : Nat) (h0_40 : Nat) (h0_f41 : Int32) (h0_f42 : Int64) (h0_f43 : Int32) (h0_f44 : Int32) (h0_45 : Nat) (h0_46 : Nat) (h0_47 : Nat) (h0_48 : Nat) (h0_49 : Nat) (h0_50 : Nat) (h0_f51 : Int32) (h0_52 : Nat) (h0_f53 : Int32) (h0_1k : ClassId) (h0_1c : Nat → Int32) (g_h0_f6 : RG h0_f6 0 240) (g_h0_f7 : RG h0_f7 0 4) (g_h0_f8 : RG h0_f8 0 720) (g_h0_f9 : RG h0_f9 0 240) (g_h0_f10 : RG h0_f10 0 240) (g_h0_f11 : RG h0_f11 (-1) 240) (g_h0_f17 : RG h0_f17 0 1) (g_h0_f26 : RG h0_f26 0 8) (g_h0_f27 : RG h0_f27 0 3) (g_h0_f28 : RG h0_f28 0 8) (g_h0_f29 : RG h0_f29 0 3) (g_h0_f30 : RG h0_f30 0 4) (g_h0_f31 : RG h0_f31 0 1) (g_h0_f34 : RG h0_f34 (-1) 3) (g_h0_f41 : RG h0_f41 0 40) (g_h0_f51 : RG h0_f51 0 10) (g_h0_f53 : RG h0_f53 0 1) (hbn : h0_f6.toInt + BN p1 ≤ 240) : Met l yX12_put wf_c_X12_put ({ frames := 0, cells := 0, slots := 0, locals := 0 }) (va_Pc [.ref h0, .int p1] (fun U => U.heap.size = sz ∧ va_P (dC, dI) vwCl (wd_c_X12_put h0 h0_f0 h0_1 h0_2 h0_3 h0_4 h0_5 h0_f6 h0_f7 h0_f8 h0_f9 h0_f10 h0_f11 h0_f12 h0_f13 h0_f14 h0_15 h0_16 h0_f17 h0_18 h0_19 h0_20 h0_21 h0_22 h0_23 h0_24 h0_25 h0_f26 h0_f27 h0_f28 h0_f29 h0_f30 h0_f31 h0_32 h0_33 h0_f34 h0_35 h0_36 h0_37 h0_38 h0_39 h0_40 h0_f41 h0_f42 h0_f43 h0_f44 h0_45 h0_46 h0_47 h0_48 h0_49 h0_50 h0_f51 h0_52 h0_f53 h0_1 h0_1k h0_1c) U.heap ∧ va_K (dC, dI) vwCl [(h0_1k, .byte)] U ∧ va_D (fun _ => True) (wd_c_X12_put h0 h0_f0 h0_1 h0_2 h0_3 h0_4 h0_5 h0_f6 h0_f7 h0_f8 h0_f9 h0_f10 h0_f11 h0_f12 h0_f13 h0_f14 h0_15 h0_16 h0_f17 h0_18 h0_19 h0_20 h0_21 h0_22 h0_23 h0_24 h0_25 h0_f26 h0_f27 h0_f28 h0_f29 h0_f30 h0_f31 h0_32 h0_33 h0_f34 h0_35 h0_36 h0_37 h0_38 h0_39 h0_40 h0_f41 h0_f42 h0_f43 h0_f44 h0_45 h0_46 h0_47 h0_48 h0_49 h0_50 h0_f51 h0_52 h0_f53 h0_1 h0_1k h0_1c))) (va_Qv (fun (u : (Int32) × (Nat → Int32)) => (RG u.1 0 240 ∧ ((u.1)).toInt = h0_f6.toInt + BN p1 ∧ (u.1, u.2) = fx_c_X12_put p1 h0_f6 h0_1c)) (fun (u : (Int32) × (Nat → Int32)) t => va_P (dC, dI) vwCl (wd_c_X12_put h0 h0_f0 h0_1 h0_2 h0_3 h0_4 h0_5 (u.1) h0_f7 h0_f8 h0_f9 h0_f10 h0_f11 h0_f12 h0_f13 h0_f14 h0_15 h0_16 h0_f17 h0_18 h0_19 h0_20 h0_21 h0_22 h0_23 h0_24 h0_25 h0_f26 h0_f27 h0_f28 h0_f29 h0_f30 h0_f31 h0_32 h0_33 h0_f34 h0_35 h0_36 h0_37 h0_38 h0_39 h0_40 h0_f41 h0_f42 h0_f43 h0_f44 h0_45 h0_46 h0_47 h0_48 h0_49 h0_50 h0_f51 h0_52 h0_f53 h0_1 h0_1k (u.2)) t.heap ∧ va_K (dC, dI) vwCl [] t ∧ va_D (va_A (wd_c_X12_put h0 h0_f0 h0_1 h0_2 h0_3 h0_4 h0_5 h0_f6 h0_f7 h0_f8 h0_f9 h0_f10 h0_f11 h0_f12 h0_f13 h0_f14 h0_15 h0_16 h0_f17 h0_18 h0_19 h0_20 h0_21 h0_22 h0_23 h0_24 h0_25 h0_f26 h0_f27 h0_f28 h0_f29 h0_f30 h0_f31 h0_32 h0_33 h0_f34 h0_35 h0_36 h0_37 h0_38 h0_39 h0_40 h0_f41 h0_f42 h0_f43 h0_f44 h0_45 h0_46 h0_47 h0_48 h0_49 h0_50 h0_f51 h0_52 h0_f53 h0_1 h0_1k h0_1c) sz) (wd_c_X12_put h0 h0_f0 h0_1 h0_2 h0_3 h0_4 h0_5 (u.1) h0_f7 h0_f8 h0_f9 h0_f10 h0_f11 h0_f12 h0_f13 h0_f14 h0_15 h0_16 h0_f17 h0_18 h0_19 h0_20 h0_21 h0_22 h0_23 h0_24 h0_25 h0_f26 h0_f27 h0_f28 h0_f29 h0_f30 h0_f31 h0_32 h0_33 h0_f34 h0_35 h0_36 h0_37 h0_38 h0_39 h0_40 h0_f41 h0_f42 h0_f43 h0_f44 h0_45 h0_46 h0_47 h0_48 h0_49 h0_50 h0_f51 h0_52 h0_f53 h0_1 h0_1k (u.2))) (va_A (wd_c_X12_put h0 h0_f0 h0_1 h0_2 h0_3 h0_4 h0_5 h0_f6 h0_f7 h0_f8 h0_f9 h0_f10 h0_f11 h0_f12 h0_f13 h0_f14 h0_15 h0_16 h0_f17 h0_18 h0_19 h0_20 h0_21 h0_22 h0_23 h0_24 h0_25 h0_f26 h0_f27 h0_f28 h0_f29 h0_f30 h0_f31 h0_32 h0_33 h0_f34 h0_35 h0_36 h0_37 h0_38 h0_39 h0_40 h0_f41 h0_f42 h0_f43 h0_f44 h0_45 h0_46 h0_47 h0_48 h0_49 h0_50 h0_f51 h0_52 h0_f53 h0_1 h0_1k h0_1c) sz)) 0 0 (va_A (wd_c_X12_put h0 h0_f0 h0_1 h0_2 h0_3 h0_4 h0_5 h0_f6 h0_f7 h0_f8 h0_f9 h0_f10 h0_f11 h0_f12 h0_f13 h0_f14 h0_15 h0_16 h0_f17 h0_18 h0_19 h0_20 h0_21 h0_22 h0_23 h0_24 h0_25 h0_f26 h0_f27 h0_f28 h0_f29 h0_f30 h0_f31 h0_32 h0_33 h0_f34 h0_35 h0_36 h0_37 h0_38 h0_39 h0_40 h0_f41 h0_f42 h0_f43 h0_f44 h0_45 h0_46 h0_47 h0_48 h0_49 h0_50 h0_f51 h0_52 h0_f53 h0_1 h0_1k h0_1c) sz) := by
  refine Met.ofW (cc := cX12_put) (maxL := 3) (ret := none) (by decide +kernel) rfl ?_
  intro p e s m args below meth c s₁ B hml hv
  obtain ⟨rfl, hsz, hP, hK, hD0⟩ := hv
  have hx := B.exec
  have hb := B.bytes
  have hr := B.returns
  have hts := atoms_spec (ws := wf_c_X12_put) B.pre
  have hown : s.vm.findClass RX12 = some m.cls := findClass_of_methodNamed B.named
  have hlocks := B.notSynchronized
  subst hsz
  have hD := hD0.self (sz := s.heap.size)
  generalize hAe : va_A (wd_c_X12_put h0 h0_f0 h0_1 h0_2 h0_3 h0_4 h0_5 h0_f6 h0_f7 h0_f8 h0_f9 h0_f10 h0_f11 h0_f12 h0_f13 h0_f14 h0_15 h0_16 h0_f17 h0_18 h0_19 h0_20 h0_21 h0_22 h0_23 h0_24 h0_25 h0_f26 h0_f27 h0_f28 h0_f29 h0_f30 h0_f31 h0_32 h0_33 h0_f34 h0_35 h0_36 h0_37 h0_38 h0_39 h0_40 h0_f41 h0_f42 h0_f43 h0_f44 h0_45 h0_46 h0_47 h0_48 h0_49 h0_50 h0_f51 h0_52 h0_f53 h0_1 h0_1k h0_1c) s.heap.size = A at hD ⊢
  have hA : ∀ q : Nat, s.heap.size ≤ q → A q := fun q h => by rw [← hAe]; exact Or.inr h
  have hP : va_P (dC, dI) vwCl (wd_c_X12_put h0 h0_f0 h0_1 h0_2 h0_3 h0_4 h0_5 h0_f6 h0_f7 h0_f8 h0_f9 h0_f10 h0_f11 h0_f12 h0_f13 h0_f14 h0_15 h0_16 h0_f17 h0_18 h0_19 h0_20 h0_21 h0_22 h0_23 h0_24 h0_25 h0_f26 h0_f27 h0_f28 h0_f29 h0_f30 h0_f31 h0_32 h0_33 h0_f34 h0_35 h0_36 h0_37 h0_38 h0_39 h0_40 h0_f41 h0_f42 h0_f43 h0_f44 h0_45 h0_46 h0_47 h0_48 h0_49 h0_50 h0_f51 h0_52 h0_f53 h0_1 h0_1k h0_1c) s.heap := hP
  have hl := lv_entry ([.ref h0, .int p1]) (n := 3) (Nat.le_of_ble_eq_true rfl)
  rw [lg_entry_eq]
  generalize (lg_sl ([.ref h0, .int p1]) ++ List.replicate (3 - (lg_sl ([.ref h0, .int p1])).length) Slot.unset).toArray = ls at hl ⊢
  have hl : lv_has ls 3 [(0, .ref h0), (1, .int p1)] := hl
  obtain ⟨H, hHe⟩ : ∃ H : Heap, s.heap = H := ⟨_, rfl⟩
  have hS : va_S A s.heap H [] := by rw [hHe]; exact va_S.rf
  have hP : va_P (dC, dI) vwCl (wd_c_X12_put h0 h0_f0 h0_1 h0_2 h0_3 h0_4 h0_5 h0_f6 h0_f7 h0_f8 h0_f9 h0_f10 h0_f11 h0_f12 h0_f13 h0_f14 h0_15 h0_16 h0_f17 h0_18 h0_19 h0_20 h0_21 h0_22 h0_23 h0_24 h0_25 h0_f26 h0_f27 h0_f28 h0_f29 h0_f30 h0_f31 h0_32 h0_33 h0_f34 h0_35 h0_36 h0_37 h0_38 h0_39 h0_40 h0_f41 h0_f42 h0_f43 h0_f44 h0_45 h0_46 h0_47 h0_48 h0_49 h0_50 h0_f51 h0_52 h0_f53 h0_1 h0_1k h0_1c) H := by rw [← hHe]; exact hP
  rw [hHe]
  obtain ⟨RES, hR⟩ : ∃ z, fx_c_X12_put p1 h0_f6 h0_1c = z := ⟨_, rfl⟩
  have hEX : RES = fx_c_X12_put p1 h0_f6 h0_1c := hR.symm
  refine lv_bipush (v := 24) hx hb dX12_put_0 kc_bipush_24 ?_
  as_aux_lemma =>
  refine lv_istore_n (lv' := [(2, .int 24), (0, .ref h0), (1, .int p1)]) hx hb dX12_put_2 rfl hl (Nat.le_of_ble_eq_true rfl) rfl (fun ls hl => ?_)
  refine lv_iload_n hx hb dX12_put_3 rfl (lv_at hl 0 rfl) ?_
  refine lv_if_lt (tgt := 49) hx hb dX12_put_4 rfl (fun c_1 => absurd c_1 (by decide +kernel)) (fun c_1 => ?_)
  refine lv_iload_n hx hb dX12_put_7 rfl (lv_at hl 2 rfl) ?_
  refine lv_iload_n hx hb dX12_put_8 rfl (lv_at hl 0 rfl) ?_
  refine lv_ishr hx hb dX12_put_9 ?_
  refine lv_topi (fun x_2 ex_2 => ?_)
  replace hEX := hEX.trans (exl_eq ex_2)
  refine lv_sipush (v := 255) hx hb dX12_put_10 kc_sipush_255 ?_
  refine lv_iand hx hb dX12_put_13 ?_
  refine lv_topi (fun x_3 ex_3 => ?_)
  replace hEX := hEX.trans (exl_eq ex_3)
  have g_4 : RG x_3 0 255 := RG_andr ex_3 (RG_k 255 255 rfl) (by decide +kernel)
  refine lv_if_ne (tgt := 20) hx hb dX12_put_14 rfl (fun c_5 => ?_) (fun c_5 => ?_)
  · replace hEX := hEX.trans (if_neg c_5)
    have g_6 : RG x_3 1 255 := RG_ne1 g_4 (q := 0) rfl c_5 (by decide +kernel)
    have n_7 : bn p1 24 = 1 := bn_1 (k := 24) ex_2 ex_3 c_5
    have g_8 : RG h0_f6 0 239 := ⟨(g_h0_f6).1, by have := n_7; have := hbn; unfold BN at this; have := bn_nn p1 24; have := bn_nn p1 16; have := bn_nn p1 8; have := bn_nn p1 0; omega⟩
    refine lv_aload_n hx hb dX12_put_20 rfl (lv_at hl 1 rfl) ?_
    as_aux_lemma =>
    refine va_get (D := (dC, dI)) (ci := 12) (v := .ref h0_1) (C := RX12) (T := TX12) (N := 54) hx hb hts iw_c_X12_put_X12 hown hK hP 0 rfl rfl 1 (by decide +kernel) (hts (.fieldLink RX12 9 "BuoyVoteModel" "tape" "[B") (List.mem_of_getElem? (i := 1) rfl)) (fun _ h9 => h9) rfl dX12_put_21 ?_
    refine lv_aload_n hx hb dX12_put_24 rfl (lv_at hl 1 rfl) ?_
    refine va_get (D := (dC, dI)) (ci := 12) (v := .int h0_f6) (C := RX12) (T := TX12) (N := 54) hx hb hts iw_c_X12_put_X12 hown hK hP 0 rfl rfl 6 (by decide +kernel) (hts (.fieldLink RX12 124 "BuoyVoteModel" "length" "I") (List.mem_of_getElem? (i := 2) rfl)) (fun _ h9 => h9) rfl dX12_put_25 ?_
    refine lv_iload_n hx hb dX12_put_28 rfl (lv_at hl 2 rfl) ?_
    refine lv_iload_n hx hb dX12_put_29 rfl (lv_at hl 0 rfl) ?_
    refine lv_ishr hx hb dX12_put_30 ?_
    refine lv_topi (fun x_9 ex_9 => ?_)
    replace hEX := hEX.trans (exl_eq ex_9)
    refine lv_i2b hx hb dX12_put_31 rfl ?_
    refine lv_topi (fun x_10 ex_10 => ?_)
    replace hEX := hEX.trans (exl_eq ex_10)
    refine va_bast hx hb hK hP hD hS 1 0 rfl rfl (RG_in g_8 (by decide +kernel)) dX12_put_32 (fun H locs hP hD hS => ?_)
    have hP : va_P (dC, dI) vwCl (wd_c_X12_put h0 h0_f0 h0_1 h0_2 h0_3 h0_4 h0_5 h0_f6 h0_f7 h0_f8 h0_f9 h0_f10 h0_f11 h0_f12 h0_f13 h0_f14 h0_15 h0_16 h0_f17 h0_18 h0_19 h0_20 h0_21 h0_22 h0_23 h0_24 h0_25 h0_f26 h0_f27 h0_f28 h0_f29 h0_f30 h0_f31 h0_32 h0_33 h0_f34 h0_35 h0_36 h0_37 h0_38 h0_39 h0_40 h0_f41 h0_f42 h0_f43 h0_f44 h0_45 h0_46 h0_47 h0_48 h0_49 h0_50 h0_f51 h0_52 h0_f53 h0_1 h0_1k (upd h0_1c (h0_f6 : Int32).toNatClampNeg (vp_nar .byte x_10))) H := hP
    have hD : va_D A (wd_c_X12_put h0 h0_f0 h0_1 h0_2 h0_3 h0_4 h0_5 h0_f6 h0_f7 h0_f8 h0_f9 h0_f10 h0_f11 h0_f12 h0_f13 h0_f14 h0_15 h0_16 h0_f17 h0_18 h0_19 h0_20 h0_21 h0_22 h0_23 h0_24 h0_25 h0_f26 h0_f27 h0_f28 h0_f29 h0_f30 h0_f31 h0_32 h0_33 h0_f34 h0_35 h0_36 h0_37 h0_38 h0_39 h0_40 h0_f41 h0_f42 h0_f43 h0_f44 h0_45 h0_46 h0_47 h0_48 h0_49 h0_50 h0_f51 h0_52 h0_f53 h0_1 h0_1k (upd h0_1c (h0_f6 : Int32).toNatClampNeg (vp_nar .byte x_10))) := hD
    generalize huw_11 : (upd h0_1c (h0_f6 : Int32).toNatClampNeg (vp_nar .byte x_10)) = w_11 at hP hD
    replace hEX := hEX.trans (exl_eq huw_11.symm)
    have hP : va_P (dC, dI) vwCl (wd_c_X12_put h0 h0_f0 h0_1 h0_2 h0_3 h0_4 h0_5 h0_f6 h0_f7 h0_f8 h0_f9 h0_f10 h0_f11 h0_f12 h0_f13 h0_f14 h0_15 h0_16 h0_f17 h0_18 h0_19 h0_20 h0_21 h0_22 h0_23 h0_24 h0_25 h0_f26 h0_f27 h0_f28 h0_f29 h0_f30 h0_f31 h0_32 h0_33 h0_f34 h0_35 h0_36 h0_37 h0_38 h0_39 h0_40 h0_f41 h0_f42 h0_f43 h0_f44 h0_45 h0_46 h0_47 h0_48 h0_49 h0_50 h0_f51 h0_52 h0_f53 h0_1 h0_1k w_11) H := hP
    have hD : va_D A (wd_c_X12_put h0 h0_f0 h0_1 h0_2 h0_3 h0_4 h0_5 h0_f6 h0_f7 h0_f8 h0_f9 h0_f10 h0_f11 h0_f12 h0_f13 h0_f14 h0_15 h0_16 h0_f17 h0_18 h0_19 h0_20 h0_21 h0_22 h0_23 h0_24 h0_25 h0_f26 h0_f27 h0_f28 h0_f29 h0_f30 h0_f31 h0_32 h0_33 h0_f34 h0_35 h0_36 h0_37 h0_38 h0_39 h0_40 h0_f41 h0_f42 h0_f43 h0_f44 h0_45 h0_46 h0_47 h0_48 h0_49 h0_50 h0_f51 h0_52 h0_f53 h0_1 h0_1k w_11) := hD
    refine lv_aload_n hx hb dX12_put_33 rfl (lv_at hl 1 rfl) ?_
    as_aux_lemma =>
    refine lv_dup hx hb dX12_put_34 rfl ?_
    refine va_get (D := (dC, dI)) (ci := 12) (v := .int h0_f6) (C := RX12) (T := TX12) (N := 54) hx hb hts iw_c_X12_put_X12 hown hK hP 0 rfl rfl 6 (by decide +kernel) (hts (.fieldLink RX12 124 "BuoyVoteModel" "length" "I") (List.mem_of_getElem? (i := 2) rfl)) (fun _ h9 => h9) rfl dX12_put_35 ?_
    refine lv_iconst (v := 1) hx hb dX12_put_38 kc_iconst_1 ?_
    refine lv_iadd hx hb dX12_put_39 ?_
    refine lv_topi (fun x_12 ex_12 => ?_)
    replace hEX := hEX.trans (exl_eq ex_12)
    have g_13 : RG x_12 1 240 := RG_add ex_12 g_8 (RG_k 1 1 rfl) (by decide +kernel)
    refine va_put (D := (dC, dI)) (ci := 12) (v := .int x_12) (ty := .int) (C := RX12) (T := TX12) (N := 54) hx hb hts iw_c_X12_put_X12 tyX12 tyX12_ok nmX12 hown hK hP hD hS 0 rfl rfl 6 (by decide +kernel) (hts (.fieldLink RX12 124 "BuoyVoteModel" "length" "I") (List.mem_of_getElem? (i := 2) rfl)) (fun _ h9 => h9) rfl (by decide +kernel) rfl rfl (Nat.le_of_ble_eq_true rfl) dX12_put_40 (fun H locs hP hD hS => ?_)
    have hP : va_P (dC, dI) vwCl (wd_c_X12_put h0 h0_f0 h0_1 h0_2 h0_3 h0_4 h0_5 x_12 h0_f7 h0_f8 h0_f9 h0_f10 h0_f11 h0_f12 h0_f13 h0_f14 h0_15 h0_16 h0_f17 h0_18 h0_19 h0_20 h0_21 h0_22 h0_23 h0_24 h0_25 h0_f26 h0_f27 h0_f28 h0_f29 h0_f30 h0_f31 h0_32 h0_33 h0_f34 h0_35 h0_36 h0_37 h0_38 h0_39 h0_40 h0_f41 h0_f42 h0_f43 h0_f44 h0_45 h0_46 h0_47 h0_48 h0_49 h0_50 h0_f51 h0_52 h0_f53 h0_1 h0_1k w_11) H := hP
    have hD : va_D A (wd_c_X12_put h0 h0_f0 h0_1 h0_2 h0_3 h0_4 h0_5 x_12 h0_f7 h0_f8 h0_f9 h0_f10 h0_f11 h0_f12 h0_f13 h0_f14 h0_15 h0_16 h0_f17 h0_18 h0_19 h0_20 h0_21 h0_22 h0_23 h0_24 h0_25 h0_f26 h0_f27 h0_f28 h0_f29 h0_f30 h0_f31 h0_32 h0_33 h0_f34 h0_35 h0_36 h0_37 h0_38 h0_39 h0_40 h0_f41 h0_f42 h0_f43 h0_f44 h0_45 h0_46 h0_47 h0_48 h0_49 h0_50 h0_f51 h0_52 h0_f53 h0_1 h0_1k w_11) := hD
    refine lv_iinc (v := 16) (lv' := [(2, .int 16), (0, .ref h0), (1, .int p1)]) hx hb dX12_put_43 hl (k := 0) rfl (by decide +kernel) (Nat.le_of_ble_eq_true rfl) rfl (fun ls hl => ?_)
    refine lv_goto (tgt := 3) hx hb dX12_put_46 rfl ?_
    refine lv_iload_n hx hb dX12_put_3 rfl (lv_at hl 0 rfl) ?_
    refine lv_if_lt (tgt := 49) hx hb dX12_put_4 rfl (fun c_14 => absurd c_14 (by decide +kernel)) (fun c_14 => ?_)
    as_aux_lemma =>
    refine lv_iload_n hx hb dX12_put_7 rfl (lv_at hl 2 rfl) ?_
    refine lv_iload_n hx hb dX12_put_8 rfl (lv_at hl 0 rfl) ?_
    refine lv_ishr hx hb dX12_put_9 ?_
    refine lv_topi (fun x_15 ex_15 => ?_)
    replace hEX := hEX.trans (exl_eq ex_15)
    refine lv_sipush (v := 255) hx hb dX12_put_10 kc_sipush_255 ?_
    refine lv_iand hx hb dX12_put_13 ?_
    refine lv_topi (fun x_16 ex_16 => ?_)
    replace hEX := hEX.trans (exl_eq ex_16)
    have g_17 : RG x_16 0 255 := RG_andr ex_16 (RG_k 255 255 rfl) (by decide +kernel)
    refine lv_if_ne (tgt := 20) hx hb dX12_put_14 rfl (fun c_18 => ?_) (fun c_18 => ?_)
    · replace hEX := hEX.trans (if_neg c_18)
      have g_19 : RG x_16 1 255 := RG_ne1 g_17 (q := 0) rfl c_18 (by decide +kernel)
      have n_20 : bn p1 16 = 1 := bn_1 (k := 16) ex_15 ex_16 c_18
      have g_21 : RG x_12 1 239 := ⟨(g_13).1, by have := eq_add ex_12 g_8 (q := 1) rfl (by decide +kernel); have := n_7; have := n_20; have := hbn; unfold BN at this; have := bn_nn p1 24; have := bn_nn p1 16; have := bn_nn p1 8; have := bn_nn p1 0; omega⟩
      refine lv_aload_n hx hb dX12_put_20 rfl (lv_at hl 1 rfl) ?_
      as_aux_lemma =>
      refine va_get (D := (dC, dI)) (ci := 12) (v := .ref h0_1) (C := RX12) (T := TX12) (N := 54) hx hb hts iw_c_X12_put_X12 hown hK hP 0 rfl rfl 1 (by decide +kernel) (hts (.fieldLink RX12 9 "BuoyVoteModel" "tape" "[B") (List.mem_of_getElem? (i := 1) rfl)) (fun _ h9 => h9) rfl dX12_put_21 ?_
      refine lv_aload_n hx hb dX12_put_24 rfl (lv_at hl 1 rfl) ?_
      refine va_get (D := (dC, dI)) (ci := 12) (v := .int x_12) (C := RX12) (T := TX12) (N := 54) hx hb hts iw_c_X12_put_X12 hown hK hP 0 rfl rfl 6 (by decide +kernel) (hts (.fieldLink RX12 124 "BuoyVoteModel" "length" "I") (List.mem_of_getElem? (i := 2) rfl)) (fun _ h9 => h9) rfl dX12_put_25 ?_
      refine lv_iload_n hx hb dX12_put_28 rfl (lv_at hl 2 rfl) ?_
      refine lv_iload_n hx hb dX12_put_29 rfl (lv_at hl 0 rfl) ?_
      refine lv_ishr hx hb dX12_put_30 ?_
      refine lv_topi (fun x_22 ex_22 => ?_)
      replace hEX := hEX.trans (exl_eq ex_22)
      refine lv_i2b hx hb dX12_put_31 rfl ?_
      refine lv_topi (fun x_23 ex_23 => ?_)
      replace hEX := hEX.trans (exl_eq ex_23)
      refine va_bast hx hb hK hP hD hS 1 0 rfl rfl (RG_in g_21 (by decide +kernel)) dX12_put_32 (fun H locs hP hD hS => ?_)
      have hP : va_P (dC, dI) vwCl (wd_c_X12_put h0 h0_f0 h0_1 h0_2 h0_3 h0_4 h0_5 x_12 h0_f7 h0_f8 h0_f9 h0_f10 h0_f11 h0_f12 h0_f13 h0_f14 h0_15 h0_16 h0_f17 h0_18 h0_19 h0_20 h0_21 h0_22 h0_23 h0_24 h0_25 h0_f26 h0_f27 h0_f28 h0_f29 h0_f30 h0_f31 h0_32 h0_33 h0_f34 h0_35 h0_36 h0_37 h0_38 h0_39 h0_40 h0_f41 h0_f42 h0_f43 h0_f44 h0_45 h0_46 h0_47 h0_48 h0_49 h0_50 h0_f51 h0_52 h0_f53 h0_1 h0_1k (upd w_11 (x_12 : Int32).toNatClampNeg (vp_nar .byte x_23))) H := hP
      have hD : va_D A (wd_c_X12_put h0 h0_f0 h0_1 h0_2 h0_3 h0_4 h0_5 x_12 h0_f7 h0_f8 h0_f9 h0_f10 h0_f11 h0_f12 h0_f13 h0_f14 h0_15 h0_16 h0_f17 h0_18 h0_19 h0_20 h0_21 h0_22 h0_23 h0_24 h0_25 h0_f26 h0_f27 h0_f28 h0_f29 h0_f30 h0_f31 h0_32 h0_33 h0_f34 h0_35 h0_36 h0_37 h0_38 h0_39 h0_40 h0_f41 h0_f42 h0_f43 h0_f44 h0_45 h0_46 h0_47 h0_48 h0_49 h0_50 h0_f51 h0_52 h0_f53 h0_1 h0_1k (upd w_11 (x_12 : Int32).toNatClampNeg (vp_nar .byte x_23))) := hD
      generalize huw_24 : (upd w_11 (x_12 : Int32).toNatClampNeg (vp_nar .byte x_23)) = w_24 at hP hD
      replace hEX := hEX.trans (exl_eq huw_24.symm)
      have hP : va_P (dC, dI) vwCl (wd_c_X12_put h0 h0_f0 h0_1 h0_2 h0_3 h0_4 h0_5 x_12 h0_f7 h0_f8 h0_f9 h0_f10 h0_f11 h0_f12 h0_f13 h0_f14 h0_15 h0_16 h0_f17 h0_18 h0_19 h0_20 h0_21 h0_22 h0_23 h0_24 h0_25 h0_f26 h0_f27 h0_f28 h0_f29 h0_f30 h0_f31 h0_32 h0_33 h0_f34 h0_35 h0_36 h0_37 h0_38 h0_39 h0_40 h0_f41 h0_f42 h0_f43 h0_f44 h0_45 h0_46 h0_47 h0_48 h0_49 h0_50 h0_f51 h0_52 h0_f53 h0_1 h0_1k w_24) H := hP
      have hD : va_D A (wd_c_X12_put h0 h0_f0 h0_1 h0_2 h0_3 h0_4 h0_5 x_12 h0_f7 h0_f8 h0_f9 h0_f10 h0_f11 h0_f12 h0_f13 h0_f14 h0_15 h0_16 h0_f17 h0_18 h0_19 h0_20 h0_21 h0_22 h0_23 h0_24 h0_25 h0_f26 h0_f27 h0_f28 h0_f29 h0_f30 h0_f31 h0_32 h0_33 h0_f34 h0_35 h0_36 h0_37 h0_38 h0_39 h0_40 h0_f41 h0_f42 h0_f43 h0_f44 h0_45 h0_46 h0_47 h0_48 h0_49 h0_50 h0_f51 h0_52 h0_f53 h0_1 h0_1k w_24) := hD
      refine lv_aload_n hx hb dX12_put_33 rfl (lv_at hl 1 rfl) ?_
      as_aux_lemma =>
      refine lv_dup hx hb dX12_put_34 rfl ?_
      refine va_get (D := (dC, dI)) (ci := 12) (v := .int x_12) (C := RX12) (T := TX12) (N := 54) hx hb hts iw_c_X12_put_X12 hown hK hP 0 rfl rfl 6 (by decide +kernel) (hts (.fieldLink RX12 124 "BuoyVoteModel" "length" "I") (List.mem_of_getElem? (i := 2) rfl)) (fun _ h9 => h9) rfl dX12_put_35 ?_
      refine lv_iconst (v := 1) hx hb dX12_put_38 kc_iconst_1 ?_
      refine lv_iadd hx hb dX12_put_39 ?_
      refine lv_topi (fun x_25 ex_25 => ?_)
      replace hEX := hEX.trans (exl_eq ex_25)
      have g_26 : RG x_25 2 240 := RG_add ex_25 g_21 (RG_k 1 1 rfl) (by decide +kernel)
      refine va_put (D := (dC, dI)) (ci := 12) (v := .int x_25) (ty := .int) (C := RX12) (T := TX12) (N := 54) hx hb hts iw_c_X12_put_X12 tyX12 tyX12_ok nmX12 hown hK hP hD hS 0 rfl rfl 6 (by decide +kernel) (hts (.fieldLink RX12 124 "BuoyVoteModel" "length" "I") (List.mem_of_getElem? (i := 2) rfl)) (fun _ h9 => h9) rfl (by decide +kernel) rfl rfl (Nat.le_of_ble_eq_true rfl) dX12_put_40 (fun H locs hP hD hS => ?_)
      have hP : va_P (dC, dI) vwCl (wd_c_X12_put h0 h0_f0 h0_1 h0_2 h0_3 h0_4 h0_5 x_25 h0_f7 h0_f8 h0_f9 h0_f10 h0_f11 h0_f12 h0_f13 h0_f14 h0_15 h0_16 h0_f17 h0_18 h0_19 h0_20 h0_21 h0_22 h0_23 h0_24 h0_25 h0_f26 h0_f27 h0_f28 h0_f29 h0_f30 h0_f31 h0_32 h0_33 h0_f34 h0_35 h0_36 h0_37 h0_38 h0_39 h0_40 h0_f41 h0_f42 h0_f43 h0_f44 h0_45 h0_46 h0_47 h0_48 h0_49 h0_50 h0_f51 h0_52 h0_f53 h0_1 h0_1k w_24) H := hP
      have hD : va_D A (wd_c_X12_put h0 h0_f0 h0_1 h0_2 h0_3 h0_4 h0_5 x_25 h0_f7 h0_f8 h0_f9 h0_f10 h0_f11 h0_f12 h0_f13 h0_f14 h0_15 h0_16 h0_f17 h0_18 h0_19 h0_20 h0_21 h0_22 h0_23 h0_24 h0_25 h0_f26 h0_f27 h0_f28 h0_f29 h0_f30 h0_f31 h0_32 h0_33 h0_f34 h0_35 h0_36 h0_37 h0_38 h0_39 h0_40 h0_f41 h0_f42 h0_f43 h0_f44 h0_45 h0_46 h0_47 h0_48 h0_49 h0_50 h0_f51 h0_52 h0_f53 h0_1 h0_1k w_24) := hD
      refine lv_iinc (v := 8) (lv' := [(2, .int 8), (0, .ref h0), (1, .int p1)]) hx hb dX12_put_43 hl (k := 0) rfl (by decide +kernel) (Nat.le_of_ble_eq_true rfl) rfl (fun ls hl => ?_)
      refine lv_goto (tgt := 3) hx hb dX12_put_46 rfl ?_
      refine lv_iload_n hx hb dX12_put_3 rfl (lv_at hl 0 rfl) ?_
      refine lv_if_lt (tgt := 49) hx hb dX12_put_4 rfl (fun c_27 => absurd c_27 (by decide +kernel)) (fun c_27 => ?_)
      as_aux_lemma =>
      refine lv_iload_n hx hb dX12_put_7 rfl (lv_at hl 2 rfl) ?_
      refine lv_iload_n hx hb dX12_put_8 rfl (lv_at hl 0 rfl) ?_
      refine lv_ishr hx hb dX12_put_9 ?_
      refine lv_topi (fun x_28 ex_28 => ?_)
      replace hEX := hEX.trans (exl_eq ex_28)
      refine lv_sipush (v := 255) hx hb dX12_put_10 kc_sipush_255 ?_
      refine lv_iand hx hb dX12_put_13 ?_
      refine lv_topi (fun x_29 ex_29 => ?_)
      replace hEX := hEX.trans (exl_eq ex_29)
      have g_30 : RG x_29 0 255 := RG_andr ex_29 (RG_k 255 255 rfl) (by decide +kernel)
      refine lv_if_ne (tgt := 20) hx hb dX12_put_14 rfl (fun c_31 => ?_) (fun c_31 => ?_)
      · replace hEX := hEX.trans (if_neg c_31)
        have g_32 : RG x_29 1 255 := RG_ne1 g_30 (q := 0) rfl c_31 (by decide +kernel)
        have n_33 : bn p1 8 = 1 := bn_1 (k := 8) ex_28 ex_29 c_31
        have g_34 : RG x_25 2 239 := ⟨(g_26).1, by have := eq_add ex_12 g_8 (q := 1) rfl (by decide +kernel); have := eq_add ex_25 g_21 (q := 1) rfl (by decide +kernel); have := n_7; have := n_20; have := n_33; have := hbn; unfold BN at this; have := bn_nn p1 24; have := bn_nn p1 16; have := bn_nn p1 8; have := bn_nn p1 0; omega⟩
        refine lv_aload_n hx hb dX12_put_20 rfl (lv_at hl 1 rfl) ?_
        as_aux_lemma =>
        refine va_get (D := (dC, dI)) (ci := 12) (v := .ref h0_1) (C := RX12) (T := TX12) (N := 54) hx hb hts iw_c_X12_put_X12 hown hK hP 0 rfl rfl 1 (by decide +kernel) (hts (.fieldLink RX12 9 "BuoyVoteModel" "tape" "[B") (List.mem_of_getElem? (i := 1) rfl)) (fun _ h9 => h9) rfl dX12_put_21 ?_
        refine lv_aload_n hx hb dX12_put_24 rfl (lv_at hl 1 rfl) ?_
        refine va_get (D := (dC, dI)) (ci := 12) (v := .int x_25) (C := RX12) (T := TX12) (N := 54) hx hb hts iw_c_X12_put_X12 hown hK hP 0 rfl rfl 6 (by decide +kernel) (hts (.fieldLink RX12 124 "BuoyVoteModel" "length" "I") (List.mem_of_getElem? (i := 2) rfl)) (fun _ h9 => h9) rfl dX12_put_25 ?_
        refine lv_iload_n hx hb dX12_put_28 rfl (lv_at hl 2 rfl) ?_
        refine lv_iload_n hx hb dX12_put_29 rfl (lv_at hl 0 rfl) ?_
        refine lv_ishr hx hb dX12_put_30 ?_
        refine lv_topi (fun x_35 ex_35 => ?_)
        replace hEX := hEX.trans (exl_eq ex_35)
        refine lv_i2b hx hb dX12_put_31 rfl ?_
        refine lv_topi (fun x_36 ex_36 => ?_)
        replace hEX := hEX.trans (exl_eq ex_36)
        refine va_bast hx hb hK hP hD hS 1 0 rfl rfl (RG_in g_34 (by decide +kernel)) dX12_put_32 (fun H locs hP hD hS => ?_)
        have hP : va_P (dC, dI) vwCl (wd_c_X12_put h0 h0_f0 h0_1 h0_2 h0_3 h0_4 h0_5 x_25 h0_f7 h0_f8 h0_f9 h0_f10 h0_f11 h0_f12 h0_f13 h0_f14 h0_15 h0_16 h0_f17 h0_18 h0_19 h0_20 h0_21 h0_22 h0_23 h0_24 h0_25 h0_f26 h0_f27 h0_f28 h0_f29 h0_f30 h0_f31 h0_32 h0_33 h0_f34 h0_35 h0_36 h0_37 h0_38 h0_39 h0_40 h0_f41 h0_f42 h0_f43 h0_f44 h0_45 h0_46 h0_47 h0_48 h0_49 h0_50 h0_f51 h0_52 h0_f53 h0_1 h0_1k (upd w_24 (x_25 : Int32).toNatClampNeg (vp_nar .byte x_36))) H := hP
        have hD : va_D A (wd_c_X12_put h0 h0_f0 h0_1 h0_2 h0_3 h0_4 h0_5 x_25 h0_f7 h0_f8 h0_f9 h0_f10 h0_f11 h0_f12 h0_f13 h0_f14 h0_15 h0_16 h0_f17 h0_18 h0_19 h0_20 h0_21 h0_22 h0_23 h0_24 h0_25 h0_f26 h0_f27 h0_f28 h0_f29 h0_f30 h0_f31 h0_32 h0_33 h0_f34 h0_35 h0_36 h0_37 h0_38 h0_39 h0_40 h0_f41 h0_f42 h0_f43 h0_f44 h0_45 h0_46 h0_47 h0_48 h0_49 h0_50 h0_f51 h0_52 h0_f53 h0_1 h0_1k (upd w_24 (x_25 : Int32).toNatClampNeg (vp_nar .byte x_36))) := hD
        generalize huw_37 : (upd w_24 (x_25 : Int32).toNatClampNeg (vp_nar .byte x_36)) = w_37 at hP hD
        replace hEX := hEX.trans (exl_eq huw_37.symm)
        have hP : va_P (dC, dI) vwCl (wd_c_X12_put h0 h0_f0 h0_1 h0_2 h0_3 h0_4 h0_5 x_25 h0_f7 h0_f8 h0_f9 h0_f10 h0_f11 h0_f12 h0_f13 h0_f14 h0_15 h0_16 h0_f17 h0_18 h0_19 h0_20 h0_21 h0_22 h0_23 h0_24 h0_25 h0_f26 h0_f27 h0_f28 h0_f29 h0_f30 h0_f31 h0_32 h0_33 h0_f34 h0_35 h0_36 h0_37 h0_38 h0_39 h0_40 h0_f41 h0_f42 h0_f43 h0_f44 h0_45 h0_46 h0_47 h0_48 h0_49 h0_50 h0_f51 h0_52 h0_f53 h0_1 h0_1k w_37) H := hP
        have hD : va_D A (wd_c_X12_put h0 h0_f0 h0_1 h0_2 h0_3 h0_4 h0_5 x_25 h0_f7 h0_f8 h0_f9 h0_f10 h0_f11 h0_f12 h0_f13 h0_f14 h0_15 h0_16 h0_f17 h0_18 h0_19 h0_20 h0_21 h0_22 h0_23 h0_24 h0_25 h0_f26 h0_f27 h0_f28 h0_f29 h0_f30 h0_f31 h0_32 h0_33 h0_f34 h0_35 h0_36 h0_37 h0_38 h0_39 h0_40 h0_f41 h0_f42 h0_f43 h0_f44 h0_45 h0_46 h0_47 h0_48 h0_49 h0_50 h0_f51 h0_52 h0_f53 h0_1 h0_1k w_37) := hD
        refine lv_aload_n hx hb dX12_put_33 rfl (lv_at hl 1 rfl) ?_
        as_aux_lemma =>
        refine lv_dup hx hb dX12_put_34 rfl ?_
        refine va_get (D := (dC, dI)) (ci := 12) (v := .int x_25) (C := RX12) (T := TX12) (N := 54) hx hb hts iw_c_X12_put_X12 hown hK hP 0 rfl rfl 6 (by decide +kernel) (hts (.fieldLink RX12 124 "BuoyVoteModel" "length" "I") (List.mem_of_getElem? (i := 2) rfl)) (fun _ h9 => h9) rfl dX12_put_35 ?_
        refine lv_iconst (v := 1) hx hb dX12_put_38 kc_iconst_1 ?_
        refine lv_iadd hx hb dX12_put_39 ?_
        refine lv_topi (fun x_38 ex_38 => ?_)
        replace hEX := hEX.trans (exl_eq ex_38)
        have g_39 : RG x_38 3 240 := RG_add ex_38 g_34 (RG_k 1 1 rfl) (by decide +kernel)
        refine va_put (D := (dC, dI)) (ci := 12) (v := .int x_38) (ty := .int) (C := RX12) (T := TX12) (N := 54) hx hb hts iw_c_X12_put_X12 tyX12 tyX12_ok nmX12 hown hK hP hD hS 0 rfl rfl 6 (by decide +kernel) (hts (.fieldLink RX12 124 "BuoyVoteModel" "length" "I") (List.mem_of_getElem? (i := 2) rfl)) (fun _ h9 => h9) rfl (by decide +kernel) rfl rfl (Nat.le_of_ble_eq_true rfl) dX12_put_40 (fun H locs hP hD hS => ?_)
        have hP : va_P (dC, dI) vwCl (wd_c_X12_put h0 h0_f0 h0_1 h0_2 h0_3 h0_4 h0_5 x_38 h0_f7 h0_f8 h0_f9 h0_f10 h0_f11 h0_f12 h0_f13 h0_f14 h0_15 h0_16 h0_f17 h0_18 h0_19 h0_20 h0_21 h0_22 h0_23 h0_24 h0_25 h0_f26 h0_f27 h0_f28 h0_f29 h0_f30 h0_f31 h0_32 h0_33 h0_f34 h0_35 h0_36 h0_37 h0_38 h0_39 h0_40 h0_f41 h0_f42 h0_f43 h0_f44 h0_45 h0_46 h0_47 h0_48 h0_49 h0_50 h0_f51 h0_52 h0_f53 h0_1 h0_1k w_37) H := hP
        have hD : va_D A (wd_c_X12_put h0 h0_f0 h0_1 h0_2 h0_3 h0_4 h0_5 x_38 h0_f7 h0_f8 h0_f9 h0_f10 h0_f11 h0_f12 h0_f13 h0_f14 h0_15 h0_16 h0_f17 h0_18 h0_19 h0_20 h0_21 h0_22 h0_23 h0_24 h0_25 h0_f26 h0_f27 h0_f28 h0_f29 h0_f30 h0_f31 h0_32 h0_33 h0_f34 h0_35 h0_36 h0_37 h0_38 h0_39 h0_40 h0_f41 h0_f42 h0_f43 h0_f44 h0_45 h0_46 h0_47 h0_48 h0_49 h0_50 h0_f51 h0_52 h0_f53 h0_1 h0_1k w_37) := hD
        refine lv_iinc (v := 0) (lv' := [(2, .int 0), (0, .ref h0), (1, .int p1)]) hx hb dX12_put_43 hl (k := 0) rfl (by decide +kernel) (Nat.le_of_ble_eq_true rfl) rfl (fun ls hl => ?_)
        refine lv_goto (tgt := 3) hx hb dX12_put_46 rfl ?_
        refine lv_iload_n hx hb dX12_put_3 rfl (lv_at hl 0 rfl) ?_
        refine lv_if_lt (tgt := 49) hx hb dX12_put_4 rfl (fun c_40 => absurd c_40 (by decide +kernel)) (fun c_40 => ?_)
        as_aux_lemma =>
        refine lv_iload_n hx hb dX12_put_7 rfl (lv_at hl 2 rfl) ?_
        refine lv_iload_n hx hb dX12_put_8 rfl (lv_at hl 0 rfl) ?_
        refine lv_ishr hx hb dX12_put_9 ?_
        refine lv_topi (fun x_41 ex_41 => ?_)
        replace hEX := hEX.trans (exl_eq ex_41)
        refine lv_sipush (v := 255) hx hb dX12_put_10 kc_sipush_255 ?_
        refine lv_iand hx hb dX12_put_13 ?_
        refine lv_topi (fun x_42 ex_42 => ?_)
        replace hEX := hEX.trans (exl_eq ex_42)
        have g_43 : RG x_42 0 255 := RG_andr ex_42 (RG_k 255 255 rfl) (by decide +kernel)
        refine lv_if_ne (tgt := 20) hx hb dX12_put_14 rfl (fun c_44 => ?_) (fun c_44 => ?_)
        · replace hEX := hEX.trans (if_neg c_44)
          have g_45 : RG x_42 1 255 := RG_ne1 g_43 (q := 0) rfl c_44 (by decide +kernel)
          have n_46 : bn p1 0 = 1 := bn_1 (k := 0) ex_41 ex_42 c_44
          have g_47 : RG x_38 3 239 := ⟨(g_39).1, by have := eq_add ex_12 g_8 (q := 1) rfl (by decide +kernel); have := eq_add ex_25 g_21 (q := 1) rfl (by decide +kernel); have := eq_add ex_38 g_34 (q := 1) rfl (by decide +kernel); have := n_7; have := n_20; have := n_33; have := n_46; have := hbn; unfold BN at this; have := bn_nn p1 24; have := bn_nn p1 16; have := bn_nn p1 8; have := bn_nn p1 0; omega⟩
          refine lv_aload_n hx hb dX12_put_20 rfl (lv_at hl 1 rfl) ?_
          as_aux_lemma =>
          refine va_get (D := (dC, dI)) (ci := 12) (v := .ref h0_1) (C := RX12) (T := TX12) (N := 54) hx hb hts iw_c_X12_put_X12 hown hK hP 0 rfl rfl 1 (by decide +kernel) (hts (.fieldLink RX12 9 "BuoyVoteModel" "tape" "[B") (List.mem_of_getElem? (i := 1) rfl)) (fun _ h9 => h9) rfl dX12_put_21 ?_
          refine lv_aload_n hx hb dX12_put_24 rfl (lv_at hl 1 rfl) ?_
          refine va_get (D := (dC, dI)) (ci := 12) (v := .int x_38) (C := RX12) (T := TX12) (N := 54) hx hb hts iw_c_X12_put_X12 hown hK hP 0 rfl rfl 6 (by decide +kernel) (hts (.fieldLink RX12 124 "BuoyVoteModel" "length" "I") (List.mem_of_getElem? (i := 2) rfl)) (fun _ h9 => h9) rfl dX12_put_25 ?_
          refine lv_iload_n hx hb dX12_put_28 rfl (lv_at hl 2 rfl) ?_
          refine lv_iload_n hx hb dX12_put_29 rfl (lv_at hl 0 rfl) ?_
          refine lv_ishr hx hb dX12_put_30 ?_
          refine lv_topi (fun x_48 ex_48 => ?_)
          replace hEX := hEX.trans (exl_eq ex_48)
          refine lv_i2b hx hb dX12_put_31 rfl ?_
          refine lv_topi (fun x_49 ex_49 => ?_)
          replace hEX := hEX.trans (exl_eq ex_49)
          refine va_bast hx hb hK hP hD hS 1 0 rfl rfl (RG_in g_47 (by decide +kernel)) dX12_put_32 (fun H locs hP hD hS => ?_)
          have hP : va_P (dC, dI) vwCl (wd_c_X12_put h0 h0_f0 h0_1 h0_2 h0_3 h0_4 h0_5 x_38 h0_f7 h0_f8 h0_f9 h0_f10 h0_f11 h0_f12 h0_f13 h0_f14 h0_15 h0_16 h0_f17 h0_18 h0_19 h0_20 h0_21 h0_22 h0_23 h0_24 h0_25 h0_f26 h0_f27 h0_f28 h0_f29 h0_f30 h0_f31 h0_32 h0_33 h0_f34 h0_35 h0_36 h0_37 h0_38 h0_39 h0_40 h0_f41 h0_f42 h0_f43 h0_f44 h0_45 h0_46 h0_47 h0_48 h0_49 h0_50 h0_f51 h0_52 h0_f53 h0_1 h0_1k (upd w_37 (x_38 : Int32).toNatClampNeg (vp_nar .byte x_49))) H := hP
          have hD : va_D A (wd_c_X12_put h0 h0_f0 h0_1 h0_2 h0_3 h0_4 h0_5 x_38 h0_f7 h0_f8 h0_f9 h0_f10 h0_f11 h0_f12 h0_f13 h0_f14 h0_15 h0_16 h0_f17 h0_18 h0_19 h0_20 h0_21 h0_22 h0_23 h0_24 h0_25 h0_f26 h0_f27 h0_f28 h0_f29 h0_f30 h0_f31 h0_32 h0_33 h0_f34 h0_35 h0_36 h0_37 h0_38 h0_39 h0_40 h0_f41 h0_f42 h0_f43 h0_f44 h0_45 h0_46 h0_47 h0_48 h0_49 h0_50 h0_f51 h0_52 h0_f53 h0_1 h0_1k (upd w_37 (x_38 : Int32).toNatClampNeg (vp_nar .byte x_49))) := hD
          generalize huw_50 : (upd w_37 (x_38 : Int32).toNatClampNeg (vp_nar .byte x_49)) = w_50 at hP hD
          replace hEX := hEX.trans (exl_eq huw_50.symm)
          have hP : va_P (dC, dI) vwCl (wd_c_X12_put h0 h0_f0 h0_1 h0_2 h0_3 h0_4 h0_5 x_38 h0_f7 h0_f8 h0_f9 h0_f10 h0_f11 h0_f12 h0_f13 h0_f14 h0_15 h0_16 h0_f17 h0_18 h0_19 h0_20 h0_21 h0_22 h0_23 h0_24 h0_25 h0_f26 h0_f27 h0_f28 h0_f29 h0_f30 h0_f31 h0_32 h0_33 h0_f34 h0_35 h0_36 h0_37 h0_38 h0_39 h0_40 h0_f41 h0_f42 h0_f43 h0_f44 h0_45 h0_46 h0_47 h0_48 h0_49 h0_50 h0_f51 h0_52 h0_f53 h0_1 h0_1k w_50) H := hP
          have hD : va_D A (wd_c_X12_put h0 h0_f0 h0_1 h0_2 h0_3 h0_4 h0_5 x_38 h0_f7 h0_f8 h0_f9 h0_f10 h0_f11 h0_f12 h0_f13 h0_f14 h0_15 h0_16 h0_f17 h0_18 h0_19 h0_20 h0_21 h0_22 h0_23 h0_24 h0_25 h0_f26 h0_f27 h0_f28 h0_f29 h0_f30 h0_f31 h0_32 h0_33 h0_f34 h0_35 h0_36 h0_37 h0_38 h0_39 h0_40 h0_f41 h0_f42 h0_f43 h0_f44 h0_45 h0_46 h0_47 h0_48 h0_49 h0_50 h0_f51 h0_52 h0_f53 h0_1 h0_1k w_50) := hD
          refine lv_aload_n hx hb dX12_put_33 rfl (lv_at hl 1 rfl) ?_
          as_aux_lemma =>
          refine lv_dup hx hb dX12_put_34 rfl ?_
          refine va_get (D := (dC, dI)) (ci := 12) (v := .int x_38) (C := RX12) (T := TX12) (N := 54) hx hb hts iw_c_X12_put_X12 hown hK hP 0 rfl rfl 6 (by decide +kernel) (hts (.fieldLink RX12 124 "BuoyVoteModel" "length" "I") (List.mem_of_getElem? (i := 2) rfl)) (fun _ h9 => h9) rfl dX12_put_35 ?_
          refine lv_iconst (v := 1) hx hb dX12_put_38 kc_iconst_1 ?_
          refine lv_iadd hx hb dX12_put_39 ?_
          refine lv_topi (fun x_51 ex_51 => ?_)
          replace hEX := hEX.trans (exl_eq ex_51)
          have g_52 : RG x_51 4 240 := RG_add ex_51 g_47 (RG_k 1 1 rfl) (by decide +kernel)
          refine va_put (D := (dC, dI)) (ci := 12) (v := .int x_51) (ty := .int) (C := RX12) (T := TX12) (N := 54) hx hb hts iw_c_X12_put_X12 tyX12 tyX12_ok nmX12 hown hK hP hD hS 0 rfl rfl 6 (by decide +kernel) (hts (.fieldLink RX12 124 "BuoyVoteModel" "length" "I") (List.mem_of_getElem? (i := 2) rfl)) (fun _ h9 => h9) rfl (by decide +kernel) rfl rfl (Nat.le_of_ble_eq_true rfl) dX12_put_40 (fun H locs hP hD hS => ?_)
          have hP : va_P (dC, dI) vwCl (wd_c_X12_put h0 h0_f0 h0_1 h0_2 h0_3 h0_4 h0_5 x_51 h0_f7 h0_f8 h0_f9 h0_f10 h0_f11 h0_f12 h0_f13 h0_f14 h0_15 h0_16 h0_f17 h0_18 h0_19 h0_20 h0_21 h0_22 h0_23 h0_24 h0_25 h0_f26 h0_f27 h0_f28 h0_f29 h0_f30 h0_f31 h0_32 h0_33 h0_f34 h0_35 h0_36 h0_37 h0_38 h0_39 h0_40 h0_f41 h0_f42 h0_f43 h0_f44 h0_45 h0_46 h0_47 h0_48 h0_49 h0_50 h0_f51 h0_52 h0_f53 h0_1 h0_1k w_50) H := hP
          have hD : va_D A (wd_c_X12_put h0 h0_f0 h0_1 h0_2 h0_3 h0_4 h0_5 x_51 h0_f7 h0_f8 h0_f9 h0_f10 h0_f11 h0_f12 h0_f13 h0_f14 h0_15 h0_16 h0_f17 h0_18 h0_19 h0_20 h0_21 h0_22 h0_23 h0_24 h0_25 h0_f26 h0_f27 h0_f28 h0_f29 h0_f30 h0_f31 h0_32 h0_33 h0_f34 h0_35 h0_36 h0_37 h0_38 h0_39 h0_40 h0_f41 h0_f42 h0_f43 h0_f44 h0_45 h0_46 h0_47 h0_48 h0_49 h0_50 h0_f51 h0_52 h0_f53 h0_1 h0_1k w_50) := hD
          refine lv_iinc (v := (-8)) (lv' := [(2, .int (-8)), (0, .ref h0), (1, .int p1)]) hx hb dX12_put_43 hl (k := 0) rfl (by decide +kernel) (Nat.le_of_ble_eq_true rfl) rfl (fun ls hl => ?_)
          refine lv_goto (tgt := 3) hx hb dX12_put_46 rfl ?_
          refine lv_iload_n hx hb dX12_put_3 rfl (lv_at hl 0 rfl) ?_
          refine lv_if_lt (tgt := 49) hx hb dX12_put_4 rfl (fun c_53 => ?_) (fun c_53 => absurd c_53 (by decide +kernel))
          have hK9 := hK.sub (tys' := []) [] rfl
          exact W.vret hx hb hr (fun t ht hW => ⟨⟨(x_51, w_50), rfl, ⟨(RG_w g_52 (by decide +kernel)), (by have := eq_add ex_12 g_8 (q := 1) rfl (by decide +kernel); have := eq_add ex_25 g_21 (q := 1) rfl (by decide +kernel); have := eq_add ex_38 g_34 (q := 1) rfl (by decide +kernel); have := eq_add ex_51 g_47 (q := 1) rfl (by decide +kernel); have := n_7; have := n_20; have := n_33; have := n_46; show x_51.toInt = h0_f6.toInt + BN p1; unfold BN; omega), (hR.trans hEX).symm⟩, by rw [ht]; exact hP, va_K.moved hW.alike hK9, hD⟩, hS.F ht⟩) hS.2.2 dX12_put_49
        · replace hEX := hEX.trans (if_pos c_44)
          have g_54 : RG x_42 0 0 := RG_eq1 g_43 (RG_k 0 0 rfl) c_44 (by decide +kernel)
          have n_55 : bn p1 0 = 0 := bn_0 (k := 0) ex_41 ex_42 c_44
          refine lv_goto (tgt := 43) hx hb dX12_put_17 rfl ?_
          as_aux_lemma =>
          refine lv_iinc (v := (-8)) (lv' := [(2, .int (-8)), (0, .ref h0), (1, .int p1)]) hx hb dX12_put_43 hl (k := 0) rfl (by decide +kernel) (Nat.le_of_ble_eq_true rfl) rfl (fun ls hl => ?_)
          refine lv_goto (tgt := 3) hx hb dX12_put_46 rfl ?_
          refine lv_iload_n hx hb dX12_put_3 rfl (lv_at hl 0 rfl) ?_
          refine lv_if_lt (tgt := 49) hx hb dX12_put_4 rfl (fun c_56 => ?_) (fun c_56 => absurd c_56 (by decide +kernel))
          have hK9 := hK.sub (tys' := []) [] rfl
          exact W.vret hx hb hr (fun t ht hW => ⟨⟨(x_38, w_37), rfl, ⟨(RG_w g_39 (by decide +kernel)), (by have := eq_add ex_12 g_8 (q := 1) rfl (by decide +kernel); have := eq_add ex_25 g_21 (q := 1) rfl (by decide +kernel); have := eq_add ex_38 g_34 (q := 1) rfl (by decide +kernel); have := n_7; have := n_20; have := n_33; have := n_55; show x_38.toInt = h0_f6.toInt + BN p1; unfold BN; omega), (hR.trans hEX).symm⟩, by rw [ht]; exact hP, va_K.moved hW.alike hK9, hD⟩, hS.F ht⟩) hS.2.2 dX12_put_49
      · replace hEX := hEX.trans (if_pos c_31)
        have g_57 : RG x_29 0 0 := RG_eq1 g_30 (RG_k 0 0 rfl) c_31 (by decide +kernel)
        have n_58 : bn p1 8 = 0 := bn_0 (k := 8) ex_28 ex_29 c_31
        refine lv_goto (tgt := 43) hx hb dX12_put_17 rfl ?_
        refine lv_iinc (v := 0) (lv' := [(2, .int 0), (0, .ref h0), (1, .int p1)]) hx hb dX12_put_43 hl (k := 0) rfl (by decide +kernel) (Nat.le_of_ble_eq_true rfl) rfl (fun ls hl => ?_)
        refine lv_goto (tgt := 3) hx hb dX12_put_46 rfl ?_
        refine lv_iload_n hx hb dX12_put_3 rfl (lv_at hl 0 rfl) ?_
        refine lv_if_lt (tgt := 49) hx hb dX12_put_4 rfl (fun c_59 => absurd c_59 (by decide +kernel)) (fun c_59 => ?_)
        as_aux_lemma =>
        refine lv_iload_n hx hb dX12_put_7 rfl (lv_at hl 2 rfl) ?_
        refine lv_iload_n hx hb dX12_put_8 rfl (lv_at hl 0 rfl) ?_
        refine lv_ishr hx hb dX12_put_9 ?_
        refine lv_topi (fun x_60 ex_60 => ?_)
        replace hEX := hEX.trans (exl_eq ex_60)
        refine lv_sipush (v := 255) hx hb dX12_put_10 kc_sipush_255 ?_
        refine lv_iand hx hb dX12_put_13 ?_
        refine lv_topi (fun x_61 ex_61 => ?_)
        replace hEX := hEX.trans (exl_eq ex_61)
        have g_62 : RG x_61 0 255 := RG_andr ex_61 (RG_k 255 255 rfl) (by decide +kernel)
        refine lv_if_ne (tgt := 20) hx hb dX12_put_14 rfl (fun c_63 => ?_) (fun c_63 => ?_)
        · replace hEX := hEX.trans (if_neg c_63)
          have g_64 : RG x_61 1 255 := RG_ne1 g_62 (q := 0) rfl c_63 (by decide +kernel)
          have n_65 : bn p1 0 = 1 := bn_1 (k := 0) ex_60 ex_61 c_63
          have g_66 : RG x_25 2 239 := ⟨(g_26).1, by have := eq_add ex_12 g_8 (q := 1) rfl (by decide +kernel); have := eq_add ex_25 g_21 (q := 1) rfl (by decide +kernel); have := n_7; have := n_20; have := n_58; have := n_65; have := hbn; unfold BN at this; have := bn_nn p1 24; have := bn_nn p1 16; have := bn_nn p1 8; have := bn_nn p1 0; omega⟩
          refine lv_aload_n hx hb dX12_put_20 rfl (lv_at hl 1 rfl) ?_
          as_aux_lemma =>
          refine va_get (D := (dC, dI)) (ci := 12) (v := .ref h0_1) (C := RX12) (T := TX12) (N := 54) hx hb hts iw_c_X12_put_X12 hown hK hP 0 rfl rfl 1 (by decide +kernel) (hts (.fieldLink RX12 9 "BuoyVoteModel" "tape" "[B") (List.mem_of_getElem? (i := 1) rfl)) (fun _ h9 => h9) rfl dX12_put_21 ?_
          refine lv_aload_n hx hb dX12_put_24 rfl (lv_at hl 1 rfl) ?_
          refine va_get (D := (dC, dI)) (ci := 12) (v := .int x_25) (C := RX12) (T := TX12) (N := 54) hx hb hts iw_c_X12_put_X12 hown hK hP 0 rfl rfl 6 (by decide +kernel) (hts (.fieldLink RX12 124 "BuoyVoteModel" "length" "I") (List.mem_of_getElem? (i := 2) rfl)) (fun _ h9 => h9) rfl dX12_put_25 ?_
          refine lv_iload_n hx hb dX12_put_28 rfl (lv_at hl 2 rfl) ?_
          refine lv_iload_n hx hb dX12_put_29 rfl (lv_at hl 0 rfl) ?_
          refine lv_ishr hx hb dX12_put_30 ?_
          refine lv_topi (fun x_67 ex_67 => ?_)
          replace hEX := hEX.trans (exl_eq ex_67)
          refine lv_i2b hx hb dX12_put_31 rfl ?_
          refine lv_topi (fun x_68 ex_68 => ?_)
          replace hEX := hEX.trans (exl_eq ex_68)
          refine va_bast hx hb hK hP hD hS 1 0 rfl rfl (RG_in g_66 (by decide +kernel)) dX12_put_32 (fun H locs hP hD hS => ?_)
          have hP : va_P (dC, dI) vwCl (wd_c_X12_put h0 h0_f0 h0_1 h0_2 h0_3 h0_4 h0_5 x_25 h0_f7 h0_f8 h0_f9 h0_f10 h0_f11 h0_f12 h0_f13 h0_f14 h0_15 h0_16 h0_f17 h0_18 h0_19 h0_20 h0_21 h0_22 h0_23 h0_24 h0_25 h0_f26 h0_f27 h0_f28 h0_f29 h0_f30 h0_f31 h0_32 h0_33 h0_f34 h0_35 h0_36 h0_37 h0_38 h0_39 h0_40 h0_f41 h0_f42 h0_f43 h0_f44 h0_45 h0_46 h0_47 h0_48 h0_49 h0_50 h0_f51 h0_52 h0_f53 h0_1 h0_1k (upd w_24 (x_25 : Int32).toNatClampNeg (vp_nar .byte x_68))) H := hP
          have hD : va_D A (wd_c_X12_put h0 h0_f0 h0_1 h0_2 h0_3 h0_4 h0_5 x_25 h0_f7 h0_f8 h0_f9 h0_f10 h0_f11 h0_f12 h0_f13 h0_f14 h0_15 h0_16 h0_f17 h0_18 h0_19 h0_20 h0_21 h0_22 h0_23 h0_24 h0_25 h0_f26 h0_f27 h0_f28 h0_f29 h0_f30 h0_f31 h0_32 h0_33 h0_f34 h0_35 h0_36 h0_37 h0_38 h0_39 h0_40 h0_f41 h0_f42 h0_f43 h0_f44 h0_45 h0_46 h0_47 h0_48 h0_49 h0_50 h0_f51 h0_52 h0_f53 h0_1 h0_1k (upd w_24 (x_25 : Int32).toNatClampNeg (vp_nar .byte x_68))) := hD
          generalize huw_69 : (upd w_24 (x_25 : Int32).toNatClampNeg (vp_nar .byte x_68)) = w_69 at hP hD
          replace hEX := hEX.trans (exl_eq huw_69.symm)
          have hP : va_P (dC, dI) vwCl (wd_c_X12_put h0 h0_f0 h0_1 h0_2 h0_3 h0_4 h0_5 x_25 h0_f7 h0_f8 h0_f9 h0_f10 h0_f11 h0_f12 h0_f13 h0_f14 h0_15 h0_16 h0_f17 h0_18 h0_19 h0_20 h0_21 h0_22 h0_23 h0_24 h0_25 h0_f26 h0_f27 h0_f28 h0_f29 h0_f30 h0_f31 h0_32 h0_33 h0_f34 h0_35 h0_36 h0_37 h0_38 h0_39 h0_40 h0_f41 h0_f42 h0_f43 h0_f44 h0_45 h0_46 h0_47 h0_48 h0_49 h0_50 h0_f51 h0_52 h0_f53 h0_1 h0_1k w_69) H := hP
          have hD : va_D A (wd_c_X12_put h0 h0_f0 h0_1 h0_2 h0_3 h0_4 h0_5 x_25 h0_f7 h0_f8 h0_f9 h0_f10 h0_f11 h0_f12 h0_f13 h0_f14 h0_15 h0_16 h0_f17 h0_18 h0_19 h0_20 h0_21 h0_22 h0_23 h0_24 h0_25 h0_f26 h0_f27 h0_f28 h0_f29 h0_f30 h0_f31 h0_32 h0_33 h0_f34 h0_35 h0_36 h0_37 h0_38 h0_39 h0_40 h0_f41 h0_f42 h0_f43 h0_f44 h0_45 h0_46 h0_47 h0_48 h0_49 h0_50 h0_f51 h0_52 h0_f53 h0_1 h0_1k w_69) := hD
          refine lv_aload_n hx hb dX12_put_33 rfl (lv_at hl 1 rfl) ?_
          as_aux_lemma =>
          refine lv_dup hx hb dX12_put_34 rfl ?_
          refine va_get (D := (dC, dI)) (ci := 12) (v := .int x_25) (C := RX12) (T := TX12) (N := 54) hx hb hts iw_c_X12_put_X12 hown hK hP 0 rfl rfl 6 (by decide +kernel) (hts (.fieldLink RX12 124 "BuoyVoteModel" "length" "I") (List.mem_of_getElem? (i := 2) rfl)) (fun _ h9 => h9) rfl dX12_put_35 ?_
          refine lv_iconst (v := 1) hx hb dX12_put_38 kc_iconst_1 ?_
          refine lv_iadd hx hb dX12_put_39 ?_
          refine lv_topi (fun x_70 ex_70 => ?_)
          replace hEX := hEX.trans (exl_eq ex_70)
          have g_71 : RG x_70 3 240 := RG_add ex_70 g_66 (RG_k 1 1 rfl) (by decide +kernel)
          refine va_put (D := (dC, dI)) (ci := 12) (v := .int x_70) (ty := .int) (C := RX12) (T := TX12) (N := 54) hx hb hts iw_c_X12_put_X12 tyX12 tyX12_ok nmX12 hown hK hP hD hS 0 rfl rfl 6 (by decide +kernel) (hts (.fieldLink RX12 124 "BuoyVoteModel" "length" "I") (List.mem_of_getElem? (i := 2) rfl)) (fun _ h9 => h9) rfl (by decide +kernel) rfl rfl (Nat.le_of_ble_eq_true rfl) dX12_put_40 (fun H locs hP hD hS => ?_)
          have hP : va_P (dC, dI) vwCl (wd_c_X12_put h0 h0_f0 h0_1 h0_2 h0_3 h0_4 h0_5 x_70 h0_f7 h0_f8 h0_f9 h0_f10 h0_f11 h0_f12 h0_f13 h0_f14 h0_15 h0_16 h0_f17 h0_18 h0_19 h0_20 h0_21 h0_22 h0_23 h0_24 h0_25 h0_f26 h0_f27 h0_f28 h0_f29 h0_f30 h0_f31 h0_32 h0_33 h0_f34 h0_35 h0_36 h0_37 h0_38 h0_39 h0_40 h0_f41 h0_f42 h0_f43 h0_f44 h0_45 h0_46 h0_47 h0_48 h0_49 h0_50 h0_f51 h0_52 h0_f53 h0_1 h0_1k w_69) H := hP
          have hD : va_D A (wd_c_X12_put h0 h0_f0 h0_1 h0_2 h0_3 h0_4 h0_5 x_70 h0_f7 h0_f8 h0_f9 h0_f10 h0_f11 h0_f12 h0_f13 h0_f14 h0_15 h0_16 h0_f17 h0_18 h0_19 h0_20 h0_21 h0_22 h0_23 h0_24 h0_25 h0_f26 h0_f27 h0_f28 h0_f29 h0_f30 h0_f31 h0_32 h0_33 h0_f34 h0_35 h0_36 h0_37 h0_38 h0_39 h0_40 h0_f41 h0_f42 h0_f43 h0_f44 h0_45 h0_46 h0_47 h0_48 h0_49 h0_50 h0_f51 h0_52 h0_f53 h0_1 h0_1k w_69) := hD
          refine lv_iinc (v := (-8)) (lv' := [(2, .int (-8)), (0, .ref h0), (1, .int p1)]) hx hb dX12_put_43 hl (k := 0) rfl (by decide +kernel) (Nat.le_of_ble_eq_true rfl) rfl (fun ls hl => ?_)
          refine lv_goto (tgt := 3) hx hb dX12_put_46 rfl ?_
          refine lv_iload_n hx hb dX12_put_3 rfl (lv_at hl 0 rfl) ?_
          refine lv_if_lt (tgt := 49) hx hb dX12_put_4 rfl (fun c_72 => ?_) (fun c_72 => absurd c_72 (by decide +kernel))
          have hK9 := hK.sub (tys' := []) [] rfl
          exact W.vret hx hb hr (fun t ht hW => ⟨⟨(x_70, w_69), rfl, ⟨(RG_w g_71 (by decide +kernel)), (by have := eq_add ex_12 g_8 (q := 1) rfl (by decide +kernel); have := eq_add ex_25 g_21 (q := 1) rfl (by decide +kernel); have := eq_add ex_70 g_66 (q := 1) rfl (by decide +kernel); have := n_7; have := n_20; have := n_58; have := n_65; show x_70.toInt = h0_f6.toInt + BN p1; unfold BN; omega), (hR.trans hEX).symm⟩, by rw [ht]; exact hP, va_K.moved hW.alike hK9, hD⟩, hS.F ht⟩) hS.2.2 dX12_put_49
        · replace hEX := hEX.trans (if_pos c_63)
          have g_73 : RG x_61 0 0 := RG_eq1 g_62 (RG_k 0 0 rfl) c_63 (by decide +kernel)
          have n_74 : bn p1 0 = 0 := bn_0 (k := 0) ex_60 ex_61 c_63
          refine lv_goto (tgt := 43) hx hb dX12_put_17 rfl ?_
          as_aux_lemma =>
          refine lv_iinc (v := (-8)) (lv' := [(2, .int (-8)), (0, .ref h0), (1, .int p1)]) hx hb dX12_put_43 hl (k := 0) rfl (by decide +kernel) (Nat.le_of_ble_eq_true rfl) rfl (fun ls hl => ?_)
          refine lv_goto (tgt := 3) hx hb dX12_put_46 rfl ?_
          refine lv_iload_n hx hb dX12_put_3 rfl (lv_at hl 0 rfl) ?_
          refine lv_if_lt (tgt := 49) hx hb dX12_put_4 rfl (fun c_75 => ?_) (fun c_75 => absurd c_75 (by decide +kernel))
          have hK9 := hK.sub (tys' := []) [] rfl
          exact W.vret hx hb hr (fun t ht hW => ⟨⟨(x_25, w_24), rfl, ⟨(RG_w g_26 (by decide +kernel)), (by have := eq_add ex_12 g_8 (q := 1) rfl (by decide +kernel); have := eq_add ex_25 g_21 (q := 1) rfl (by decide +kernel); have := n_7; have := n_20; have := n_58; have := n_74; show x_25.toInt = h0_f6.toInt + BN p1; unfold BN; omega), (hR.trans hEX).symm⟩, by rw [ht]; exact hP, va_K.moved hW.alike hK9, hD⟩, hS.F ht⟩) hS.2.2 dX12_put_49
    · replace hEX := hEX.trans (if_pos c_18)
      have g_76 : RG x_16 0 0 := RG_eq1 g_17 (RG_k 0 0 rfl) c_18 (by decide +kernel)
      have n_77 : bn p1 16 = 0 := bn_0 (k := 16) ex_15 ex_16 c_18
      refine lv_goto (tgt := 43) hx hb dX12_put_17 rfl ?_
      refine lv_iinc (v := 8) (lv' := [(2, .int 8), (0, .ref h0), (1, .int p1)]) hx hb dX12_put_43 hl (k := 0) rfl (by decide +kernel) (Nat.le_of_ble_eq_true rfl) rfl (fun ls hl => ?_)
      refine lv_goto (tgt := 3) hx hb dX12_put_46 rfl ?_
      refine lv_iload_n hx hb dX12_put_3 rfl (lv_at hl 0 rfl) ?_
      refine lv_if_lt (tgt := 49) hx hb dX12_put_4 rfl (fun c_78 => absurd c_78 (by decide +kernel)) (fun c_78 => ?_)
      as_aux_lemma =>
      refine lv_iload_n hx hb dX12_put_7 rfl (lv_at hl 2 rfl) ?_
      refine lv_iload_n hx hb dX12_put_8 rfl (lv_at hl 0 rfl) ?_
      refine lv_ishr hx hb dX12_put_9 ?_
      refine lv_topi (fun x_79 ex_79 => ?_)
      replace hEX := hEX.trans (exl_eq ex_79)
      refine lv_sipush (v := 255) hx hb dX12_put_10 kc_sipush_255 ?_
      refine lv_iand hx hb dX12_put_13 ?_
      refine lv_topi (fun x_80 ex_80 => ?_)
      replace hEX := hEX.trans (exl_eq ex_80)
      have g_81 : RG x_80 0 255 := RG_andr ex_80 (RG_k 255 255 rfl) (by decide +kernel)
      refine lv_if_ne (tgt := 20) hx hb dX12_put_14 rfl (fun c_82 => ?_) (fun c_82 => ?_)
      · replace hEX := hEX.trans (if_neg c_82)
        have g_83 : RG x_80 1 255 := RG_ne1 g_81 (q := 0) rfl c_82 (by decide +kernel)
        have n_84 : bn p1 8 = 1 := bn_1 (k := 8) ex_79 ex_80 c_82
        have g_85 : RG x_12 1 239 := ⟨(g_13).1, by have := eq_add ex_12 g_8 (q := 1) rfl (by decide +kernel); have := n_7; have := n_77; have := n_84; have := hbn; unfold BN at this; have := bn_nn p1 24; have := bn_nn p1 16; have := bn_nn p1 8; have := bn_nn p1 0; omega⟩
        refine lv_aload_n hx hb dX12_put_20 rfl (lv_at hl 1 rfl) ?_
        as_aux_lemma =>
        refine va_get (D := (dC, dI)) (ci := 12) (v := .ref h0_1) (C := RX12) (T := TX12) (N := 54) hx hb hts iw_c_X12_put_X12 hown hK hP 0 rfl rfl 1 (by decide +kernel) (hts (.fieldLink RX12 9 "BuoyVoteModel" "tape" "[B") (List.mem_of_getElem? (i := 1) rfl)) (fun _ h9 => h9) rfl dX12_put_21 ?_
        refine lv_aload_n hx hb dX12_put_24 rfl (lv_at hl 1 rfl) ?_
        refine va_get (D := (dC, dI)) (ci := 12) (v := .int x_12) (C := RX12) (T := TX12) (N := 54) hx hb hts iw_c_X12_put_X12 hown hK hP 0 rfl rfl 6 (by decide +kernel) (hts (.fieldLink RX12 124 "BuoyVoteModel" "length" "I") (List.mem_of_getElem? (i := 2) rfl)) (fun _ h9 => h9) rfl dX12_put_25 ?_
        refine lv_iload_n hx hb dX12_put_28 rfl (lv_at hl 2 rfl) ?_
        refine lv_iload_n hx hb dX12_put_29 rfl (lv_at hl 0 rfl) ?_
        refine lv_ishr hx hb dX12_put_30 ?_
        refine lv_topi (fun x_86 ex_86 => ?_)
        replace hEX := hEX.trans (exl_eq ex_86)
        refine lv_i2b hx hb dX12_put_31 rfl ?_
        refine lv_topi (fun x_87 ex_87 => ?_)
        replace hEX := hEX.trans (exl_eq ex_87)
        refine va_bast hx hb hK hP hD hS 1 0 rfl rfl (RG_in g_85 (by decide +kernel)) dX12_put_32 (fun H locs hP hD hS => ?_)
        have hP : va_P (dC, dI) vwCl (wd_c_X12_put h0 h0_f0 h0_1 h0_2 h0_3 h0_4 h0_5 x_12 h0_f7 h0_f8 h0_f9 h0_f10 h0_f11 h0_f12 h0_f13 h0_f14 h0_15 h0_16 h0_f17 h0_18 h0_19 h0_20 h0_21 h0_22 h0_23 h0_24 h0_25 h0_f26 h0_f27 h0_f28 h0_f29 h0_f30 h0_f31 h0_32 h0_33 h0_f34 h0_35 h0_36 h0_37 h0_38 h0_39 h0_40 h0_f41 h0_f42 h0_f43 h0_f44 h0_45 h0_46 h0_47 h0_48 h0_49 h0_50 h0_f51 h0_52 h0_f53 h0_1 h0_1k (upd w_11 (x_12 : Int32).toNatClampNeg (vp_nar .byte x_87))) H := hP
        have hD : va_D A (wd_c_X12_put h0 h0_f0 h0_1 h0_2 h0_3 h0_4 h0_5 x_12 h0_f7 h0_f8 h0_f9 h0_f10 h0_f11 h0_f12 h0_f13 h0_f14 h0_15 h0_16 h0_f17 h0_18 h0_19 h0_20 h0_21 h0_22 h0_23 h0_24 h0_25 h0_f26 h0_f27 h0_f28 h0_f29 h0_f30 h0_f31 h0_32 h0_33 h0_f34 h0_35 h0_36 h0_37 h0_38 h0_39 h0_40 h0_f41 h0_f42 h0_f43 h0_f44 h0_45 h0_46 h0_47 h0_48 h0_49 h0_50 h0_f51 h0_52 h0_f53 h0_1 h0_1k (upd w_11 (x_12 : Int32).toNatClampNeg (vp_nar .byte x_87))) := hD
        generalize huw_88 : (upd w_11 (x_12 : Int32).toNatClampNeg (vp_nar .byte x_87)) = w_88 at hP hD
        replace hEX := hEX.trans (exl_eq huw_88.symm)
        have hP : va_P (dC, dI) vwCl (wd_c_X12_put h0 h0_f0 h0_1 h0_2 h0_3 h0_4 h0_5 x_12 h0_f7 h0_f8 h0_f9 h0_f10 h0_f11 h0_f12 h0_f13 h0_f14 h0_15 h0_16 h0_f17 h0_18 h0_19 h0_20 h0_21 h0_22 h0_23 h0_24 h0_25 h0_f26 h0_f27 h0_f28 h0_f29 h0_f30 h0_f31 h0_32 h0_33 h0_f34 h0_35 h0_36 h0_37 h0_38 h0_39 h0_40 h0_f41 h0_f42 h0_f43 h0_f44 h0_45 h0_46 h0_47 h0_48 h0_49 h0_50 h0_f51 h0_52 h0_f53 h0_1 h0_1k w_88) H := hP
        have hD : va_D A (wd_c_X12_put h0 h0_f0 h0_1 h0_2 h0_3 h0_4 h0_5 x_12 h0_f7 h0_f8 h0_f9 h0_f10 h0_f11 h0_f12 h0_f13 h0_f14 h0_15 h0_16 h0_f17 h0_18 h0_19 h0_20 h0_21 h0_22 h0_23 h0_24 h0_25 h0_f26 h0_f27 h0_f28 h0_f29 h0_f30 h0_f31 h0_32 h0_33 h0_f34 h0_35 h0_36 h0_37 h0_38 h0_39 h0_40 h0_f41 h0_f42 h0_f43 h0_f44 h0_45 h0_46 h0_47 h0_48 h0_49 h0_50 h0_f51 h0_52 h0_f53 h0_1 h0_1k w_88) := hD
        refine lv_aload_n hx hb dX12_put_33 rfl (lv_at hl 1 rfl) ?_
        as_aux_lemma =>
        refine lv_dup hx hb dX12_put_34 rfl ?_
        refine va_get (D := (dC, dI)) (ci := 12) (v := .int x_12) (C := RX12) (T := TX12) (N := 54) hx hb hts iw_c_X12_put_X12 hown hK hP 0 rfl rfl 6 (by decide +kernel) (hts (.fieldLink RX12 124 "BuoyVoteModel" "length" "I") (List.mem_of_getElem? (i := 2) rfl)) (fun _ h9 => h9) rfl dX12_put_35 ?_
        refine lv_iconst (v := 1) hx hb dX12_put_38 kc_iconst_1 ?_
        refine lv_iadd hx hb dX12_put_39 ?_
        refine lv_topi (fun x_89 ex_89 => ?_)
        replace hEX := hEX.trans (exl_eq ex_89)
        have g_90 : RG x_89 2 240 := RG_add ex_89 g_85 (RG_k 1 1 rfl) (by decide +kernel)
        refine va_put (D := (dC, dI)) (ci := 12) (v := .int x_89) (ty := .int) (C := RX12) (T := TX12) (N := 54) hx hb hts iw_c_X12_put_X12 tyX12 tyX12_ok nmX12 hown hK hP hD hS 0 rfl rfl 6 (by decide +kernel) (hts (.fieldLink RX12 124 "BuoyVoteModel" "length" "I") (List.mem_of_getElem? (i := 2) rfl)) (fun _ h9 => h9) rfl (by decide +kernel) rfl rfl (Nat.le_of_ble_eq_true rfl) dX12_put_40 (fun H locs hP hD hS => ?_)
        have hP : va_P (dC, dI) vwCl (wd_c_X12_put h0 h0_f0 h0_1 h0_2 h0_3 h0_4 h0_5 x_89 h0_f7 h0_f8 h0_f9 h0_f10 h0_f11 h0_f12 h0_f13 h0_f14 h0_15 h0_16 h0_f17 h0_18 h0_19 h0_20 h0_21 h0_22 h0_23 h0_24 h0_25 h0_f26 h0_f27 h0_f28 h0_f29 h0_f30 h0_f31 h0_32 h0_33 h0_f34 h0_35 h0_36 h0_37 h0_38 h0_39 h0_40 h0_f41 h0_f42 h0_f43 h0_f44 h0_45 h0_46 h0_47 h0_48 h0_49 h0_50 h0_f51 h0_52 h0_f53 h0_1 h0_1k w_88) H := hP
        have hD : va_D A (wd_c_X12_put h0 h0_f0 h0_1 h0_2 h0_3 h0_4 h0_5 x_89 h0_f7 h0_f8 h0_f9 h0_f10 h0_f11 h0_f12 h0_f13 h0_f14 h0_15 h0_16 h0_f17 h0_18 h0_19 h0_20 h0_21 h0_22 h0_23 h0_24 h0_25 h0_f26 h0_f27 h0_f28 h0_f29 h0_f30 h0_f31 h0_32 h0_33 h0_f34 h0_35 h0_36 h0_37 h0_38 h0_39 h0_40 h0_f41 h0_f42 h0_f43 h0_f44 h0_45 h0_46 h0_47 h0_48 h0_49 h0_50 h0_f51 h0_52 h0_f53 h0_1 h0_1k w_88) := hD
        refine lv_iinc (v := 0) (lv' := [(2, .int 0), (0, .ref h0), (1, .int p1)]) hx hb dX12_put_43 hl (k := 0) rfl (by decide +kernel) (Nat.le_of_ble_eq_true rfl) rfl (fun ls hl => ?_)
        refine lv_goto (tgt := 3) hx hb dX12_put_46 rfl ?_
        refine lv_iload_n hx hb dX12_put_3 rfl (lv_at hl 0 rfl) ?_
        refine lv_if_lt (tgt := 49) hx hb dX12_put_4 rfl (fun c_91 => absurd c_91 (by decide +kernel)) (fun c_91 => ?_)
        as_aux_lemma =>
        refine lv_iload_n hx hb dX12_put_7 rfl (lv_at hl 2 rfl) ?_
        refine lv_iload_n hx hb dX12_put_8 rfl (lv_at hl 0 rfl) ?_
        refine lv_ishr hx hb dX12_put_9 ?_
        refine lv_topi (fun x_92 ex_92 => ?_)
        replace hEX := hEX.trans (exl_eq ex_92)
        refine lv_sipush (v := 255) hx hb dX12_put_10 kc_sipush_255 ?_
        refine lv_iand hx hb dX12_put_13 ?_
        refine lv_topi (fun x_93 ex_93 => ?_)
        replace hEX := hEX.trans (exl_eq ex_93)
        have g_94 : RG x_93 0 255 := RG_andr ex_93 (RG_k 255 255 rfl) (by decide +kernel)
        refine lv_if_ne (tgt := 20) hx hb dX12_put_14 rfl (fun c_95 => ?_) (fun c_95 => ?_)
        · replace hEX := hEX.trans (if_neg c_95)
          have g_96 : RG x_93 1 255 := RG_ne1 g_94 (q := 0) rfl c_95 (by decide +kernel)
          have n_97 : bn p1 0 = 1 := bn_1 (k := 0) ex_92 ex_93 c_95
          have g_98 : RG x_89 2 239 := ⟨(g_90).1, by have := eq_add ex_12 g_8 (q := 1) rfl (by decide +kernel); have := eq_add ex_89 g_85 (q := 1) rfl (by decide +kernel); have := n_7; have := n_77; have := n_84; have := n_97; have := hbn; unfold BN at this; have := bn_nn p1 24; have := bn_nn p1 16; have := bn_nn p1 8; have := bn_nn p1 0; omega⟩
          refine lv_aload_n hx hb dX12_put_20 rfl (lv_at hl 1 rfl) ?_
          as_aux_lemma =>
          refine va_get (D := (dC, dI)) (ci := 12) (v := .ref h0_1) (C := RX12) (T := TX12) (N := 54) hx hb hts iw_c_X12_put_X12 hown hK hP 0 rfl rfl 1 (by decide +kernel) (hts (.fieldLink RX12 9 "BuoyVoteModel" "tape" "[B") (List.mem_of_getElem? (i := 1) rfl)) (fun _ h9 => h9) rfl dX12_put_21 ?_
          refine lv_aload_n hx hb dX12_put_24 rfl (lv_at hl 1 rfl) ?_
          refine va_get (D := (dC, dI)) (ci := 12) (v := .int x_89) (C := RX12) (T := TX12) (N := 54) hx hb hts iw_c_X12_put_X12 hown hK hP 0 rfl rfl 6 (by decide +kernel) (hts (.fieldLink RX12 124 "BuoyVoteModel" "length" "I") (List.mem_of_getElem? (i := 2) rfl)) (fun _ h9 => h9) rfl dX12_put_25 ?_
          refine lv_iload_n hx hb dX12_put_28 rfl (lv_at hl 2 rfl) ?_
          refine lv_iload_n hx hb dX12_put_29 rfl (lv_at hl 0 rfl) ?_
          refine lv_ishr hx hb dX12_put_30 ?_
          refine lv_topi (fun x_99 ex_99 => ?_)
          replace hEX := hEX.trans (exl_eq ex_99)
          refine lv_i2b hx hb dX12_put_31 rfl ?_
          refine lv_topi (fun x_100 ex_100 => ?_)
          replace hEX := hEX.trans (exl_eq ex_100)
          refine va_bast hx hb hK hP hD hS 1 0 rfl rfl (RG_in g_98 (by decide +kernel)) dX12_put_32 (fun H locs hP hD hS => ?_)
          have hP : va_P (dC, dI) vwCl (wd_c_X12_put h0 h0_f0 h0_1 h0_2 h0_3 h0_4 h0_5 x_89 h0_f7 h0_f8 h0_f9 h0_f10 h0_f11 h0_f12 h0_f13 h0_f14 h0_15 h0_16 h0_f17 h0_18 h0_19 h0_20 h0_21 h0_22 h0_23 h0_24 h0_25 h0_f26 h0_f27 h0_f28 h0_f29 h0_f30 h0_f31 h0_32 h0_33 h0_f34 h0_35 h0_36 h0_37 h0_38 h0_39 h0_40 h0_f41 h0_f42 h0_f43 h0_f44 h0_45 h0_46 h0_47 h0_48 h0_49 h0_50 h0_f51 h0_52 h0_f53 h0_1 h0_1k (upd w_88 (x_89 : Int32).toNatClampNeg (vp_nar .byte x_100))) H := hP
          have hD : va_D A (wd_c_X12_put h0 h0_f0 h0_1 h0_2 h0_3 h0_4 h0_5 x_89 h0_f7 h0_f8 h0_f9 h0_f10 h0_f11 h0_f12 h0_f13 h0_f14 h0_15 h0_16 h0_f17 h0_18 h0_19 h0_20 h0_21 h0_22 h0_23 h0_24 h0_25 h0_f26 h0_f27 h0_f28 h0_f29 h0_f30 h0_f31 h0_32 h0_33 h0_f34 h0_35 h0_36 h0_37 h0_38 h0_39 h0_40 h0_f41 h0_f42 h0_f43 h0_f44 h0_45 h0_46 h0_47 h0_48 h0_49 h0_50 h0_f51 h0_52 h0_f53 h0_1 h0_1k (upd w_88 (x_89 : Int32).toNatClampNeg (vp_nar .byte x_100))) := hD
          generalize huw_101 : (upd w_88 (x_89 : Int32).toNatClampNeg (vp_nar .byte x_100)) = w_101 at hP hD
          replace hEX := hEX.trans (exl_eq huw_101.symm)
          have hP : va_P (dC, dI) vwCl (wd_c_X12_put h0 h0_f0 h0_1 h0_2 h0_3 h0_4 h0_5 x_89 h0_f7 h0_f8 h0_f9 h0_f10 h0_f11 h0_f12 h0_f13 h0_f14 h0_15 h0_16 h0_f17 h0_18 h0_19 h0_20 h0_21 h0_22 h0_23 h0_24 h0_25 h0_f26 h0_f27 h0_f28 h0_f29 h0_f30 h0_f31 h0_32 h0_33 h0_f34 h0_35 h0_36 h0_37 h0_38 h0_39 h0_40 h0_f41 h0_f42 h0_f43 h0_f44 h0_45 h0_46 h0_47 h0_48 h0_49 h0_50 h0_f51 h0_52 h0_f53 h0_1 h0_1k w_101) H := hP
          have hD : va_D A (wd_c_X12_put h0 h0_f0 h0_1 h0_2 h0_3 h0_4 h0_5 x_89 h0_f7 h0_f8 h0_f9 h0_f10 h0_f11 h0_f12 h0_f13 h0_f14 h0_15 h0_16 h0_f17 h0_18 h0_19 h0_20 h0_21 h0_22 h0_23 h0_24 h0_25 h0_f26 h0_f27 h0_f28 h0_f29 h0_f30 h0_f31 h0_32 h0_33 h0_f34 h0_35 h0_36 h0_37 h0_38 h0_39 h0_40 h0_f41 h0_f42 h0_f43 h0_f44 h0_45 h0_46 h0_47 h0_48 h0_49 h0_50 h0_f51 h0_52 h0_f53 h0_1 h0_1k w_101) := hD
          refine lv_aload_n hx hb dX12_put_33 rfl (lv_at hl 1 rfl) ?_
          as_aux_lemma =>
          refine lv_dup hx hb dX12_put_34 rfl ?_
          refine va_get (D := (dC, dI)) (ci := 12) (v := .int x_89) (C := RX12) (T := TX12) (N := 54) hx hb hts iw_c_X12_put_X12 hown hK hP 0 rfl rfl 6 (by decide +kernel) (hts (.fieldLink RX12 124 "BuoyVoteModel" "length" "I") (List.mem_of_getElem? (i := 2) rfl)) (fun _ h9 => h9) rfl dX12_put_35 ?_
          refine lv_iconst (v := 1) hx hb dX12_put_38 kc_iconst_1 ?_
          refine lv_iadd hx hb dX12_put_39 ?_
          refine lv_topi (fun x_102 ex_102 => ?_)
          replace hEX := hEX.trans (exl_eq ex_102)
          have g_103 : RG x_102 3 240 := RG_add ex_102 g_98 (RG_k 1 1 rfl) (by decide +kernel)
          refine va_put (D := (dC, dI)) (ci := 12) (v := .int x_102) (ty := .int) (C := RX12) (T := TX12) (N := 54) hx hb hts iw_c_X12_put_X12 tyX12 tyX12_ok nmX12 hown hK hP hD hS 0 rfl rfl 6 (by decide +kernel) (hts (.fieldLink RX12 124 "BuoyVoteModel" "length" "I") (List.mem_of_getElem? (i := 2) rfl)) (fun _ h9 => h9) rfl (by decide +kernel) rfl rfl (Nat.le_of_ble_eq_true rfl) dX12_put_40 (fun H locs hP hD hS => ?_)
          have hP : va_P (dC, dI) vwCl (wd_c_X12_put h0 h0_f0 h0_1 h0_2 h0_3 h0_4 h0_5 x_102 h0_f7 h0_f8 h0_f9 h0_f10 h0_f11 h0_f12 h0_f13 h0_f14 h0_15 h0_16 h0_f17 h0_18 h0_19 h0_20 h0_21 h0_22 h0_23 h0_24 h0_25 h0_f26 h0_f27 h0_f28 h0_f29 h0_f30 h0_f31 h0_32 h0_33 h0_f34 h0_35 h0_36 h0_37 h0_38 h0_39 h0_40 h0_f41 h0_f42 h0_f43 h0_f44 h0_45 h0_46 h0_47 h0_48 h0_49 h0_50 h0_f51 h0_52 h0_f53 h0_1 h0_1k w_101) H := hP
          have hD : va_D A (wd_c_X12_put h0 h0_f0 h0_1 h0_2 h0_3 h0_4 h0_5 x_102 h0_f7 h0_f8 h0_f9 h0_f10 h0_f11 h0_f12 h0_f13 h0_f14 h0_15 h0_16 h0_f17 h0_18 h0_19 h0_20 h0_21 h0_22 h0_23 h0_24 h0_25 h0_f26 h0_f27 h0_f28 h0_f29 h0_f30 h0_f31 h0_32 h0_33 h0_f34 h0_35 h0_36 h0_37 h0_38 h0_39 h0_40 h0_f41 h0_f42 h0_f43 h0_f44 h0_45 h0_46 h0_47 h0_48 h0_49 h0_50 h0_f51 h0_52 h0_f53 h0_1 h0_1k w_101) := hD
          refine lv_iinc (v := (-8)) (lv' := [(2, .int (-8)), (0, .ref h0), (1, .int p1)]) hx hb dX12_put_43 hl (k := 0) rfl (by decide +kernel) (Nat.le_of_ble_eq_true rfl) rfl (fun ls hl => ?_)
          refine lv_goto (tgt := 3) hx hb dX12_put_46 rfl ?_
          refine lv_iload_n hx hb dX12_put_3 rfl (lv_at hl 0 rfl) ?_
          refine lv_if_lt (tgt := 49) hx hb dX12_put_4 rfl (fun c_104 => ?_) (fun c_104 => absurd c_104 (by decide +kernel))
          have hK9 := hK.sub (tys' := []) [] rfl
          exact W.vret hx hb hr (fun t ht hW => ⟨⟨(x_102, w_101), rfl, ⟨(RG_w g_103 (by decide +kernel)), (by have := eq_add ex_12 g_8 (q := 1) rfl (by decide +kernel); have := eq_add ex_89 g_85 (q := 1) rfl (by decide +kernel); have := eq_add ex_102 g_98 (q := 1) rfl (by decide +kernel); have := n_7; have := n_77; have := n_84; have := n_97; show x_102.toInt = h0_f6.toInt + BN p1; unfold BN; omega), (hR.trans hEX).symm⟩, by rw [ht]; exact hP, va_K.moved hW.alike hK9, hD⟩, hS.F ht⟩) hS.2.2 dX12_put_49
        · replace hEX := hEX.trans (if_pos c_95)
          have g_105 : RG x_93 0 0 := RG_eq1 g_94 (RG_k 0 0 rfl) c_95 (by decide +kernel)
          have n_106 : bn p1 0 = 0 := bn_0 (k := 0) ex_92 ex_93 c_95
          refine lv_goto (tgt := 43) hx hb dX12_put_17 rfl ?_
          as_aux_lemma =>
          refine lv_iinc (v := (-8)) (lv' := [(2, .int (-8)), (0, .ref h0), (1, .int p1)]) hx hb dX12_put_43 hl (k := 0) rfl (by decide +kernel) (Nat.le_of_ble_eq_true rfl) rfl (fun ls hl => ?_)
          refine lv_goto (tgt := 3) hx hb dX12_put_46 rfl ?_
          refine lv_iload_n hx hb dX12_put_3 rfl (lv_at hl 0 rfl) ?_
          refine lv_if_lt (tgt := 49) hx hb dX12_put_4 rfl (fun c_107 => ?_) (fun c_107 => absurd c_107 (by decide +kernel))
          have hK9 := hK.sub (tys' := []) [] rfl
          exact W.vret hx hb hr (fun t ht hW => ⟨⟨(x_89, w_88), rfl, ⟨(RG_w g_90 (by decide +kernel)), (by have := eq_add ex_12 g_8 (q := 1) rfl (by decide +kernel); have := eq_add ex_89 g_85 (q := 1) rfl (by decide +kernel); have := n_7; have := n_77; have := n_84; have := n_106; show x_89.toInt = h0_f6.toInt + BN p1; unfold BN; omega), (hR.trans hEX).symm⟩, by rw [ht]; exact hP, va_K.moved hW.alike hK9, hD⟩, hS.F ht⟩) hS.2.2 dX12_put_49
      · replace hEX := hEX.trans (if_pos c_82)
        have g_108 : RG x_80 0 0 := RG_eq1 g_81 (RG_k 0 0 rfl) c_82 (by decide +kernel)
        have n_109 : bn p1 8 = 0 := bn_0 (k := 8) ex_79 ex_80 c_82
        refine lv_goto (tgt := 43) hx hb dX12_put_17 rfl ?_
        refine lv_iinc (v := 0) (lv' := [(2, .int 0), (0, .ref h0), (1, .int p1)]) hx hb dX12_put_43 hl (k := 0) rfl (by decide +kernel) (Nat.le_of_ble_eq_true rfl) rfl (fun ls hl => ?_)
        refine lv_goto (tgt := 3) hx hb dX12_put_46 rfl ?_
        refine lv_iload_n hx hb dX12_put_3 rfl (lv_at hl 0 rfl) ?_
        refine lv_if_lt (tgt := 49) hx hb dX12_put_4 rfl (fun c_110 => absurd c_110 (by decide +kernel)) (fun c_110 => ?_)
        as_aux_lemma =>
        refine lv_iload_n hx hb dX12_put_7 rfl (lv_at hl 2 rfl) ?_
        refine lv_iload_n hx hb dX12_put_8 rfl (lv_at hl 0 rfl) ?_
        refine lv_ishr hx hb dX12_put_9 ?_
        refine lv_topi (fun x_111 ex_111 => ?_)
        replace hEX := hEX.trans (exl_eq ex_111)
        refine lv_sipush (v := 255) hx hb dX12_put_10 kc_sipush_255 ?_
        refine lv_iand hx hb dX12_put_13 ?_
        refine lv_topi (fun x_112 ex_112 => ?_)
        replace hEX := hEX.trans (exl_eq ex_112)
        have g_113 : RG x_112 0 255 := RG_andr ex_112 (RG_k 255 255 rfl) (by decide +kernel)
        refine lv_if_ne (tgt := 20) hx hb dX12_put_14 rfl (fun c_114 => ?_) (fun c_114 => ?_)
        · replace hEX := hEX.trans (if_neg c_114)
          have g_115 : RG x_112 1 255 := RG_ne1 g_113 (q := 0) rfl c_114 (by decide +kernel)
          have n_116 : bn p1 0 = 1 := bn_1 (k := 0) ex_111 ex_112 c_114
          have g_117 : RG x_12 1 239 := ⟨(g_13).1, by have := eq_add ex_12 g_8 (q := 1) rfl (by decide +kernel); have := n_7; have := n_77; have := n_109; have := n_116; have := hbn; unfold BN at this; have := bn_nn p1 24; have := bn_nn p1 16; have := bn_nn p1 8; have := bn_nn p1 0; omega⟩
          refine lv_aload_n hx hb dX12_put_20 rfl (lv_at hl 1 rfl) ?_
          as_aux_lemma =>
          refine va_get (D := (dC, dI)) (ci := 12) (v := .ref h0_1) (C := RX12) (T := TX12) (N := 54) hx hb hts iw_c_X12_put_X12 hown hK hP 0 rfl rfl 1 (by decide +kernel) (hts (.fieldLink RX12 9 "BuoyVoteModel" "tape" "[B") (List.mem_of_getElem? (i := 1) rfl)) (fun _ h9 => h9) rfl dX12_put_21 ?_
          refine lv_aload_n hx hb dX12_put_24 rfl (lv_at hl 1 rfl) ?_
          refine va_get (D := (dC, dI)) (ci := 12) (v := .int x_12) (C := RX12) (T := TX12) (N := 54) hx hb hts iw_c_X12_put_X12 hown hK hP 0 rfl rfl 6 (by decide +kernel) (hts (.fieldLink RX12 124 "BuoyVoteModel" "length" "I") (List.mem_of_getElem? (i := 2) rfl)) (fun _ h9 => h9) rfl dX12_put_25 ?_
          refine lv_iload_n hx hb dX12_put_28 rfl (lv_at hl 2 rfl) ?_
          refine lv_iload_n hx hb dX12_put_29 rfl (lv_at hl 0 rfl) ?_
          refine lv_ishr hx hb dX12_put_30 ?_
          refine lv_topi (fun x_118 ex_118 => ?_)
          replace hEX := hEX.trans (exl_eq ex_118)
          refine lv_i2b hx hb dX12_put_31 rfl ?_
          refine lv_topi (fun x_119 ex_119 => ?_)
          replace hEX := hEX.trans (exl_eq ex_119)
          refine va_bast hx hb hK hP hD hS 1 0 rfl rfl (RG_in g_117 (by decide +kernel)) dX12_put_32 (fun H locs hP hD hS => ?_)
          have hP : va_P (dC, dI) vwCl (wd_c_X12_put h0 h0_f0 h0_1 h0_2 h0_3 h0_4 h0_5 x_12 h0_f7 h0_f8 h0_f9 h0_f10 h0_f11 h0_f12 h0_f13 h0_f14 h0_15 h0_16 h0_f17 h0_18 h0_19 h0_20 h0_21 h0_22 h0_23 h0_24 h0_25 h0_f26 h0_f27 h0_f28 h0_f29 h0_f30 h0_f31 h0_32 h0_33 h0_f34 h0_35 h0_36 h0_37 h0_38 h0_39 h0_40 h0_f41 h0_f42 h0_f43 h0_f44 h0_45 h0_46 h0_47 h0_48 h0_49 h0_50 h0_f51 h0_52 h0_f53 h0_1 h0_1k (upd w_11 (x_12 : Int32).toNatClampNeg (vp_nar .byte x_119))) H := hP
          have hD : va_D A (wd_c_X12_put h0 h0_f0 h0_1 h0_2 h0_3 h0_4 h0_5 x_12 h0_f7 h0_f8 h0_f9 h0_f10 h0_f11 h0_f12 h0_f13 h0_f14 h0_15 h0_16 h0_f17 h0_18 h0_19 h0_20 h0_21 h0_22 h0_23 h0_24 h0_25 h0_f26 h0_f27 h0_f28 h0_f29 h0_f30 h0_f31 h0_32 h0_33 h0_f34 h0_35 h0_36 h0_37 h0_38 h0_39 h0_40 h0_f41 h0_f42 h0_f43 h0_f44 h0_45 h0_46 h0_47 h0_48 h0_49 h0_50 h0_f51 h0_52 h0_f53 h0_1 h0_1k (upd w_11 (x_12 : Int32).toNatClampNeg (vp_nar .byte x_119))) := hD
          generalize huw_120 : (upd w_11 (x_12 : Int32).toNatClampNeg (vp_nar .byte x_119)) = w_120 at hP hD
          replace hEX := hEX.trans (exl_eq huw_120.symm)
          have hP : va_P (dC, dI) vwCl (wd_c_X12_put h0 h0_f0 h0_1 h0_2 h0_3 h0_4 h0_5 x_12 h0_f7 h0_f8 h0_f9 h0_f10 h0_f11 h0_f12 h0_f13 h0_f14 h0_15 h0_16 h0_f17 h0_18 h0_19 h0_20 h0_21 h0_22 h0_23 h0_24 h0_25 h0_f26 h0_f27 h0_f28 h0_f29 h0_f30 h0_f31 h0_32 h0_33 h0_f34 h0_35 h0_36 h0_37 h0_38 h0_39 h0_40 h0_f41 h0_f42 h0_f43 h0_f44 h0_45 h0_46 h0_47 h0_48 h0_49 h0_50 h0_f51 h0_52 h0_f53 h0_1 h0_1k w_120) H := hP
          have hD : va_D A (wd_c_X12_put h0 h0_f0 h0_1 h0_2 h0_3 h0_4 h0_5 x_12 h0_f7 h0_f8 h0_f9 h0_f10 h0_f11 h0_f12 h0_f13 h0_f14 h0_15 h0_16 h0_f17 h0_18 h0_19 h0_20 h0_21 h0_22 h0_23 h0_24 h0_25 h0_f26 h0_f27 h0_f28 h0_f29 h0_f30 h0_f31 h0_32 h0_33 h0_f34 h0_35 h0_36 h0_37 h0_38 h0_39 h0_40 h0_f41 h0_f42 h0_f43 h0_f44 h0_45 h0_46 h0_47 h0_48 h0_49 h0_50 h0_f51 h0_52 h0_f53 h0_1 h0_1k w_120) := hD
          refine lv_aload_n hx hb dX12_put_33 rfl (lv_at hl 1 rfl) ?_
          as_aux_lemma =>
          refine lv_dup hx hb dX12_put_34 rfl ?_
          refine va_get (D := (dC, dI)) (ci := 12) (v := .int x_12) (C := RX12) (T := TX12) (N := 54) hx hb hts iw_c_X12_put_X12 hown hK hP 0 rfl rfl 6 (by decide +kernel) (hts (.fieldLink RX12 124 "BuoyVoteModel" "length" "I") (List.mem_of_getElem? (i := 2) rfl)) (fun _ h9 => h9) rfl dX12_put_35 ?_
          refine lv_iconst (v := 1) hx hb dX12_put_38 kc_iconst_1 ?_
          refine lv_iadd hx hb dX12_put_39 ?_
          refine lv_topi (fun x_121 ex_121 => ?_)
          replace hEX := hEX.trans (exl_eq ex_121)
          have g_122 : RG x_121 2 240 := RG_add ex_121 g_117 (RG_k 1 1 rfl) (by decide +kernel)
          refine va_put (D := (dC, dI)) (ci := 12) (v := .int x_121) (ty := .int) (C := RX12) (T := TX12) (N := 54) hx hb hts iw_c_X12_put_X12 tyX12 tyX12_ok nmX12 hown hK hP hD hS 0 rfl rfl 6 (by decide +kernel) (hts (.fieldLink RX12 124 "BuoyVoteModel" "length" "I") (List.mem_of_getElem? (i := 2) rfl)) (fun _ h9 => h9) rfl (by decide +kernel) rfl rfl (Nat.le_of_ble_eq_true rfl) dX12_put_40 (fun H locs hP hD hS => ?_)
          have hP : va_P (dC, dI) vwCl (wd_c_X12_put h0 h0_f0 h0_1 h0_2 h0_3 h0_4 h0_5 x_121 h0_f7 h0_f8 h0_f9 h0_f10 h0_f11 h0_f12 h0_f13 h0_f14 h0_15 h0_16 h0_f17 h0_18 h0_19 h0_20 h0_21 h0_22 h0_23 h0_24 h0_25 h0_f26 h0_f27 h0_f28 h0_f29 h0_f30 h0_f31 h0_32 h0_33 h0_f34 h0_35 h0_36 h0_37 h0_38 h0_39 h0_40 h0_f41 h0_f42 h0_f43 h0_f44 h0_45 h0_46 h0_47 h0_48 h0_49 h0_50 h0_f51 h0_52 h0_f53 h0_1 h0_1k w_120) H := hP
          have hD : va_D A (wd_c_X12_put h0 h0_f0 h0_1 h0_2 h0_3 h0_4 h0_5 x_121 h0_f7 h0_f8 h0_f9 h0_f10 h0_f11 h0_f12 h0_f13 h0_f14 h0_15 h0_16 h0_f17 h0_18 h0_19 h0_20 h0_21 h0_22 h0_23 h0_24 h0_25 h0_f26 h0_f27 h0_f28 h0_f29 h0_f30 h0_f31 h0_32 h0_33 h0_f34 h0_35 h0_36 h0_37 h0_38 h0_39 h0_40 h0_f41 h0_f42 h0_f43 h0_f44 h0_45 h0_46 h0_47 h0_48 h0_49 h0_50 h0_f51 h0_52 h0_f53 h0_1 h0_1k w_120) := hD
          refine lv_iinc (v := (-8)) (lv' := [(2, .int (-8)), (0, .ref h0), (1, .int p1)]) hx hb dX12_put_43 hl (k := 0) rfl (by decide +kernel) (Nat.le_of_ble_eq_true rfl) rfl (fun ls hl => ?_)
          refine lv_goto (tgt := 3) hx hb dX12_put_46 rfl ?_
          refine lv_iload_n hx hb dX12_put_3 rfl (lv_at hl 0 rfl) ?_
          refine lv_if_lt (tgt := 49) hx hb dX12_put_4 rfl (fun c_123 => ?_) (fun c_123 => absurd c_123 (by decide +kernel))
          have hK9 := hK.sub (tys' := []) [] rfl
          exact W.vret hx hb hr (fun t ht hW => ⟨⟨(x_121, w_120), rfl, ⟨(RG_w g_122 (by decide +kernel)), (by have := eq_add ex_12 g_8 (q := 1) rfl (by decide +kernel); have := eq_add ex_121 g_117 (q := 1) rfl (by decide +kernel); have := n_7; have := n_77; have := n_109; have := n_116; show x_121.toInt = h0_f6.toInt + BN p1; unfold BN; omega), (hR.trans hEX).symm⟩, by rw [ht]; exact hP, va_K.moved hW.alike hK9, hD⟩, hS.F ht⟩) hS.2.2 dX12_put_49
        · replace hEX := hEX.trans (if_pos c_114)
          have g_124 : RG x_112 0 0 := RG_eq1 g_113 (RG_k 0 0 rfl) c_114 (by decide +kernel)
          have n_125 : bn p1 0 = 0 := bn_0 (k := 0) ex_111 ex_112 c_114
          refine lv_goto (tgt := 43) hx hb dX12_put_17 rfl ?_
          as_aux_lemma =>
          refine lv_iinc (v := (-8)) (lv' := [(2, .int (-8)), (0, .ref h0), (1, .int p1)]) hx hb dX12_put_43 hl (k := 0) rfl (by decide +kernel) (Nat.le_of_ble_eq_true rfl) rfl (fun ls hl => ?_)
          refine lv_goto (tgt := 3) hx hb dX12_put_46 rfl ?_
          refine lv_iload_n hx hb dX12_put_3 rfl (lv_at hl 0 rfl) ?_
          refine lv_if_lt (tgt := 49) hx hb dX12_put_4 rfl (fun c_126 => ?_) (fun c_126 => absurd c_126 (by decide +kernel))
          have hK9 := hK.sub (tys' := []) [] rfl
          exact W.vret hx hb hr (fun t ht hW => ⟨⟨(x_12, w_11), rfl, ⟨(RG_w g_13 (by decide +kernel)), (by have := eq_add ex_12 g_8 (q := 1) rfl (by decide +kernel); have := n_7; have := n_77; have := n_109; have := n_125; show x_12.toInt = h0_f6.toInt + BN p1; unfold BN; omega), (hR.trans hEX).symm⟩, by rw [ht]; exact hP, va_K.moved hW.alike hK9, hD⟩, hS.F ht⟩) hS.2.2 dX12_put_49
  · replace hEX := hEX.trans (if_pos c_5)
    have g_127 : RG x_3 0 0 := RG_eq1 g_4 (RG_k 0 0 rfl) c_5 (by decide +kernel)
    have n_128 : bn p1 24 = 0 := bn_0 (k := 24) ex_2 ex_3 c_5
    refine lv_goto (tgt := 43) hx hb dX12_put_17 rfl ?_
    refine lv_iinc (v := 16) (lv' := [(2, .int 16), (0, .ref h0), (1, .int p1)]) hx hb dX12_put_43 hl (k := 0) rfl (by decide +kernel) (Nat.le_of_ble_eq_true rfl) rfl (fun ls hl => ?_)
    refine lv_goto (tgt := 3) hx hb dX12_put_46 rfl ?_
    refine lv_iload_n hx hb dX12_put_3 rfl (lv_at hl 0 rfl) ?_
    refine lv_if_lt (tgt := 49) hx hb dX12_put_4 rfl (fun c_129 => absurd c_129 (by decide +kernel)) (fun c_129 => ?_)
    as_aux_lemma =>
    refine lv_iload_n hx hb dX12_put_7 rfl (lv_at hl 2 rfl) ?_
    refine lv_iload_n hx hb dX12_put_8 rfl (lv_at hl 0 rfl) ?_
    refine lv_ishr hx hb dX12_put_9 ?_
    refine lv_topi (fun x_130 ex_130 => ?_)
    replace hEX := hEX.trans (exl_eq ex_130)
    refine lv_sipush (v := 255) hx hb dX12_put_10 kc_sipush_255 ?_
    refine lv_iand hx hb dX12_put_13 ?_
    refine lv_topi (fun x_131 ex_131 => ?_)
    replace hEX := hEX.trans (exl_eq ex_131)
    have g_132 : RG x_131 0 255 := RG_andr ex_131 (RG_k 255 255 rfl) (by decide +kernel)
    refine lv_if_ne (tgt := 20) hx hb dX12_put_14 rfl (fun c_133 => ?_) (fun c_133 => ?_)
    · replace hEX := hEX.trans (if_neg c_133)
      have g_134 : RG x_131 1 255 := RG_ne1 g_132 (q := 0) rfl c_133 (by decide +kernel)
      have n_135 : bn p1 16 = 1 := bn_1 (k := 16) ex_130 ex_131 c_133
      have g_136 : RG h0_f6 0 239 := ⟨(g_h0_f6).1, by have := n_128; have := n_135; have := hbn; unfold BN at this; have := bn_nn p1 24; have := bn_nn p1 16; have := bn_nn p1 8; have := bn_nn p1 0; omega⟩
      refine lv_aload_n hx hb dX12_put_20 rfl (lv_at hl 1 rfl) ?_
      as_aux_lemma =>
      refine va_get (D := (dC, dI)) (ci := 12) (v := .ref h0_1) (C := RX12) (T := TX12) (N := 54) hx hb hts iw_c_X12_put_X12 hown hK hP 0 rfl rfl 1 (by decide +kernel) (hts (.fieldLink RX12 9 "BuoyVoteModel" "tape" "[B") (List.mem_of_getElem? (i := 1) rfl)) (fun _ h9 => h9) rfl dX12_put_21 ?_
      refine lv_aload_n hx hb dX12_put_24 rfl (lv_at hl 1 rfl) ?_
      refine va_get (D := (dC, dI)) (ci := 12) (v := .int h0_f6) (C := RX12) (T := TX12) (N := 54) hx hb hts iw_c_X12_put_X12 hown hK hP 0 rfl rfl 6 (by decide +kernel) (hts (.fieldLink RX12 124 "BuoyVoteModel" "length" "I") (List.mem_of_getElem? (i := 2) rfl)) (fun _ h9 => h9) rfl dX12_put_25 ?_
      refine lv_iload_n hx hb dX12_put_28 rfl (lv_at hl 2 rfl) ?_
      refine lv_iload_n hx hb dX12_put_29 rfl (lv_at hl 0 rfl) ?_
      refine lv_ishr hx hb dX12_put_30 ?_
      refine lv_topi (fun x_137 ex_137 => ?_)
      replace hEX := hEX.trans (exl_eq ex_137)
      refine lv_i2b hx hb dX12_put_31 rfl ?_
      refine lv_topi (fun x_138 ex_138 => ?_)
      replace hEX := hEX.trans (exl_eq ex_138)
      refine va_bast hx hb hK hP hD hS 1 0 rfl rfl (RG_in g_136 (by decide +kernel)) dX12_put_32 (fun H locs hP hD hS => ?_)
      have hP : va_P (dC, dI) vwCl (wd_c_X12_put h0 h0_f0 h0_1 h0_2 h0_3 h0_4 h0_5 h0_f6 h0_f7 h0_f8 h0_f9 h0_f10 h0_f11 h0_f12 h0_f13 h0_f14 h0_15 h0_16 h0_f17 h0_18 h0_19 h0_20 h0_21 h0_22 h0_23 h0_24 h0_25 h0_f26 h0_f27 h0_f28 h0_f29 h0_f30 h0_f31 h0_32 h0_33 h0_f34 h0_35 h0_36 h0_37 h0_38 h0_39 h0_40 h0_f41 h0_f42 h0_f43 h0_f44 h0_45 h0_46 h0_47 h0_48 h0_49 h0_50 h0_f51 h0_52 h0_f53 h0_1 h0_1k (upd h0_1c (h0_f6 : Int32).toNatClampNeg (vp_nar .byte x_138))) H := hP
      have hD : va_D A (wd_c_X12_put h0 h0_f0 h0_1 h0_2 h0_3 h0_4 h0_5 h0_f6 h0_f7 h0_f8 h0_f9 h0_f10 h0_f11 h0_f12 h0_f13 h0_f14 h0_15 h0_16 h0_f17 h0_18 h0_19 h0_20 h0_21 h0_22 h0_23 h0_24 h0_25 h0_f26 h0_f27 h0_f28 h0_f29 h0_f30 h0_f31 h0_32 h0_33 h0_f34 h0_35 h0_36 h0_37 h0_38 h0_39 h0_40 h0_f41 h0_f42 h0_f43 h0_f44 h0_45 h0_46 h0_47 h0_48 h0_49 h0_50 h0_f51 h0_52 h0_f53 h0_1 h0_1k (upd h0_1c (h0_f6 : Int32).toNatClampNeg (vp_nar .byte x_138))) := hD
      generalize huw_139 : (upd h0_1c (h0_f6 : Int32).toNatClampNeg (vp_nar .byte x_138)) = w_139 at hP hD
      replace hEX := hEX.trans (exl_eq huw_139.symm)
      have hP : va_P (dC, dI) vwCl (wd_c_X12_put h0 h0_f0 h0_1 h0_2 h0_3 h0_4 h0_5 h0_f6 h0_f7 h0_f8 h0_f9 h0_f10 h0_f11 h0_f12 h0_f13 h0_f14 h0_15 h0_16 h0_f17 h0_18 h0_19 h0_20 h0_21 h0_22 h0_23 h0_24 h0_25 h0_f26 h0_f27 h0_f28 h0_f29 h0_f30 h0_f31 h0_32 h0_33 h0_f34 h0_35 h0_36 h0_37 h0_38 h0_39 h0_40 h0_f41 h0_f42 h0_f43 h0_f44 h0_45 h0_46 h0_47 h0_48 h0_49 h0_50 h0_f51 h0_52 h0_f53 h0_1 h0_1k w_139) H := hP
      have hD : va_D A (wd_c_X12_put h0 h0_f0 h0_1 h0_2 h0_3 h0_4 h0_5 h0_f6 h0_f7 h0_f8 h0_f9 h0_f10 h0_f11 h0_f12 h0_f13 h0_f14 h0_15 h0_16 h0_f17 h0_18 h0_19 h0_20 h0_21 h0_22 h0_23 h0_24 h0_25 h0_f26 h0_f27 h0_f28 h0_f29 h0_f30 h0_f31 h0_32 h0_33 h0_f34 h0_35 h0_36 h0_37 h0_38 h0_39 h0_40 h0_f41 h0_f42 h0_f43 h0_f44 h0_45 h0_46 h0_47 h0_48 h0_49 h0_50 h0_f51 h0_52 h0_f53 h0_1 h0_1k w_139) := hD
      refine lv_aload_n hx hb dX12_put_33 rfl (lv_at hl 1 rfl) ?_
      as_aux_lemma =>
      refine lv_dup hx hb dX12_put_34 rfl ?_
      refine va_get (D := (dC, dI)) (ci := 12) (v := .int h0_f6) (C := RX12) (T := TX12) (N := 54) hx hb hts iw_c_X12_put_X12 hown hK hP 0 rfl rfl 6 (by decide +kernel) (hts (.fieldLink RX12 124 "BuoyVoteModel" "length" "I") (List.mem_of_getElem? (i := 2) rfl)) (fun _ h9 => h9) rfl dX12_put_35 ?_
      refine lv_iconst (v := 1) hx hb dX12_put_38 kc_iconst_1 ?_
      refine lv_iadd hx hb dX12_put_39 ?_
      refine lv_topi (fun x_140 ex_140 => ?_)
      replace hEX := hEX.trans (exl_eq ex_140)
      have g_141 : RG x_140 1 240 := RG_add ex_140 g_136 (RG_k 1 1 rfl) (by decide +kernel)
      refine va_put (D := (dC, dI)) (ci := 12) (v := .int x_140) (ty := .int) (C := RX12) (T := TX12) (N := 54) hx hb hts iw_c_X12_put_X12 tyX12 tyX12_ok nmX12 hown hK hP hD hS 0 rfl rfl 6 (by decide +kernel) (hts (.fieldLink RX12 124 "BuoyVoteModel" "length" "I") (List.mem_of_getElem? (i := 2) rfl)) (fun _ h9 => h9) rfl (by decide +kernel) rfl rfl (Nat.le_of_ble_eq_true rfl) dX12_put_40 (fun H locs hP hD hS => ?_)
      have hP : va_P (dC, dI) vwCl (wd_c_X12_put h0 h0_f0 h0_1 h0_2 h0_3 h0_4 h0_5 x_140 h0_f7 h0_f8 h0_f9 h0_f10 h0_f11 h0_f12 h0_f13 h0_f14 h0_15 h0_16 h0_f17 h0_18 h0_19 h0_20 h0_21 h0_22 h0_23 h0_24 h0_25 h0_f26 h0_f27 h0_f28 h0_f29 h0_f30 h0_f31 h0_32 h0_33 h0_f34 h0_35 h0_36 h0_37 h0_38 h0_39 h0_40 h0_f41 h0_f42 h0_f43 h0_f44 h0_45 h0_46 h0_47 h0_48 h0_49 h0_50 h0_f51 h0_52 h0_f53 h0_1 h0_1k w_139) H := hP
      have hD : va_D A (wd_c_X12_put h0 h0_f0 h0_1 h0_2 h0_3 h0_4 h0_5 x_140 h0_f7 h0_f8 h0_f9 h0_f10 h0_f11 h0_f12 h0_f13 h0_f14 h0_15 h0_16 h0_f17 h0_18 h0_19 h0_20 h0_21 h0_22 h0_23 h0_24 h0_25 h0_f26 h0_f27 h0_f28 h0_f29 h0_f30 h0_f31 h0_32 h0_33 h0_f34 h0_35 h0_36 h0_37 h0_38 h0_39 h0_40 h0_f41 h0_f42 h0_f43 h0_f44 h0_45 h0_46 h0_47 h0_48 h0_49 h0_50 h0_f51 h0_52 h0_f53 h0_1 h0_1k w_139) := hD
      refine lv_iinc (v := 8) (lv' := [(2, .int 8), (0, .ref h0), (1, .int p1)]) hx hb dX12_put_43 hl (k := 0) rfl (by decide +kernel) (Nat.le_of_ble_eq_true rfl) rfl (fun ls hl => ?_)
      refine lv_goto (tgt := 3) hx hb dX12_put_46 rfl ?_
      refine lv_iload_n hx hb dX12_put_3 rfl (lv_at hl 0 rfl) ?_
      refine lv_if_lt (tgt := 49) hx hb dX12_put_4 rfl (fun c_142 => absurd c_142 (by decide +kernel)) (fun c_142 => ?_)
      as_aux_lemma =>
      refine lv_iload_n hx hb dX12_put_7 rfl (lv_at hl 2 rfl) ?_
      refine lv_iload_n hx hb dX12_put_8 rfl (lv_at hl 0 rfl) ?_
      refine lv_ishr hx hb dX12_put_9 ?_
      refine lv_topi (fun x_143 ex_143 => ?_)
      replace hEX := hEX.trans (exl_eq ex_143)
      refine lv_sipush (v := 255) hx hb dX12_put_10 kc_sipush_255 ?_
      refine lv_iand hx hb dX12_put_13 ?_
      refine lv_topi (fun x_144 ex_144 => ?_)
      replace hEX := hEX.trans (exl_eq ex_144)
      have g_145 : RG x_144 0 255 := RG_andr ex_144 (RG_k 255 255 rfl) (by decide +kernel)
      refine lv_if_ne (tgt := 20) hx hb dX12_put_14 rfl (fun c_146 => ?_) (fun c_146 => ?_)
      · replace hEX := hEX.trans (if_neg c_146)
        have g_147 : RG x_144 1 255 := RG_ne1 g_145 (q := 0) rfl c_146 (by decide +kernel)
        have n_148 : bn p1 8 = 1 := bn_1 (k := 8) ex_143 ex_144 c_146
        have g_149 : RG x_140 1 239 := ⟨(g_141).1, by have := eq_add ex_140 g_136 (q := 1) rfl (by decide +kernel); have := n_128; have := n_135; have := n_148; have := hbn; unfold BN at this; have := bn_nn p1 24; have := bn_nn p1 16; have := bn_nn p1 8; have := bn_nn p1 0; omega⟩
        refine lv_aload_n hx hb dX12_put_20 rfl (lv_at hl 1 rfl) ?_
        as_aux_lemma =>
        refine va_get (D := (dC, dI)) (ci := 12) (v := .ref h0_1) (C := RX12) (T := TX12) (N := 54) hx hb hts iw_c_X12_put_X12 hown hK hP 0 rfl rfl 1 (by decide +kernel) (hts (.fieldLink RX12 9 "BuoyVoteModel" "tape" "[B") (List.mem_of_getElem? (i := 1) rfl)) (fun _ h9 => h9) rfl dX12_put_21 ?_
        refine lv_aload_n hx hb dX12_put_24 rfl (lv_at hl 1 rfl) ?_
        refine va_get (D := (dC, dI)) (ci := 12) (v := .int x_140) (C := RX12) (T := TX12) (N := 54) hx hb hts iw_c_X12_put_X12 hown hK hP 0 rfl rfl 6 (by decide +kernel) (hts (.fieldLink RX12 124 "BuoyVoteModel" "length" "I") (List.mem_of_getElem? (i := 2) rfl)) (fun _ h9 => h9) rfl dX12_put_25 ?_
        refine lv_iload_n hx hb dX12_put_28 rfl (lv_at hl 2 rfl) ?_
        refine lv_iload_n hx hb dX12_put_29 rfl (lv_at hl 0 rfl) ?_
        refine lv_ishr hx hb dX12_put_30 ?_
        refine lv_topi (fun x_150 ex_150 => ?_)
        replace hEX := hEX.trans (exl_eq ex_150)
        refine lv_i2b hx hb dX12_put_31 rfl ?_
        refine lv_topi (fun x_151 ex_151 => ?_)
        replace hEX := hEX.trans (exl_eq ex_151)
        refine va_bast hx hb hK hP hD hS 1 0 rfl rfl (RG_in g_149 (by decide +kernel)) dX12_put_32 (fun H locs hP hD hS => ?_)
        have hP : va_P (dC, dI) vwCl (wd_c_X12_put h0 h0_f0 h0_1 h0_2 h0_3 h0_4 h0_5 x_140 h0_f7 h0_f8 h0_f9 h0_f10 h0_f11 h0_f12 h0_f13 h0_f14 h0_15 h0_16 h0_f17 h0_18 h0_19 h0_20 h0_21 h0_22 h0_23 h0_24 h0_25 h0_f26 h0_f27 h0_f28 h0_f29 h0_f30 h0_f31 h0_32 h0_33 h0_f34 h0_35 h0_36 h0_37 h0_38 h0_39 h0_40 h0_f41 h0_f42 h0_f43 h0_f44 h0_45 h0_46 h0_47 h0_48 h0_49 h0_50 h0_f51 h0_52 h0_f53 h0_1 h0_1k (upd w_139 (x_140 : Int32).toNatClampNeg (vp_nar .byte x_151))) H := hP
        have hD : va_D A (wd_c_X12_put h0 h0_f0 h0_1 h0_2 h0_3 h0_4 h0_5 x_140 h0_f7 h0_f8 h0_f9 h0_f10 h0_f11 h0_f12 h0_f13 h0_f14 h0_15 h0_16 h0_f17 h0_18 h0_19 h0_20 h0_21 h0_22 h0_23 h0_24 h0_25 h0_f26 h0_f27 h0_f28 h0_f29 h0_f30 h0_f31 h0_32 h0_33 h0_f34 h0_35 h0_36 h0_37 h0_38 h0_39 h0_40 h0_f41 h0_f42 h0_f43 h0_f44 h0_45 h0_46 h0_47 h0_48 h0_49 h0_50 h0_f51 h0_52 h0_f53 h0_1 h0_1k (upd w_139 (x_140 : Int32).toNatClampNeg (vp_nar .byte x_151))) := hD
        generalize huw_152 : (upd w_139 (x_140 : Int32).toNatClampNeg (vp_nar .byte x_151)) = w_152 at hP hD
        replace hEX := hEX.trans (exl_eq huw_152.symm)
        have hP : va_P (dC, dI) vwCl (wd_c_X12_put h0 h0_f0 h0_1 h0_2 h0_3 h0_4 h0_5 x_140 h0_f7 h0_f8 h0_f9 h0_f10 h0_f11 h0_f12 h0_f13 h0_f14 h0_15 h0_16 h0_f17 h0_18 h0_19 h0_20 h0_21 h0_22 h0_23 h0_24 h0_25 h0_f26 h0_f27 h0_f28 h0_f29 h0_f30 h0_f31 h0_32 h0_33 h0_f34 h0_35 h0_36 h0_37 h0_38 h0_39 h0_40 h0_f41 h0_f42 h0_f43 h0_f44 h0_45 h0_46 h0_47 h0_48 h0_49 h0_50 h0_f51 h0_52 h0_f53 h0_1 h0_1k w_152) H := hP
        have hD : va_D A (wd_c_X12_put h0 h0_f0 h0_1 h0_2 h0_3 h0_4 h0_5 x_140 h0_f7 h0_f8 h0_f9 h0_f10 h0_f11 h0_f12 h0_f13 h0_f14 h0_15 h0_16 h0_f17 h0_18 h0_19 h0_20 h0_21 h0_22 h0_23 h0_24 h0_25 h0_f26 h0_f27 h0_f28 h0_f29 h0_f30 h0_f31 h0_32 h0_33 h0_f34 h0_35 h0_36 h0_37 h0_38 h0_39 h0_40 h0_f41 h0_f42 h0_f43 h0_f44 h0_45 h0_46 h0_47 h0_48 h0_49 h0_50 h0_f51 h0_52 h0_f53 h0_1 h0_1k w_152) := hD
        refine lv_aload_n hx hb dX12_put_33 rfl (lv_at hl 1 rfl) ?_
        as_aux_lemma =>
        refine lv_dup hx hb dX12_put_34 rfl ?_
        refine va_get (D := (dC, dI)) (ci := 12) (v := .int x_140) (C := RX12) (T := TX12) (N := 54) hx hb hts iw_c_X12_put_X12 hown hK hP 0 rfl rfl 6 (by decide +kernel) (hts (.fieldLink RX12 124 "BuoyVoteModel" "length" "I") (List.mem_of_getElem? (i := 2) rfl)) (fun _ h9 => h9) rfl dX12_put_35 ?_
        refine lv_iconst (v := 1) hx hb dX12_put_38 kc_iconst_1 ?_
        refine lv_iadd hx hb dX12_put_39 ?_
        refine lv_topi (fun x_153 ex_153 => ?_)
        replace hEX := hEX.trans (exl_eq ex_153)
        have g_154 : RG x_153 2 240 := RG_add ex_153 g_149 (RG_k 1 1 rfl) (by decide +kernel)
        refine va_put (D := (dC, dI)) (ci := 12) (v := .int x_153) (ty := .int) (C := RX12) (T := TX12) (N := 54) hx hb hts iw_c_X12_put_X12 tyX12 tyX12_ok nmX12 hown hK hP hD hS 0 rfl rfl 6 (by decide +kernel) (hts (.fieldLink RX12 124 "BuoyVoteModel" "length" "I") (List.mem_of_getElem? (i := 2) rfl)) (fun _ h9 => h9) rfl (by decide +kernel) rfl rfl (Nat.le_of_ble_eq_true rfl) dX12_put_40 (fun H locs hP hD hS => ?_)
        have hP : va_P (dC, dI) vwCl (wd_c_X12_put h0 h0_f0 h0_1 h0_2 h0_3 h0_4 h0_5 x_153 h0_f7 h0_f8 h0_f9 h0_f10 h0_f11 h0_f12 h0_f13 h0_f14 h0_15 h0_16 h0_f17 h0_18 h0_19 h0_20 h0_21 h0_22 h0_23 h0_24 h0_25 h0_f26 h0_f27 h0_f28 h0_f29 h0_f30 h0_f31 h0_32 h0_33 h0_f34 h0_35 h0_36 h0_37 h0_38 h0_39 h0_40 h0_f41 h0_f42 h0_f43 h0_f44 h0_45 h0_46 h0_47 h0_48 h0_49 h0_50 h0_f51 h0_52 h0_f53 h0_1 h0_1k w_152) H := hP
        have hD : va_D A (wd_c_X12_put h0 h0_f0 h0_1 h0_2 h0_3 h0_4 h0_5 x_153 h0_f7 h0_f8 h0_f9 h0_f10 h0_f11 h0_f12 h0_f13 h0_f14 h0_15 h0_16 h0_f17 h0_18 h0_19 h0_20 h0_21 h0_22 h0_23 h0_24 h0_25 h0_f26 h0_f27 h0_f28 h0_f29 h0_f30 h0_f31 h0_32 h0_33 h0_f34 h0_35 h0_36 h0_37 h0_38 h0_39 h0_40 h0_f41 h0_f42 h0_f43 h0_f44 h0_45 h0_46 h0_47 h0_48 h0_49 h0_50 h0_f51 h0_52 h0_f53 h0_1 h0_1k w_152) := hD
        refine lv_iinc (v := 0) (lv' := [(2, .int 0), (0, .ref h0), (1, .int p1)]) hx hb dX12_put_43 hl (k := 0) rfl (by decide +kernel) (Nat.le_of_ble_eq_true rfl) rfl (fun ls hl => ?_)
        refine lv_goto (tgt := 3) hx hb dX12_put_46 rfl ?_
        refine lv_iload_n hx hb dX12_put_3 rfl (lv_at hl 0 rfl) ?_
        refine lv_if_lt (tgt := 49) hx hb dX12_put_4 rfl (fun c_155 => absurd c_155 (by decide +kernel)) (fun c_155 => ?_)
        as_aux_lemma =>
        refine lv_iload_n hx hb dX12_put_7 rfl (lv_at hl 2 rfl) ?_
        refine lv_iload_n hx hb dX12_put_8 rfl (lv_at hl 0 rfl) ?_
        refine lv_ishr hx hb dX12_put_9 ?_
        refine lv_topi (fun x_156 ex_156 => ?_)
        replace hEX := hEX.trans (exl_eq ex_156)
        refine lv_sipush (v := 255) hx hb dX12_put_10 kc_sipush_255 ?_
        refine lv_iand hx hb dX12_put_13 ?_
        refine lv_topi (fun x_157 ex_157 => ?_)
        replace hEX := hEX.trans (exl_eq ex_157)
        have g_158 : RG x_157 0 255 := RG_andr ex_157 (RG_k 255 255 rfl) (by decide +kernel)
        refine lv_if_ne (tgt := 20) hx hb dX12_put_14 rfl (fun c_159 => ?_) (fun c_159 => ?_)
        · replace hEX := hEX.trans (if_neg c_159)
          have g_160 : RG x_157 1 255 := RG_ne1 g_158 (q := 0) rfl c_159 (by decide +kernel)
          have n_161 : bn p1 0 = 1 := bn_1 (k := 0) ex_156 ex_157 c_159
          have g_162 : RG x_153 2 239 := ⟨(g_154).1, by have := eq_add ex_140 g_136 (q := 1) rfl (by decide +kernel); have := eq_add ex_153 g_149 (q := 1) rfl (by decide +kernel); have := n_128; have := n_135; have := n_148; have := n_161; have := hbn; unfold BN at this; have := bn_nn p1 24; have := bn_nn p1 16; have := bn_nn p1 8; have := bn_nn p1 0; omega⟩
          refine lv_aload_n hx hb dX12_put_20 rfl (lv_at hl 1 rfl) ?_
          as_aux_lemma =>
          refine va_get (D := (dC, dI)) (ci := 12) (v := .ref h0_1) (C := RX12) (T := TX12) (N := 54) hx hb hts iw_c_X12_put_X12 hown hK hP 0 rfl rfl 1 (by decide +kernel) (hts (.fieldLink RX12 9 "BuoyVoteModel" "tape" "[B") (List.mem_of_getElem? (i := 1) rfl)) (fun _ h9 => h9) rfl dX12_put_21 ?_
          refine lv_aload_n hx hb dX12_put_24 rfl (lv_at hl 1 rfl) ?_
          refine va_get (D := (dC, dI)) (ci := 12) (v := .int x_153) (C := RX12) (T := TX12) (N := 54) hx hb hts iw_c_X12_put_X12 hown hK hP 0 rfl rfl 6 (by decide +kernel) (hts (.fieldLink RX12 124 "BuoyVoteModel" "length" "I") (List.mem_of_getElem? (i := 2) rfl)) (fun _ h9 => h9) rfl dX12_put_25 ?_
          refine lv_iload_n hx hb dX12_put_28 rfl (lv_at hl 2 rfl) ?_
          refine lv_iload_n hx hb dX12_put_29 rfl (lv_at hl 0 rfl) ?_
          refine lv_ishr hx hb dX12_put_30 ?_
          refine lv_topi (fun x_163 ex_163 => ?_)
          replace hEX := hEX.trans (exl_eq ex_163)
          refine lv_i2b hx hb dX12_put_31 rfl ?_
          refine lv_topi (fun x_164 ex_164 => ?_)
          replace hEX := hEX.trans (exl_eq ex_164)
          refine va_bast hx hb hK hP hD hS 1 0 rfl rfl (RG_in g_162 (by decide +kernel)) dX12_put_32 (fun H locs hP hD hS => ?_)
          have hP : va_P (dC, dI) vwCl (wd_c_X12_put h0 h0_f0 h0_1 h0_2 h0_3 h0_4 h0_5 x_153 h0_f7 h0_f8 h0_f9 h0_f10 h0_f11 h0_f12 h0_f13 h0_f14 h0_15 h0_16 h0_f17 h0_18 h0_19 h0_20 h0_21 h0_22 h0_23 h0_24 h0_25 h0_f26 h0_f27 h0_f28 h0_f29 h0_f30 h0_f31 h0_32 h0_33 h0_f34 h0_35 h0_36 h0_37 h0_38 h0_39 h0_40 h0_f41 h0_f42 h0_f43 h0_f44 h0_45 h0_46 h0_47 h0_48 h0_49 h0_50 h0_f51 h0_52 h0_f53 h0_1 h0_1k (upd w_152 (x_153 : Int32).toNatClampNeg (vp_nar .byte x_164))) H := hP
          have hD : va_D A (wd_c_X12_put h0 h0_f0 h0_1 h0_2 h0_3 h0_4 h0_5 x_153 h0_f7 h0_f8 h0_f9 h0_f10 h0_f11 h0_f12 h0_f13 h0_f14 h0_15 h0_16 h0_f17 h0_18 h0_19 h0_20 h0_21 h0_22 h0_23 h0_24 h0_25 h0_f26 h0_f27 h0_f28 h0_f29 h0_f30 h0_f31 h0_32 h0_33 h0_f34 h0_35 h0_36 h0_37 h0_38 h0_39 h0_40 h0_f41 h0_f42 h0_f43 h0_f44 h0_45 h0_46 h0_47 h0_48 h0_49 h0_50 h0_f51 h0_52 h0_f53 h0_1 h0_1k (upd w_152 (x_153 : Int32).toNatClampNeg (vp_nar .byte x_164))) := hD
          generalize huw_165 : (upd w_152 (x_153 : Int32).toNatClampNeg (vp_nar .byte x_164)) = w_165 at hP hD
          replace hEX := hEX.trans (exl_eq huw_165.symm)
          have hP : va_P (dC, dI) vwCl (wd_c_X12_put h0 h0_f0 h0_1 h0_2 h0_3 h0_4 h0_5 x_153 h0_f7 h0_f8 h0_f9 h0_f10 h0_f11 h0_f12 h0_f13 h0_f14 h0_15 h0_16 h0_f17 h0_18 h0_19 h0_20 h0_21 h0_22 h0_23 h0_24 h0_25 h0_f26 h0_f27 h0_f28 h0_f29 h0_f30 h0_f31 h0_32 h0_33 h0_f34 h0_35 h0_36 h0_37 h0_38 h0_39 h0_40 h0_f41 h0_f42 h0_f43 h0_f44 h0_45 h0_46 h0_47 h0_48 h0_49 h0_50 h0_f51 h0_52 h0_f53 h0_1 h0_1k w_165) H := hP
          have hD : va_D A (wd_c_X12_put h0 h0_f0 h0_1 h0_2 h0_3 h0_4 h0_5 x_153 h0_f7 h0_f8 h0_f9 h0_f10 h0_f11 h0_f12 h0_f13 h0_f14 h0_15 h0_16 h0_f17 h0_18 h0_19 h0_20 h0_21 h0_22 h0_23 h0_24 h0_25 h0_f26 h0_f27 h0_f28 h0_f29 h0_f30 h0_f31 h0_32 h0_33 h0_f34 h0_35 h0_36 h0_37 h0_38 h0_39 h0_40 h0_f41 h0_f42 h0_f43 h0_f44 h0_45 h0_46 h0_47 h0_48 h0_49 h0_50 h0_f51 h0_52 h0_f53 h0_1 h0_1k w_165) := hD
          refine lv_aload_n hx hb dX12_put_33 rfl (lv_at hl 1 rfl) ?_
          as_aux_lemma =>
          refine lv_dup hx hb dX12_put_34 rfl ?_
          refine va_get (D := (dC, dI)) (ci := 12) (v := .int x_153) (C := RX12) (T := TX12) (N := 54) hx hb hts iw_c_X12_put_X12 hown hK hP 0 rfl rfl 6 (by decide +kernel) (hts (.fieldLink RX12 124 "BuoyVoteModel" "length" "I") (List.mem_of_getElem? (i := 2) rfl)) (fun _ h9 => h9) rfl dX12_put_35 ?_
          refine lv_iconst (v := 1) hx hb dX12_put_38 kc_iconst_1 ?_
          refine lv_iadd hx hb dX12_put_39 ?_
          refine lv_topi (fun x_166 ex_166 => ?_)
          replace hEX := hEX.trans (exl_eq ex_166)
          have g_167 : RG x_166 3 240 := RG_add ex_166 g_162 (RG_k 1 1 rfl) (by decide +kernel)
          refine va_put (D := (dC, dI)) (ci := 12) (v := .int x_166) (ty := .int) (C := RX12) (T := TX12) (N := 54) hx hb hts iw_c_X12_put_X12 tyX12 tyX12_ok nmX12 hown hK hP hD hS 0 rfl rfl 6 (by decide +kernel) (hts (.fieldLink RX12 124 "BuoyVoteModel" "length" "I") (List.mem_of_getElem? (i := 2) rfl)) (fun _ h9 => h9) rfl (by decide +kernel) rfl rfl (Nat.le_of_ble_eq_true rfl) dX12_put_40 (fun H locs hP hD hS => ?_)
          have hP : va_P (dC, dI) vwCl (wd_c_X12_put h0 h0_f0 h0_1 h0_2 h0_3 h0_4 h0_5 x_166 h0_f7 h0_f8 h0_f9 h0_f10 h0_f11 h0_f12 h0_f13 h0_f14 h0_15 h0_16 h0_f17 h0_18 h0_19 h0_20 h0_21 h0_22 h0_23 h0_24 h0_25 h0_f26 h0_f27 h0_f28 h0_f29 h0_f30 h0_f31 h0_32 h0_33 h0_f34 h0_35 h0_36 h0_37 h0_38 h0_39 h0_40 h0_f41 h0_f42 h0_f43 h0_f44 h0_45 h0_46 h0_47 h0_48 h0_49 h0_50 h0_f51 h0_52 h0_f53 h0_1 h0_1k w_165) H := hP
          have hD : va_D A (wd_c_X12_put h0 h0_f0 h0_1 h0_2 h0_3 h0_4 h0_5 x_166 h0_f7 h0_f8 h0_f9 h0_f10 h0_f11 h0_f12 h0_f13 h0_f14 h0_15 h0_16 h0_f17 h0_18 h0_19 h0_20 h0_21 h0_22 h0_23 h0_24 h0_25 h0_f26 h0_f27 h0_f28 h0_f29 h0_f30 h0_f31 h0_32 h0_33 h0_f34 h0_35 h0_36 h0_37 h0_38 h0_39 h0_40 h0_f41 h0_f42 h0_f43 h0_f44 h0_45 h0_46 h0_47 h0_48 h0_49 h0_50 h0_f51 h0_52 h0_f53 h0_1 h0_1k w_165) := hD
          refine lv_iinc (v := (-8)) (lv' := [(2, .int (-8)), (0, .ref h0), (1, .int p1)]) hx hb dX12_put_43 hl (k := 0) rfl (by decide +kernel) (Nat.le_of_ble_eq_true rfl) rfl (fun ls hl => ?_)
          refine lv_goto (tgt := 3) hx hb dX12_put_46 rfl ?_
          refine lv_iload_n hx hb dX12_put_3 rfl (lv_at hl 0 rfl) ?_
          refine lv_if_lt (tgt := 49) hx hb dX12_put_4 rfl (fun c_168 => ?_) (fun c_168 => absurd c_168 (by decide +kernel))
          have hK9 := hK.sub (tys' := []) [] rfl
          exact W.vret hx hb hr (fun t ht hW => ⟨⟨(x_166, w_165), rfl, ⟨(RG_w g_167 (by decide +kernel)), (by have := eq_add ex_140 g_136 (q := 1) rfl (by decide +kernel); have := eq_add ex_153 g_149 (q := 1) rfl (by decide +kernel); have := eq_add ex_166 g_162 (q := 1) rfl (by decide +kernel); have := n_128; have := n_135; have := n_148; have := n_161; show x_166.toInt = h0_f6.toInt + BN p1; unfold BN; omega), (hR.trans hEX).symm⟩, by rw [ht]; exact hP, va_K.moved hW.alike hK9, hD⟩, hS.F ht⟩) hS.2.2 dX12_put_49
        · replace hEX := hEX.trans (if_pos c_159)
          have g_169 : RG x_157 0 0 := RG_eq1 g_158 (RG_k 0 0 rfl) c_159 (by decide +kernel)
          have n_170 : bn p1 0 = 0 := bn_0 (k := 0) ex_156 ex_157 c_159
          refine lv_goto (tgt := 43) hx hb dX12_put_17 rfl ?_
          as_aux_lemma =>
          refine lv_iinc (v := (-8)) (lv' := [(2, .int (-8)), (0, .ref h0), (1, .int p1)]) hx hb dX12_put_43 hl (k := 0) rfl (by decide +kernel) (Nat.le_of_ble_eq_true rfl) rfl (fun ls hl => ?_)
          refine lv_goto (tgt := 3) hx hb dX12_put_46 rfl ?_
          refine lv_iload_n hx hb dX12_put_3 rfl (lv_at hl 0 rfl) ?_
          refine lv_if_lt (tgt := 49) hx hb dX12_put_4 rfl (fun c_171 => ?_) (fun c_171 => absurd c_171 (by decide +kernel))
          have hK9 := hK.sub (tys' := []) [] rfl
          exact W.vret hx hb hr (fun t ht hW => ⟨⟨(x_153, w_152), rfl, ⟨(RG_w g_154 (by decide +kernel)), (by have := eq_add ex_140 g_136 (q := 1) rfl (by decide +kernel); have := eq_add ex_153 g_149 (q := 1) rfl (by decide +kernel); have := n_128; have := n_135; have := n_148; have := n_170; show x_153.toInt = h0_f6.toInt + BN p1; unfold BN; omega), (hR.trans hEX).symm⟩, by rw [ht]; exact hP, va_K.moved hW.alike hK9, hD⟩, hS.F ht⟩) hS.2.2 dX12_put_49
      · replace hEX := hEX.trans (if_pos c_146)
        have g_172 : RG x_144 0 0 := RG_eq1 g_145 (RG_k 0 0 rfl) c_146 (by decide +kernel)
        have n_173 : bn p1 8 = 0 := bn_0 (k := 8) ex_143 ex_144 c_146
        refine lv_goto (tgt := 43) hx hb dX12_put_17 rfl ?_
        refine lv_iinc (v := 0) (lv' := [(2, .int 0), (0, .ref h0), (1, .int p1)]) hx hb dX12_put_43 hl (k := 0) rfl (by decide +kernel) (Nat.le_of_ble_eq_true rfl) rfl (fun ls hl => ?_)
        refine lv_goto (tgt := 3) hx hb dX12_put_46 rfl ?_
        refine lv_iload_n hx hb dX12_put_3 rfl (lv_at hl 0 rfl) ?_
        refine lv_if_lt (tgt := 49) hx hb dX12_put_4 rfl (fun c_174 => absurd c_174 (by decide +kernel)) (fun c_174 => ?_)
        as_aux_lemma =>
        refine lv_iload_n hx hb dX12_put_7 rfl (lv_at hl 2 rfl) ?_
        refine lv_iload_n hx hb dX12_put_8 rfl (lv_at hl 0 rfl) ?_
        refine lv_ishr hx hb dX12_put_9 ?_
        refine lv_topi (fun x_175 ex_175 => ?_)
        replace hEX := hEX.trans (exl_eq ex_175)
        refine lv_sipush (v := 255) hx hb dX12_put_10 kc_sipush_255 ?_
        refine lv_iand hx hb dX12_put_13 ?_
        refine lv_topi (fun x_176 ex_176 => ?_)
        replace hEX := hEX.trans (exl_eq ex_176)
        have g_177 : RG x_176 0 255 := RG_andr ex_176 (RG_k 255 255 rfl) (by decide +kernel)
        refine lv_if_ne (tgt := 20) hx hb dX12_put_14 rfl (fun c_178 => ?_) (fun c_178 => ?_)
        · replace hEX := hEX.trans (if_neg c_178)
          have g_179 : RG x_176 1 255 := RG_ne1 g_177 (q := 0) rfl c_178 (by decide +kernel)
          have n_180 : bn p1 0 = 1 := bn_1 (k := 0) ex_175 ex_176 c_178
          have g_181 : RG x_140 1 239 := ⟨(g_141).1, by have := eq_add ex_140 g_136 (q := 1) rfl (by decide +kernel); have := n_128; have := n_135; have := n_173; have := n_180; have := hbn; unfold BN at this; have := bn_nn p1 24; have := bn_nn p1 16; have := bn_nn p1 8; have := bn_nn p1 0; omega⟩
          refine lv_aload_n hx hb dX12_put_20 rfl (lv_at hl 1 rfl) ?_
          as_aux_lemma =>
          refine va_get (D := (dC, dI)) (ci := 12) (v := .ref h0_1) (C := RX12) (T := TX12) (N := 54) hx hb hts iw_c_X12_put_X12 hown hK hP 0 rfl rfl 1 (by decide +kernel) (hts (.fieldLink RX12 9 "BuoyVoteModel" "tape" "[B") (List.mem_of_getElem? (i := 1) rfl)) (fun _ h9 => h9) rfl dX12_put_21 ?_
          refine lv_aload_n hx hb dX12_put_24 rfl (lv_at hl 1 rfl) ?_
          refine va_get (D := (dC, dI)) (ci := 12) (v := .int x_140) (C := RX12) (T := TX12) (N := 54) hx hb hts iw_c_X12_put_X12 hown hK hP 0 rfl rfl 6 (by decide +kernel) (hts (.fieldLink RX12 124 "BuoyVoteModel" "length" "I") (List.mem_of_getElem? (i := 2) rfl)) (fun _ h9 => h9) rfl dX12_put_25 ?_
          refine lv_iload_n hx hb dX12_put_28 rfl (lv_at hl 2 rfl) ?_
          refine lv_iload_n hx hb dX12_put_29 rfl (lv_at hl 0 rfl) ?_
          refine lv_ishr hx hb dX12_put_30 ?_
          refine lv_topi (fun x_182 ex_182 => ?_)
          replace hEX := hEX.trans (exl_eq ex_182)
          refine lv_i2b hx hb dX12_put_31 rfl ?_
          refine lv_topi (fun x_183 ex_183 => ?_)
          replace hEX := hEX.trans (exl_eq ex_183)
          refine va_bast hx hb hK hP hD hS 1 0 rfl rfl (RG_in g_181 (by decide +kernel)) dX12_put_32 (fun H locs hP hD hS => ?_)
          have hP : va_P (dC, dI) vwCl (wd_c_X12_put h0 h0_f0 h0_1 h0_2 h0_3 h0_4 h0_5 x_140 h0_f7 h0_f8 h0_f9 h0_f10 h0_f11 h0_f12 h0_f13 h0_f14 h0_15 h0_16 h0_f17 h0_18 h0_19 h0_20 h0_21 h0_22 h0_23 h0_24 h0_25 h0_f26 h0_f27 h0_f28 h0_f29 h0_f30 h0_f31 h0_32 h0_33 h0_f34 h0_35 h0_36 h0_37 h0_38 h0_39 h0_40 h0_f41 h0_f42 h0_f43 h0_f44 h0_45 h0_46 h0_47 h0_48 h0_49 h0_50 h0_f51 h0_52 h0_f53 h0_1 h0_1k (upd w_139 (x_140 : Int32).toNatClampNeg (vp_nar .byte x_183))) H := hP
          have hD : va_D A (wd_c_X12_put h0 h0_f0 h0_1 h0_2 h0_3 h0_4 h0_5 x_140 h0_f7 h0_f8 h0_f9 h0_f10 h0_f11 h0_f12 h0_f13 h0_f14 h0_15 h0_16 h0_f17 h0_18 h0_19 h0_20 h0_21 h0_22 h0_23 h0_24 h0_25 h0_f26 h0_f27 h0_f28 h0_f29 h0_f30 h0_f31 h0_32 h0_33 h0_f34 h0_35 h0_36 h0_37 h0_38 h0_39 h0_40 h0_f41 h0_f42 h0_f43 h0_f44 h0_45 h0_46 h0_47 h0_48 h0_49 h0_50 h0_f51 h0_52 h0_f53 h0_1 h0_1k (upd w_139 (x_140 : Int32).toNatClampNeg (vp_nar .byte x_183))) := hD
          generalize huw_184 : (upd w_139 (x_140 : Int32).toNatClampNeg (vp_nar .byte x_183)) = w_184 at hP hD
          replace hEX := hEX.trans (exl_eq huw_184.symm)
          have hP : va_P (dC, dI) vwCl (wd_c_X12_put h0 h0_f0 h0_1 h0_2 h0_3 h0_4 h0_5 x_140 h0_f7 h0_f8 h0_f9 h0_f10 h0_f11 h0_f12 h0_f13 h0_f14 h0_15 h0_16 h0_f17 h0_18 h0_19 h0_20 h0_21 h0_22 h0_23 h0_24 h0_25 h0_f26 h0_f27 h0_f28 h0_f29 h0_f30 h0_f31 h0_32 h0_33 h0_f34 h0_35 h0_36 h0_37 h0_38 h0_39 h0_40 h0_f41 h0_f42 h0_f43 h0_f44 h0_45 h0_46 h0_47 h0_48 h0_49 h0_50 h0_f51 h0_52 h0_f53 h0_1 h0_1k w_184) H := hP
          have hD : va_D A (wd_c_X12_put h0 h0_f0 h0_1 h0_2 h0_3 h0_4 h0_5 x_140 h0_f7 h0_f8 h0_f9 h0_f10 h0_f11 h0_f12 h0_f13 h0_f14 h0_15 h0_16 h0_f17 h0_18 h0_19 h0_20 h0_21 h0_22 h0_23 h0_24 h0_25 h0_f26 h0_f27 h0_f28 h0_f29 h0_f30 h0_f31 h0_32 h0_33 h0_f34 h0_35 h0_36 h0_37 h0_38 h0_39 h0_40 h0_f41 h0_f42 h0_f43 h0_f44 h0_45 h0_46 h0_47 h0_48 h0_49 h0_50 h0_f51 h0_52 h0_f53 h0_1 h0_1k w_184) := hD
          refine lv_aload_n hx hb dX12_put_33 rfl (lv_at hl 1 rfl) ?_
          as_aux_lemma =>
          refine lv_dup hx hb dX12_put_34 rfl ?_
          refine va_get (D := (dC, dI)) (ci := 12) (v := .int x_140) (C := RX12) (T := TX12) (N := 54) hx hb hts iw_c_X12_put_X12 hown hK hP 0 rfl rfl 6 (by decide +kernel) (hts (.fieldLink RX12 124 "BuoyVoteModel" "length" "I") (List.mem_of_getElem? (i := 2) rfl)) (fun _ h9 => h9) rfl dX12_put_35 ?_
          refine lv_iconst (v := 1) hx hb dX12_put_38 kc_iconst_1 ?_
          refine lv_iadd hx hb dX12_put_39 ?_
          refine lv_topi (fun x_185 ex_185 => ?_)
          replace hEX := hEX.trans (exl_eq ex_185)
          have g_186 : RG x_185 2 240 := RG_add ex_185 g_181 (RG_k 1 1 rfl) (by decide +kernel)
          refine va_put (D := (dC, dI)) (ci := 12) (v := .int x_185) (ty := .int) (C := RX12) (T := TX12) (N := 54) hx hb hts iw_c_X12_put_X12 tyX12 tyX12_ok nmX12 hown hK hP hD hS 0 rfl rfl 6 (by decide +kernel) (hts (.fieldLink RX12 124 "BuoyVoteModel" "length" "I") (List.mem_of_getElem? (i := 2) rfl)) (fun _ h9 => h9) rfl (by decide +kernel) rfl rfl (Nat.le_of_ble_eq_true rfl) dX12_put_40 (fun H locs hP hD hS => ?_)
          have hP : va_P (dC, dI) vwCl (wd_c_X12_put h0 h0_f0 h0_1 h0_2 h0_3 h0_4 h0_5 x_185 h0_f7 h0_f8 h0_f9 h0_f10 h0_f11 h0_f12 h0_f13 h0_f14 h0_15 h0_16 h0_f17 h0_18 h0_19 h0_20 h0_21 h0_22 h0_23 h0_24 h0_25 h0_f26 h0_f27 h0_f28 h0_f29 h0_f30 h0_f31 h0_32 h0_33 h0_f34 h0_35 h0_36 h0_37 h0_38 h0_39 h0_40 h0_f41 h0_f42 h0_f43 h0_f44 h0_45 h0_46 h0_47 h0_48 h0_49 h0_50 h0_f51 h0_52 h0_f53 h0_1 h0_1k w_184) H := hP
          have hD : va_D A (wd_c_X12_put h0 h0_f0 h0_1 h0_2 h0_3 h0_4 h0_5 x_185 h0_f7 h0_f8 h0_f9 h0_f10 h0_f11 h0_f12 h0_f13 h0_f14 h0_15 h0_16 h0_f17 h0_18 h0_19 h0_20 h0_21 h0_22 h0_23 h0_24 h0_25 h0_f26 h0_f27 h0_f28 h0_f29 h0_f30 h0_f31 h0_32 h0_33 h0_f34 h0_35 h0_36 h0_37 h0_38 h0_39 h0_40 h0_f41 h0_f42 h0_f43 h0_f44 h0_45 h0_46 h0_47 h0_48 h0_49 h0_50 h0_f51 h0_52 h0_f53 h0_1 h0_1k w_184) := hD
          refine lv_iinc (v := (-8)) (lv' := [(2, .int (-8)), (0, .ref h0), (1, .int p1)]) hx hb dX12_put_43 hl (k := 0) rfl (by decide +kernel) (Nat.le_of_ble_eq_true rfl) rfl (fun ls hl => ?_)
          refine lv_goto (tgt := 3) hx hb dX12_put_46 rfl ?_
          refine lv_iload_n hx hb dX12_put_3 rfl (lv_at hl 0 rfl) ?_
          refine lv_if_lt (tgt := 49) hx hb dX12_put_4 rfl (fun c_187 => ?_) (fun c_187 => absurd c_187 (by decide +kernel))
          have hK9 := hK.sub (tys' := []) [] rfl
          exact W.vret hx hb hr (fun t ht hW => ⟨⟨(x_185, w_184), rfl, ⟨(RG_w g_186 (by decide +kernel)), (by have := eq_add ex_140 g_136 (q := 1) rfl (by decide +kernel); have := eq_add ex_185 g_181 (q := 1) rfl (by decide +kernel); have := n_128; have := n_135; have := n_173; have := n_180; show x_185.toInt = h0_f6.toInt + BN p1; unfold BN; omega), (hR.trans hEX).symm⟩, by rw [ht]; exact hP, va_K.moved hW.alike hK9, hD⟩, hS.F ht⟩) hS.2.2 dX12_put_49
        · replace hEX := hEX.trans (if_pos c_178)
          have g_188 : RG x_176 0 0 := RG_eq1 g_177 (RG_k 0 0 rfl) c_178 (by decide +kernel)
          have n_189 : bn p1 0 = 0 := bn_0 (k := 0) ex_175 ex_176 c_178
          refine lv_goto (tgt := 43) hx hb dX12_put_17 rfl ?_
          as_aux_lemma =>
          refine lv_iinc (v := (-8)) (lv' := [(2, .int (-8)), (0, .ref h0), (1, .int p1)]) hx hb dX12_put_43 hl (k := 0) rfl (by decide +kernel) (Nat.le_of_ble_eq_true rfl) rfl (fun ls hl => ?_)
          refine lv_goto (tgt := 3) hx hb dX12_put_46 rfl ?_
          refine lv_iload_n hx hb dX12_put_3 rfl (lv_at hl 0 rfl) ?_
          refine lv_if_lt (tgt := 49) hx hb dX12_put_4 rfl (fun c_190 => ?_) (fun c_190 => absurd c_190 (by decide +kernel))
          have hK9 := hK.sub (tys' := []) [] rfl
          exact W.vret hx hb hr (fun t ht hW => ⟨⟨(x_140, w_139), rfl, ⟨(RG_w g_141 (by decide +kernel)), (by have := eq_add ex_140 g_136 (q := 1) rfl (by decide +kernel); have := n_128; have := n_135; have := n_173; have := n_189; show x_140.toInt = h0_f6.toInt + BN p1; unfold BN; omega), (hR.trans hEX).symm⟩, by rw [ht]; exact hP, va_K.moved hW.alike hK9, hD⟩, hS.F ht⟩) hS.2.2 dX12_put_49
    · replace hEX := hEX.trans (if_pos c_133)
      have g_191 : RG x_131 0 0 := RG_eq1 g_132 (RG_k 0 0 rfl) c_133 (by decide +kernel)
      have n_192 : bn p1 16 = 0 := bn_0 (k := 16) ex_130 ex_131 c_133
      refine lv_goto (tgt := 43) hx hb dX12_put_17 rfl ?_
      refine lv_iinc (v := 8) (lv' := [(2, .int 8), (0, .ref h0), (1, .int p1)]) hx hb dX12_put_43 hl (k := 0) rfl (by decide +kernel) (Nat.le_of_ble_eq_true rfl) rfl (fun ls hl => ?_)
      refine lv_goto (tgt := 3) hx hb dX12_put_46 rfl ?_
      refine lv_iload_n hx hb dX12_put_3 rfl (lv_at hl 0 rfl) ?_
      refine lv_if_lt (tgt := 49) hx hb dX12_put_4 rfl (fun c_193 => absurd c_193 (by decide +kernel)) (fun c_193 => ?_)
      as_aux_lemma =>
      refine lv_iload_n hx hb dX12_put_7 rfl (lv_at hl 2 rfl) ?_
      refine lv_iload_n hx hb dX12_put_8 rfl (lv_at hl 0 rfl) ?_
      refine lv_ishr hx hb dX12_put_9 ?_
      refine lv_topi (fun x_194 ex_194 => ?_)
      replace hEX := hEX.trans (exl_eq ex_194)
      refine lv_sipush (v := 255) hx hb dX12_put_10 kc_sipush_255 ?_
      refine lv_iand hx hb dX12_put_13 ?_
      refine lv_topi (fun x_195 ex_195 => ?_)
      replace hEX := hEX.trans (exl_eq ex_195)
      have g_196 : RG x_195 0 255 := RG_andr ex_195 (RG_k 255 255 rfl) (by decide +kernel)
      refine lv_if_ne (tgt := 20) hx hb dX12_put_14 rfl (fun c_197 => ?_) (fun c_197 => ?_)
      · replace hEX := hEX.trans (if_neg c_197)
        have g_198 : RG x_195 1 255 := RG_ne1 g_196 (q := 0) rfl c_197 (by decide +kernel)
        have n_199 : bn p1 8 = 1 := bn_1 (k := 8) ex_194 ex_195 c_197
        have g_200 : RG h0_f6 0 239 := ⟨(g_h0_f6).1, by have := n_128; have := n_192; have := n_199; have := hbn; unfold BN at this; have := bn_nn p1 24; have := bn_nn p1 16; have := bn_nn p1 8; have := bn_nn p1 0; omega⟩
        refine lv_aload_n hx hb dX12_put_20 rfl (lv_at hl 1 rfl) ?_
        as_aux_lemma =>
        refine va_get (D := (dC, dI)) (ci := 12) (v := .ref h0_1) (C := RX12) (T := TX12) (N := 54) hx hb hts iw_c_X12_put_X12 hown hK hP 0 rfl rfl 1 (by decide +kernel) (hts (.fieldLink RX12 9 "BuoyVoteModel" "tape" "[B") (List.mem_of_getElem? (i := 1) rfl)) (fun _ h9 => h9) rfl dX12_put_21 ?_
        refine lv_aload_n hx hb dX12_put_24 rfl (lv_at hl 1 rfl) ?_
        refine va_get (D := (dC, dI)) (ci := 12) (v := .int h0_f6) (C := RX12) (T := TX12) (N := 54) hx hb hts iw_c_X12_put_X12 hown hK hP 0 rfl rfl 6 (by decide +kernel) (hts (.fieldLink RX12 124 "BuoyVoteModel" "length" "I") (List.mem_of_getElem? (i := 2) rfl)) (fun _ h9 => h9) rfl dX12_put_25 ?_
        refine lv_iload_n hx hb dX12_put_28 rfl (lv_at hl 2 rfl) ?_
        refine lv_iload_n hx hb dX12_put_29 rfl (lv_at hl 0 rfl) ?_
        refine lv_ishr hx hb dX12_put_30 ?_
        refine lv_topi (fun x_201 ex_201 => ?_)
        replace hEX := hEX.trans (exl_eq ex_201)
        refine lv_i2b hx hb dX12_put_31 rfl ?_
        refine lv_topi (fun x_202 ex_202 => ?_)
        replace hEX := hEX.trans (exl_eq ex_202)
        refine va_bast hx hb hK hP hD hS 1 0 rfl rfl (RG_in g_200 (by decide +kernel)) dX12_put_32 (fun H locs hP hD hS => ?_)
        have hP : va_P (dC, dI) vwCl (wd_c_X12_put h0 h0_f0 h0_1 h0_2 h0_3 h0_4 h0_5 h0_f6 h0_f7 h0_f8 h0_f9 h0_f10 h0_f11 h0_f12 h0_f13 h0_f14 h0_15 h0_16 h0_f17 h0_18 h0_19 h0_20 h0_21 h0_22 h0_23 h0_24 h0_25 h0_f26 h0_f27 h0_f28 h0_f29 h0_f30 h0_f31 h0_32 h0_33 h0_f34 h0_35 h0_36 h0_37 h0_38 h0_39 h0_40 h0_f41 h0_f42 h0_f43 h0_f44 h0_45 h0_46 h0_47 h0_48 h0_49 h0_50 h0_f51 h0_52 h0_f53 h0_1 h0_1k (upd h0_1c (h0_f6 : Int32).toNatClampNeg (vp_nar .byte x_202))) H := hP
        have hD : va_D A (wd_c_X12_put h0 h0_f0 h0_1 h0_2 h0_3 h0_4 h0_5 h0_f6 h0_f7 h0_f8 h0_f9 h0_f10 h0_f11 h0_f12 h0_f13 h0_f14 h0_15 h0_16 h0_f17 h0_18 h0_19 h0_20 h0_21 h0_22 h0_23 h0_24 h0_25 h0_f26 h0_f27 h0_f28 h0_f29 h0_f30 h0_f31 h0_32 h0_33 h0_f34 h0_35 h0_36 h0_37 h0_38 h0_39 h0_40 h0_f41 h0_f42 h0_f43 h0_f44 h0_45 h0_46 h0_47 h0_48 h0_49 h0_50 h0_f51 h0_52 h0_f53 h0_1 h0_1k (upd h0_1c (h0_f6 : Int32).toNatClampNeg (vp_nar .byte x_202))) := hD
        generalize huw_203 : (upd h0_1c (h0_f6 : Int32).toNatClampNeg (vp_nar .byte x_202)) = w_203 at hP hD
        replace hEX := hEX.trans (exl_eq huw_203.symm)
        have hP : va_P (dC, dI) vwCl (wd_c_X12_put h0 h0_f0 h0_1 h0_2 h0_3 h0_4 h0_5 h0_f6 h0_f7 h0_f8 h0_f9 h0_f10 h0_f11 h0_f12 h0_f13 h0_f14 h0_15 h0_16 h0_f17 h0_18 h0_19 h0_20 h0_21 h0_22 h0_23 h0_24 h0_25 h0_f26 h0_f27 h0_f28 h0_f29 h0_f30 h0_f31 h0_32 h0_33 h0_f34 h0_35 h0_36 h0_37 h0_38 h0_39 h0_40 h0_f41 h0_f42 h0_f43 h0_f44 h0_45 h0_46 h0_47 h0_48 h0_49 h0_50 h0_f51 h0_52 h0_f53 h0_1 h0_1k w_203) H := hP
        have hD : va_D A (wd_c_X12_put h0 h0_f0 h0_1 h0_2 h0_3 h0_4 h0_5 h0_f6 h0_f7 h0_f8 h0_f9 h0_f10 h0_f11 h0_f12 h0_f13 h0_f14 h0_15 h0_16 h0_f17 h0_18 h0_19 h0_20 h0_21 h0_22 h0_23 h0_24 h0_25 h0_f26 h0_f27 h0_f28 h0_f29 h0_f30 h0_f31 h0_32 h0_33 h0_f34 h0_35 h0_36 h0_37 h0_38 h0_39 h0_40 h0_f41 h0_f42 h0_f43 h0_f44 h0_45 h0_46 h0_47 h0_48 h0_49 h0_50 h0_f51 h0_52 h0_f53 h0_1 h0_1k w_203) := hD
        refine lv_aload_n hx hb dX12_put_33 rfl (lv_at hl 1 rfl) ?_
        as_aux_lemma =>
        refine lv_dup hx hb dX12_put_34 rfl ?_
        refine va_get (D := (dC, dI)) (ci := 12) (v := .int h0_f6) (C := RX12) (T := TX12) (N := 54) hx hb hts iw_c_X12_put_X12 hown hK hP 0 rfl rfl 6 (by decide +kernel) (hts (.fieldLink RX12 124 "BuoyVoteModel" "length" "I") (List.mem_of_getElem? (i := 2) rfl)) (fun _ h9 => h9) rfl dX12_put_35 ?_
        refine lv_iconst (v := 1) hx hb dX12_put_38 kc_iconst_1 ?_
        refine lv_iadd hx hb dX12_put_39 ?_
        refine lv_topi (fun x_204 ex_204 => ?_)
        replace hEX := hEX.trans (exl_eq ex_204)
        have g_205 : RG x_204 1 240 := RG_add ex_204 g_200 (RG_k 1 1 rfl) (by decide +kernel)
        refine va_put (D := (dC, dI)) (ci := 12) (v := .int x_204) (ty := .int) (C := RX12) (T := TX12) (N := 54) hx hb hts iw_c_X12_put_X12 tyX12 tyX12_ok nmX12 hown hK hP hD hS 0 rfl rfl 6 (by decide +kernel) (hts (.fieldLink RX12 124 "BuoyVoteModel" "length" "I") (List.mem_of_getElem? (i := 2) rfl)) (fun _ h9 => h9) rfl (by decide +kernel) rfl rfl (Nat.le_of_ble_eq_true rfl) dX12_put_40 (fun H locs hP hD hS => ?_)
        have hP : va_P (dC, dI) vwCl (wd_c_X12_put h0 h0_f0 h0_1 h0_2 h0_3 h0_4 h0_5 x_204 h0_f7 h0_f8 h0_f9 h0_f10 h0_f11 h0_f12 h0_f13 h0_f14 h0_15 h0_16 h0_f17 h0_18 h0_19 h0_20 h0_21 h0_22 h0_23 h0_24 h0_25 h0_f26 h0_f27 h0_f28 h0_f29 h0_f30 h0_f31 h0_32 h0_33 h0_f34 h0_35 h0_36 h0_37 h0_38 h0_39 h0_40 h0_f41 h0_f42 h0_f43 h0_f44 h0_45 h0_46 h0_47 h0_48 h0_49 h0_50 h0_f51 h0_52 h0_f53 h0_1 h0_1k w_203) H := hP
        have hD : va_D A (wd_c_X12_put h0 h0_f0 h0_1 h0_2 h0_3 h0_4 h0_5 x_204 h0_f7 h0_f8 h0_f9 h0_f10 h0_f11 h0_f12 h0_f13 h0_f14 h0_15 h0_16 h0_f17 h0_18 h0_19 h0_20 h0_21 h0_22 h0_23 h0_24 h0_25 h0_f26 h0_f27 h0_f28 h0_f29 h0_f30 h0_f31 h0_32 h0_33 h0_f34 h0_35 h0_36 h0_37 h0_38 h0_39 h0_40 h0_f41 h0_f42 h0_f43 h0_f44 h0_45 h0_46 h0_47 h0_48 h0_49 h0_50 h0_f51 h0_52 h0_f53 h0_1 h0_1k w_203) := hD
        refine lv_iinc (v := 0) (lv' := [(2, .int 0), (0, .ref h0), (1, .int p1)]) hx hb dX12_put_43 hl (k := 0) rfl (by decide +kernel) (Nat.le_of_ble_eq_true rfl) rfl (fun ls hl => ?_)
        refine lv_goto (tgt := 3) hx hb dX12_put_46 rfl ?_
        refine lv_iload_n hx hb dX12_put_3 rfl (lv_at hl 0 rfl) ?_
        refine lv_if_lt (tgt := 49) hx hb dX12_put_4 rfl (fun c_206 => absurd c_206 (by decide +kernel)) (fun c_206 => ?_)
        as_aux_lemma =>
        refine lv_iload_n hx hb dX12_put_7 rfl (lv_at hl 2 rfl) ?_
        refine lv_iload_n hx hb dX12_put_8 rfl (lv_at hl 0 rfl) ?_
        refine lv_ishr hx hb dX12_put_9 ?_
        refine lv_topi (fun x_207 ex_207 => ?_)
        replace hEX := hEX.trans (exl_eq ex_207)
        refine lv_sipush (v := 255) hx hb dX12_put_10 kc_sipush_255 ?_
        refine lv_iand hx hb dX12_put_13 ?_
        refine lv_topi (fun x_208 ex_208 => ?_)
        replace hEX := hEX.trans (exl_eq ex_208)
        have g_209 : RG x_208 0 255 := RG_andr ex_208 (RG_k 255 255 rfl) (by decide +kernel)
        refine lv_if_ne (tgt := 20) hx hb dX12_put_14 rfl (fun c_210 => ?_) (fun c_210 => ?_)
        · replace hEX := hEX.trans (if_neg c_210)
          have g_211 : RG x_208 1 255 := RG_ne1 g_209 (q := 0) rfl c_210 (by decide +kernel)
          have n_212 : bn p1 0 = 1 := bn_1 (k := 0) ex_207 ex_208 c_210
          have g_213 : RG x_204 1 239 := ⟨(g_205).1, by have := eq_add ex_204 g_200 (q := 1) rfl (by decide +kernel); have := n_128; have := n_192; have := n_199; have := n_212; have := hbn; unfold BN at this; have := bn_nn p1 24; have := bn_nn p1 16; have := bn_nn p1 8; have := bn_nn p1 0; omega⟩
          refine lv_aload_n hx hb dX12_put_20 rfl (lv_at hl 1 rfl) ?_
          as_aux_lemma =>
          refine va_get (D := (dC, dI)) (ci := 12) (v := .ref h0_1) (C := RX12) (T := TX12) (N := 54) hx hb hts iw_c_X12_put_X12 hown hK hP 0 rfl rfl 1 (by decide +kernel) (hts (.fieldLink RX12 9 "BuoyVoteModel" "tape" "[B") (List.mem_of_getElem? (i := 1) rfl)) (fun _ h9 => h9) rfl dX12_put_21 ?_
          refine lv_aload_n hx hb dX12_put_24 rfl (lv_at hl 1 rfl) ?_
          refine va_get (D := (dC, dI)) (ci := 12) (v := .int x_204) (C := RX12) (T := TX12) (N := 54) hx hb hts iw_c_X12_put_X12 hown hK hP 0 rfl rfl 6 (by decide +kernel) (hts (.fieldLink RX12 124 "BuoyVoteModel" "length" "I") (List.mem_of_getElem? (i := 2) rfl)) (fun _ h9 => h9) rfl dX12_put_25 ?_
          refine lv_iload_n hx hb dX12_put_28 rfl (lv_at hl 2 rfl) ?_
          refine lv_iload_n hx hb dX12_put_29 rfl (lv_at hl 0 rfl) ?_
          refine lv_ishr hx hb dX12_put_30 ?_
          refine lv_topi (fun x_214 ex_214 => ?_)
          replace hEX := hEX.trans (exl_eq ex_214)
          refine lv_i2b hx hb dX12_put_31 rfl ?_
          refine lv_topi (fun x_215 ex_215 => ?_)
          replace hEX := hEX.trans (exl_eq ex_215)
          refine va_bast hx hb hK hP hD hS 1 0 rfl rfl (RG_in g_213 (by decide +kernel)) dX12_put_32 (fun H locs hP hD hS => ?_)
          have hP : va_P (dC, dI) vwCl (wd_c_X12_put h0 h0_f0 h0_1 h0_2 h0_3 h0_4 h0_5 x_204 h0_f7 h0_f8 h0_f9 h0_f10 h0_f11 h0_f12 h0_f13 h0_f14 h0_15 h0_16 h0_f17 h0_18 h0_19 h0_20 h0_21 h0_22 h0_23 h0_24 h0_25 h0_f26 h0_f27 h0_f28 h0_f29 h0_f30 h0_f31 h0_32 h0_33 h0_f34 h0_35 h0_36 h0_37 h0_38 h0_39 h0_40 h0_f41 h0_f42 h0_f43 h0_f44 h0_45 h0_46 h0_47 h0_48 h0_49 h0_50 h0_f51 h0_52 h0_f53 h0_1 h0_1k (upd w_203 (x_204 : Int32).toNatClampNeg (vp_nar .byte x_215))) H := hP
          have hD : va_D A (wd_c_X12_put h0 h0_f0 h0_1 h0_2 h0_3 h0_4 h0_5 x_204 h0_f7 h0_f8 h0_f9 h0_f10 h0_f11 h0_f12 h0_f13 h0_f14 h0_15 h0_16 h0_f17 h0_18 h0_19 h0_20 h0_21 h0_22 h0_23 h0_24 h0_25 h0_f26 h0_f27 h0_f28 h0_f29 h0_f30 h0_f31 h0_32 h0_33 h0_f34 h0_35 h0_36 h0_37 h0_38 h0_39 h0_40 h0_f41 h0_f42 h0_f43 h0_f44 h0_45 h0_46 h0_47 h0_48 h0_49 h0_50 h0_f51 h0_52 h0_f53 h0_1 h0_1k (upd w_203 (x_204 : Int32).toNatClampNeg (vp_nar .byte x_215))) := hD
          generalize huw_216 : (upd w_203 (x_204 : Int32).toNatClampNeg (vp_nar .byte x_215)) = w_216 at hP hD
          replace hEX := hEX.trans (exl_eq huw_216.symm)
          have hP : va_P (dC, dI) vwCl (wd_c_X12_put h0 h0_f0 h0_1 h0_2 h0_3 h0_4 h0_5 x_204 h0_f7 h0_f8 h0_f9 h0_f10 h0_f11 h0_f12 h0_f13 h0_f14 h0_15 h0_16 h0_f17 h0_18 h0_19 h0_20 h0_21 h0_22 h0_23 h0_24 h0_25 h0_f26 h0_f27 h0_f28 h0_f29 h0_f30 h0_f31 h0_32 h0_33 h0_f34 h0_35 h0_36 h0_37 h0_38 h0_39 h0_40 h0_f41 h0_f42 h0_f43 h0_f44 h0_45 h0_46 h0_47 h0_48 h0_49 h0_50 h0_f51 h0_52 h0_f53 h0_1 h0_1k w_216) H := hP
          have hD : va_D A (wd_c_X12_put h0 h0_f0 h0_1 h0_2 h0_3 h0_4 h0_5 x_204 h0_f7 h0_f8 h0_f9 h0_f10 h0_f11 h0_f12 h0_f13 h0_f14 h0_15 h0_16 h0_f17 h0_18 h0_19 h0_20 h0_21 h0_22 h0_23 h0_24 h0_25 h0_f26 h0_f27 h0_f28 h0_f29 h0_f30 h0_f31 h0_32 h0_33 h0_f34 h0_35 h0_36 h0_37 h0_38 h0_39 h0_40 h0_f41 h0_f42 h0_f43 h0_f44 h0_45 h0_46 h0_47 h0_48 h0_49 h0_50 h0_f51 h0_52 h0_f53 h0_1 h0_1k w_216) := hD
          refine lv_aload_n hx hb dX12_put_33 rfl (lv_at hl 1 rfl) ?_
          as_aux_lemma =>
          refine lv_dup hx hb dX12_put_34 rfl ?_
          refine va_get (D := (dC, dI)) (ci := 12) (v := .int x_204) (C := RX12) (T := TX12) (N := 54) hx hb hts iw_c_X12_put_X12 hown hK hP 0 rfl rfl 6 (by decide +kernel) (hts (.fieldLink RX12 124 "BuoyVoteModel" "length" "I") (List.mem_of_getElem? (i := 2) rfl)) (fun _ h9 => h9) rfl dX12_put_35 ?_
          refine lv_iconst (v := 1) hx hb dX12_put_38 kc_iconst_1 ?_
          refine lv_iadd hx hb dX12_put_39 ?_
          refine lv_topi (fun x_217 ex_217 => ?_)
          replace hEX := hEX.trans (exl_eq ex_217)
          have g_218 : RG x_217 2 240 := RG_add ex_217 g_213 (RG_k 1 1 rfl) (by decide +kernel)
          refine va_put (D := (dC, dI)) (ci := 12) (v := .int x_217) (ty := .int) (C := RX12) (T := TX12) (N := 54) hx hb hts iw_c_X12_put_X12 tyX12 tyX12_ok nmX12 hown hK hP hD hS 0 rfl rfl 6 (by decide +kernel) (hts (.fieldLink RX12 124 "BuoyVoteModel" "length" "I") (List.mem_of_getElem? (i := 2) rfl)) (fun _ h9 => h9) rfl (by decide +kernel) rfl rfl (Nat.le_of_ble_eq_true rfl) dX12_put_40 (fun H locs hP hD hS => ?_)
          have hP : va_P (dC, dI) vwCl (wd_c_X12_put h0 h0_f0 h0_1 h0_2 h0_3 h0_4 h0_5 x_217 h0_f7 h0_f8 h0_f9 h0_f10 h0_f11 h0_f12 h0_f13 h0_f14 h0_15 h0_16 h0_f17 h0_18 h0_19 h0_20 h0_21 h0_22 h0_23 h0_24 h0_25 h0_f26 h0_f27 h0_f28 h0_f29 h0_f30 h0_f31 h0_32 h0_33 h0_f34 h0_35 h0_36 h0_37 h0_38 h0_39 h0_40 h0_f41 h0_f42 h0_f43 h0_f44 h0_45 h0_46 h0_47 h0_48 h0_49 h0_50 h0_f51 h0_52 h0_f53 h0_1 h0_1k w_216) H := hP
          have hD : va_D A (wd_c_X12_put h0 h0_f0 h0_1 h0_2 h0_3 h0_4 h0_5 x_217 h0_f7 h0_f8 h0_f9 h0_f10 h0_f11 h0_f12 h0_f13 h0_f14 h0_15 h0_16 h0_f17 h0_18 h0_19 h0_20 h0_21 h0_22 h0_23 h0_24 h0_25 h0_f26 h0_f27 h0_f28 h0_f29 h0_f30 h0_f31 h0_32 h0_33 h0_f34 h0_35 h0_36 h0_37 h0_38 h0_39 h0_40 h0_f41 h0_f42 h0_f43 h0_f44 h0_45 h0_46 h0_47 h0_48 h0_49 h0_50 h0_f51 h0_52 h0_f53 h0_1 h0_1k w_216) := hD
          refine lv_iinc (v := (-8)) (lv' := [(2, .int (-8)), (0, .ref h0), (1, .int p1)]) hx hb dX12_put_43 hl (k := 0) rfl (by decide +kernel) (Nat.le_of_ble_eq_true rfl) rfl (fun ls hl => ?_)
          refine lv_goto (tgt := 3) hx hb dX12_put_46 rfl ?_
          refine lv_iload_n hx hb dX12_put_3 rfl (lv_at hl 0 rfl) ?_
          refine lv_if_lt (tgt := 49) hx hb dX12_put_4 rfl (fun c_219 => ?_) (fun c_219 => absurd c_219 (by decide +kernel))
          have hK9 := hK.sub (tys' := []) [] rfl
          exact W.vret hx hb hr (fun t ht hW => ⟨⟨(x_217, w_216), rfl, ⟨(RG_w g_218 (by decide +kernel)), (by have := eq_add ex_204 g_200 (q := 1) rfl (by decide +kernel); have := eq_add ex_217 g_213 (q := 1) rfl (by decide +kernel); have := n_128; have := n_192; have := n_199; have := n_212; show x_217.toInt = h0_f6.toInt + BN p1; unfold BN; omega), (hR.trans hEX).symm⟩, by rw [ht]; exact hP, va_K.moved hW.alike hK9, hD⟩, hS.F ht⟩) hS.2.2 dX12_put_49
        · replace hEX := hEX.trans (if_pos c_210)
          have g_220 : RG x_208 0 0 := RG_eq1 g_209 (RG_k 0 0 rfl) c_210 (by decide +kernel)
          have n_221 : bn p1 0 = 0 := bn_0 (k := 0) ex_207 ex_208 c_210
          refine lv_goto (tgt := 43) hx hb dX12_put_17 rfl ?_
          as_aux_lemma =>
          refine lv_iinc (v := (-8)) (lv' := [(2, .int (-8)), (0, .ref h0), (1, .int p1)]) hx hb dX12_put_43 hl (k := 0) rfl (by decide +kernel) (Nat.le_of_ble_eq_true rfl) rfl (fun ls hl => ?_)
          refine lv_goto (tgt := 3) hx hb dX12_put_46 rfl ?_
          refine lv_iload_n hx hb dX12_put_3 rfl (lv_at hl 0 rfl) ?_
          refine lv_if_lt (tgt := 49) hx hb dX12_put_4 rfl (fun c_222 => ?_) (fun c_222 => absurd c_222 (by decide +kernel))
          have hK9 := hK.sub (tys' := []) [] rfl
          exact W.vret hx hb hr (fun t ht hW => ⟨⟨(x_204, w_203), rfl, ⟨(RG_w g_205 (by decide +kernel)), (by have := eq_add ex_204 g_200 (q := 1) rfl (by decide +kernel); have := n_128; have := n_192; have := n_199; have := n_221; show x_204.toInt = h0_f6.toInt + BN p1; unfold BN; omega), (hR.trans hEX).symm⟩, by rw [ht]; exact hP, va_K.moved hW.alike hK9, hD⟩, hS.F ht⟩) hS.2.2 dX12_put_49
      · replace hEX := hEX.trans (if_pos c_197)
        have g_223 : RG x_195 0 0 := RG_eq1 g_196 (RG_k 0 0 rfl) c_197 (by decide +kernel)
        have n_224 : bn p1 8 = 0 := bn_0 (k := 8) ex_194 ex_195 c_197
        refine lv_goto (tgt := 43) hx hb dX12_put_17 rfl ?_
        refine lv_iinc (v := 0) (lv' := [(2, .int 0), (0, .ref h0), (1, .int p1)]) hx hb dX12_put_43 hl (k := 0) rfl (by decide +kernel) (Nat.le_of_ble_eq_true rfl) rfl (fun ls hl => ?_)
        refine lv_goto (tgt := 3) hx hb dX12_put_46 rfl ?_
        refine lv_iload_n hx hb dX12_put_3 rfl (lv_at hl 0 rfl) ?_
        refine lv_if_lt (tgt := 49) hx hb dX12_put_4 rfl (fun c_225 => absurd c_225 (by decide +kernel)) (fun c_225 => ?_)
        as_aux_lemma =>
        refine lv_iload_n hx hb dX12_put_7 rfl (lv_at hl 2 rfl) ?_
        refine lv_iload_n hx hb dX12_put_8 rfl (lv_at hl 0 rfl) ?_
        refine lv_ishr hx hb dX12_put_9 ?_
        refine lv_topi (fun x_226 ex_226 => ?_)
        replace hEX := hEX.trans (exl_eq ex_226)
        refine lv_sipush (v := 255) hx hb dX12_put_10 kc_sipush_255 ?_
        refine lv_iand hx hb dX12_put_13 ?_
        refine lv_topi (fun x_227 ex_227 => ?_)
        replace hEX := hEX.trans (exl_eq ex_227)
        have g_228 : RG x_227 0 255 := RG_andr ex_227 (RG_k 255 255 rfl) (by decide +kernel)
        refine lv_if_ne (tgt := 20) hx hb dX12_put_14 rfl (fun c_229 => ?_) (fun c_229 => ?_)
        · replace hEX := hEX.trans (if_neg c_229)
          have g_230 : RG x_227 1 255 := RG_ne1 g_228 (q := 0) rfl c_229 (by decide +kernel)
          have n_231 : bn p1 0 = 1 := bn_1 (k := 0) ex_226 ex_227 c_229
          have g_232 : RG h0_f6 0 239 := ⟨(g_h0_f6).1, by have := n_128; have := n_192; have := n_224; have := n_231; have := hbn; unfold BN at this; have := bn_nn p1 24; have := bn_nn p1 16; have := bn_nn p1 8; have := bn_nn p1 0; omega⟩
          refine lv_aload_n hx hb dX12_put_20 rfl (lv_at hl 1 rfl) ?_
          as_aux_lemma =>
          refine va_get (D := (dC, dI)) (ci := 12) (v := .ref h0_1) (C := RX12) (T := TX12) (N := 54) hx hb hts iw_c_X12_put_X12 hown hK hP 0 rfl rfl 1 (by decide +kernel) (hts (.fieldLink RX12 9 "BuoyVoteModel" "tape" "[B") (List.mem_of_getElem? (i := 1) rfl)) (fun _ h9 => h9) rfl dX12_put_21 ?_
          refine lv_aload_n hx hb dX12_put_24 rfl (lv_at hl 1 rfl) ?_
          refine va_get (D := (dC, dI)) (ci := 12) (v := .int h0_f6) (C := RX12) (T := TX12) (N := 54) hx hb hts iw_c_X12_put_X12 hown hK hP 0 rfl rfl 6 (by decide +kernel) (hts (.fieldLink RX12 124 "BuoyVoteModel" "length" "I") (List.mem_of_getElem? (i := 2) rfl)) (fun _ h9 => h9) rfl dX12_put_25 ?_
          refine lv_iload_n hx hb dX12_put_28 rfl (lv_at hl 2 rfl) ?_
          refine lv_iload_n hx hb dX12_put_29 rfl (lv_at hl 0 rfl) ?_
          refine lv_ishr hx hb dX12_put_30 ?_
          refine lv_topi (fun x_233 ex_233 => ?_)
          replace hEX := hEX.trans (exl_eq ex_233)
          refine lv_i2b hx hb dX12_put_31 rfl ?_
          refine lv_topi (fun x_234 ex_234 => ?_)
          replace hEX := hEX.trans (exl_eq ex_234)
          refine va_bast hx hb hK hP hD hS 1 0 rfl rfl (RG_in g_232 (by decide +kernel)) dX12_put_32 (fun H locs hP hD hS => ?_)
          have hP : va_P (dC, dI) vwCl (wd_c_X12_put h0 h0_f0 h0_1 h0_2 h0_3 h0_4 h0_5 h0_f6 h0_f7 h0_f8 h0_f9 h0_f10 h0_f11 h0_f12 h0_f13 h0_f14 h0_15 h0_16 h0_f17 h0_18 h0_19 h0_20 h0_21 h0_22 h0_23 h0_24 h0_25 h0_f26 h0_f27 h0_f28 h0_f29 h0_f30 h0_f31 h0_32 h0_33 h0_f34 h0_35 h0_36 h0_37 h0_38 h0_39 h0_40 h0_f41 h0_f42 h0_f43 h0_f44 h0_45 h0_46 h0_47 h0_48 h0_49 h0_50 h0_f51 h0_52 h0_f53 h0_1 h0_1k (upd h0_1c (h0_f6 : Int32).toNatClampNeg (vp_nar .byte x_234))) H := hP
          have hD : va_D A (wd_c_X12_put h0 h0_f0 h0_1 h0_2 h0_3 h0_4 h0_5 h0_f6 h0_f7 h0_f8 h0_f9 h0_f10 h0_f11 h0_f12 h0_f13 h0_f14 h0_15 h0_16 h0_f17 h0_18 h0_19 h0_20 h0_21 h0_22 h0_23 h0_24 h0_25 h0_f26 h0_f27 h0_f28 h0_f29 h0_f30 h0_f31 h0_32 h0_33 h0_f34 h0_35 h0_36 h0_37 h0_38 h0_39 h0_40 h0_f41 h0_f42 h0_f43 h0_f44 h0_45 h0_46 h0_47 h0_48 h0_49 h0_50 h0_f51 h0_52 h0_f53 h0_1 h0_1k (upd h0_1c (h0_f6 : Int32).toNatClampNeg (vp_nar .byte x_234))) := hD
          generalize huw_235 : (upd h0_1c (h0_f6 : Int32).toNatClampNeg (vp_nar .byte x_234)) = w_235 at hP hD
          replace hEX := hEX.trans (exl_eq huw_235.symm)
          have hP : va_P (dC, dI) vwCl (wd_c_X12_put h0 h0_f0 h0_1 h0_2 h0_3 h0_4 h0_5 h0_f6 h0_f7 h0_f8 h0_f9 h0_f10 h0_f11 h0_f12 h0_f13 h0_f14 h0_15 h0_16 h0_f17 h0_18 h0_19 h0_20 h0_21 h0_22 h0_23 h0_24 h0_25 h0_f26 h0_f27 h0_f28 h0_f29 h0_f30 h0_f31 h0_32 h0_33 h0_f34 h0_35 h0_36 h0_37 h0_38 h0_39 h0_40 h0_f41 h0_f42 h0_f43 h0_f44 h0_45 h0_46 h0_47 h0_48 h0_49 h0_50 h0_f51 h0_52 h0_f53 h0_1 h0_1k w_235) H := hP
          have hD : va_D A (wd_c_X12_put h0 h0_f0 h0_1 h0_2 h0_3 h0_4 h0_5 h0_f6 h0_f7 h0_f8 h0_f9 h0_f10 h0_f11 h0_f12 h0_f13 h0_f14 h0_15 h0_16 h0_f17 h0_18 h0_19 h0_20 h0_21 h0_22 h0_23 h0_24 h0_25 h0_f26 h0_f27 h0_f28 h0_f29 h0_f30 h0_f31 h0_32 h0_33 h0_f34 h0_35 h0_36 h0_37 h0_38 h0_39 h0_40 h0_f41 h0_f42 h0_f43 h0_f44 h0_45 h0_46 h0_47 h0_48 h0_49 h0_50 h0_f51 h0_52 h0_f53 h0_1 h0_1k w_235) := hD
          refine lv_aload_n hx hb dX12_put_33 rfl (lv_at hl 1 rfl) ?_
          as_aux_lemma =>
          refine lv_dup hx hb dX12_put_34 rfl ?_
          refine va_get (D := (dC, dI)) (ci := 12) (v := .int h0_f6) (C := RX12) (T := TX12) (N := 54) hx hb hts iw_c_X12_put_X12 hown hK hP 0 rfl rfl 6 (by decide +kernel) (hts (.fieldLink RX12 124 "BuoyVoteModel" "length" "I") (List.mem_of_getElem? (i := 2) rfl)) (fun _ h9 => h9) rfl dX12_put_35 ?_
          refine lv_iconst (v := 1) hx hb dX12_put_38 kc_iconst_1 ?_
          refine lv_iadd hx hb dX12_put_39 ?_
          refine lv_topi (fun x_236 ex_236 => ?_)
          replace hEX := hEX.trans (exl_eq ex_236)
          have g_237 : RG x_236 1 240 := RG_add ex_236 g_232 (RG_k 1 1 rfl) (by decide +kernel)
          refine va_put (D := (dC, dI)) (ci := 12) (v := .int x_236) (ty := .int) (C := RX12) (T := TX12) (N := 54) hx hb hts iw_c_X12_put_X12 tyX12 tyX12_ok nmX12 hown hK hP hD hS 0 rfl rfl 6 (by decide +kernel) (hts (.fieldLink RX12 124 "BuoyVoteModel" "length" "I") (List.mem_of_getElem? (i := 2) rfl)) (fun _ h9 => h9) rfl (by decide +kernel) rfl rfl (Nat.le_of_ble_eq_true rfl) dX12_put_40 (fun H locs hP hD hS => ?_)
          have hP : va_P (dC, dI) vwCl (wd_c_X12_put h0 h0_f0 h0_1 h0_2 h0_3 h0_4 h0_5 x_236 h0_f7 h0_f8 h0_f9 h0_f10 h0_f11 h0_f12 h0_f13 h0_f14 h0_15 h0_16 h0_f17 h0_18 h0_19 h0_20 h0_21 h0_22 h0_23 h0_24 h0_25 h0_f26 h0_f27 h0_f28 h0_f29 h0_f30 h0_f31 h0_32 h0_33 h0_f34 h0_35 h0_36 h0_37 h0_38 h0_39 h0_40 h0_f41 h0_f42 h0_f43 h0_f44 h0_45 h0_46 h0_47 h0_48 h0_49 h0_50 h0_f51 h0_52 h0_f53 h0_1 h0_1k w_235) H := hP
          have hD : va_D A (wd_c_X12_put h0 h0_f0 h0_1 h0_2 h0_3 h0_4 h0_5 x_236 h0_f7 h0_f8 h0_f9 h0_f10 h0_f11 h0_f12 h0_f13 h0_f14 h0_15 h0_16 h0_f17 h0_18 h0_19 h0_20 h0_21 h0_22 h0_23 h0_24 h0_25 h0_f26 h0_f27 h0_f28 h0_f29 h0_f30 h0_f31 h0_32 h0_33 h0_f34 h0_35 h0_36 h0_37 h0_38 h0_39 h0_40 h0_f41 h0_f42 h0_f43 h0_f44 h0_45 h0_46 h0_47 h0_48 h0_49 h0_50 h0_f51 h0_52 h0_f53 h0_1 h0_1k w_235) := hD
          refine lv_iinc (v := (-8)) (lv' := [(2, .int (-8)), (0, .ref h0), (1, .int p1)]) hx hb dX12_put_43 hl (k := 0) rfl (by decide +kernel) (Nat.le_of_ble_eq_true rfl) rfl (fun ls hl => ?_)
          refine lv_goto (tgt := 3) hx hb dX12_put_46 rfl ?_
          refine lv_iload_n hx hb dX12_put_3 rfl (lv_at hl 0 rfl) ?_
          refine lv_if_lt (tgt := 49) hx hb dX12_put_4 rfl (fun c_238 => ?_) (fun c_238 => absurd c_238 (by decide +kernel))
          have hK9 := hK.sub (tys' := []) [] rfl
          exact W.vret hx hb hr (fun t ht hW => ⟨⟨(x_236, w_235), rfl, ⟨(RG_w g_237 (by decide +kernel)), (by have := eq_add ex_236 g_232 (q := 1) rfl (by decide +kernel); have := n_128; have := n_192; have := n_224; have := n_231; show x_236.toInt = h0_f6.toInt + BN p1; unfold BN; omega), (hR.trans hEX).symm⟩, by rw [ht]; exact hP, va_K.moved hW.alike hK9, hD⟩, hS.F ht⟩) hS.2.2 dX12_put_49
        · replace hEX := hEX.trans (if_pos c_229)
          have g_239 : RG x_227 0 0 := RG_eq1 g_228 (RG_k 0 0 rfl) c_229 (by decide +kernel)
          have n_240 : bn p1 0 = 0 := bn_0 (k := 0) ex_226 ex_227 c_229
          refine lv_goto (tgt := 43) hx hb dX12_put_17 rfl ?_
          as_aux_lemma =>
          refine lv_iinc (v := (-8)) (lv' := [(2, .int (-8)), (0, .ref h0), (1, .int p1)]) hx hb dX12_put_43 hl (k := 0) rfl (by decide +kernel) (Nat.le_of_ble_eq_true rfl) rfl (fun ls hl => ?_)
          refine lv_goto (tgt := 3) hx hb dX12_put_46 rfl ?_
          refine lv_iload_n hx hb dX12_put_3 rfl (lv_at hl 0 rfl) ?_
          refine lv_if_lt (tgt := 49) hx hb dX12_put_4 rfl (fun c_241 => ?_) (fun c_241 => absurd c_241 (by decide +kernel))
          have hK9 := hK.sub (tys' := []) [] rfl
          exact W.vret hx hb hr (fun t ht hW => ⟨⟨(h0_f6, h0_1c), rfl, ⟨g_h0_f6, (by have := n_128; have := n_192; have := n_224; have := n_240; show h0_f6.toInt = h0_f6.toInt + BN p1; unfold BN; omega), (hR.trans hEX).symm⟩, by rw [ht]; exact hP, va_K.moved hW.alike hK9, hD⟩, hS.F ht⟩) hS.2.2 dX12_put_49
noncomputable def wd_c_X12_feed (a0 : Nat) (a1 : Int32) (a2 : Nat) (a3 : Nat) (a4 : Nat) (a5 : Nat) (a6 : Nat) (a7 : Int32) (a8 : Int32) (a9 : Int32) (a10 : Int32) (a11 : Int32) (a12 : Int32) (a13 : Int32) (a14 : Int32) (a15 : Int32) (a16 : Nat) (a17 : Nat) (a18 : Int32) (a19 : Nat) (a20 : Nat) (a21 : Nat) (a22 : Nat) (a23 : Nat) (a24 : Nat) (a25 : Nat) (a26 : Nat) (a27 : Int32) (a28 : Int32) (a29 : Int32) (a30 : Int32) (a31 : Int32) (a32 : Int32) (a33 : Nat) (a34 : Nat) (a35 : Int32) (a36 : Nat) (a37 : Nat) (a38 : Nat) (a39 : Nat) (a40 : Nat) (a41 : Nat) (a42 : Int32) (a43 : Int64) (a44 : Int32) (a45 : Int32) (a46 : Nat) (a47 : Nat) (a48 : Nat) (a49 : Nat) (a50 : Nat) (a51 : Nat) (a52 : Int32) (a53 : Nat) (a54 : Int32) (a55 : Nat) (a56 : ClassId) (a57 : Nat → Int32) : va_W := [(a0, .inr (12, [.int a1, .ref a2, .ref a3, .ref a4, .ref a5, .ref a6, .int a7, .int a8, .int a9, .int a10, .int a11, .int a12, .int a13, .int a14, .int a15, .ref a16, .ref a17, .int a18, .ref a19, .ref a20, .ref a21, .ref a22, .ref a23, .ref a24, .ref a25, .ref a26, .int a27, .int a28, .int a29, .int a30, .int a31, .int a32, .ref a33, .ref a34, .int a35, .ref a36, .ref a37, .ref a38, .ref a39, .ref a40, .ref a41, .int a42, .long a43, .int a44, .int a45, .ref a46, .ref a47, .ref a48, .ref a49, .ref a50, .ref a51, .int a52, .ref a53, .int a54])), (a55, .inl (a56, 240, .inl a57))]
noncomputable def wf_c_X12_feed : List Cond := List.cons (.code yX12_feed cX12_feed 6 (some .int)) (@HAppend.hAppend (List Cond) (List Cond) (List Cond) _ [.fieldLink RX12 111 "BuoyVoteModel" "thrown" "I", .fieldLink RX12 124 "BuoyVoteModel" "length" "I", .methodLink RX12 126 yX12_bytesIn, .static yX12_bytesIn, .initialized RX12, .code yX12_bytesIn cX12_bytesIn 3 (some .int), .methodLink RX12 130 yX12_put, .instanceMethod yX12_put, .selects RX12 yX12_put yX12_put, .code yX12_put cX12_put 3 none, .fieldLink RX12 9 "BuoyVoteModel" "tape" "[B"] wsX120)
theorem iw_c_X12_feed_X12 : ∀ w ∈ wsX120, w ∈ wf_c_X12_feed := fun w h => List.mem_cons_of_mem _ (List.mem_append_right _ h)
set_option maxRecDepth 20000 in
theorem gf_c_X12_feed_c_X12_bytesIn : GoodIn wf_c_X12_feed (va_wsS RX12 126 yX12_bytesIn wf_c_X12_bytesIn) := goodIn_app (gi_l [3, 4, 5] rfl rfl) (gi_cons (j := 6) rfl rfl gi_nil)
set_option maxRecDepth 20000 in
theorem gf_c_X12_feed_c_X12_put : GoodIn wf_c_X12_feed (wsV RX12 130 RX12 yX12_put wf_c_X12_put) := goodIn_app (gi_l [7, 8, 9, 5] rfl rfl) (gi_cons (j := 10) rfl rfl (goodIn_app (gi_l [11, 2] rfl rfl) (goodIn_sub iw_c_X12_feed_X12 gw_X12)))
set_option maxHeartbeats 4000000 in
set_option maxRecDepth 100000 in
theorem c_X12_feed (l : Launch) (dC : Nat → ClassId) (dI : Nat → Nat → Nat) (sz : Nat) (h0 : Nat) (p1 : Int32) (p2 : Int32) (p3 : Int32) (p4 : Int32) (p5 : Int32) (h0_f0 : Int32) (h0_1 : Nat) (h0_2 : Nat) (h0_3 : Nat) (h0_4 : Nat) (h0_5 : Nat) (h0_f6 : Int32) (h0_f7 : Int32) (h0_f8 : Int32) (h0_f9 : Int32) (h0_f10 : Int32) (h0_f11 : Int32) (h0_f12 : Int32) (h0_f13 : Int32) (h0_f14 : Int32) (h0_15 : Nat) (h0_16 : Nat) (h0_f17 : Int32) (h0_18 : Nat) (h0_19 : Nat) (h0_20 : Nat) (h0_21 : Nat) (h0_22 : Nat) (h0_23 : Nat) (h0_24 : Nat) (h0_25 : Nat) (h0_f26 : Int32) (h0_f27 : Int32) (h0_f28 : Int32) (h0_f29 : Int32) (h0_f30 : Int32) (h0_f31 : Int32) (h0_32 : Nat) (h0_33 : Nat) (h0_f34 : Int32) (h0_35 : Nat) (h0_36 : Nat) (h0_37 : Nat) (h0_38 : Nat) (h0_39 : Nat) (h0_40 : Nat) (h0_f41 : Int32) (h0_f42 : Int64) (h0_f43 : Int32) (h0_f44 : Int32) (h0_45 : Nat) (h0_46 : Nat) (h0_47 : Nat) (h0_48 : Nat) (h0_49 : Nat) (h0_50 : Nat) (h0_f51 : Int32) (h0_52 : Nat) (h0_f53 : Int32) (h0_1k : ClassId) (h0_1c : Nat → Int32) (g_h0_f6 : RG h0_f6 0 240) (g_h0_f7 : RG h0_f7 0 4) (g_h0_f8 : RG h0_f8 0 720) (g_h0_f9 : RG h0_f9 0 240) (g_h0_f10 : RG h0_f10 0 240) (g_h0_f11 : RG h0_f11 (-1) 240) (g_h0_f17 : RG h0_f17 0 1) (g_h0_f26 : RG h0_f26 0 8) (g_h0_f27 : RG h0_f27 0 3) (g_h0_f28 : RG h0_f28 0 8) (g_h0_f29 : RG h0_f29 0 3) (g_h0_f30 : RG h0_f30 0 4) (g_h0_f31 : RG h0_f31 0 1) (g_h0_f34 : RG h0_f34 (-1) 3) (g_h0_f41 : RG h0_f41 0 40) (g_h0_f51 : RG h0_f51 0 10) (g_h0_f53 : RG h0_f53 0 1) : Met l yX12_feed wf_c_X12_feed ({ frames := 1, cells := 0, slots := 0, locals := 22 }) (va_Pc [.ref h0, .int p1, .int p2, .int p3, .int p4, .int p5] (fun U => U.heap.size = sz ∧ va_P (dC, dI) vwCl (wd_c_X12_feed h0 h0_f0 h0_1 h0_2 h0_3 h0_4 h0_5 h0_f6 h0_f7 h0_f8 h0_f9 h0_f10 h0_f11 h0_f12 h0_f13 h0_f14 h0_15 h0_16 h0_f17 h0_18 h0_19 h0_20 h0_21 h0_22 h0_23 h0_24 h0_25 h0_f26 h0_f27 h0_f28 h0_f29 h0_f30 h0_f31 h0_32 h0_33 h0_f34 h0_35 h0_36 h0_37 h0_38 h0_39 h0_40 h0_f41 h0_f42 h0_f43 h0_f44 h0_45 h0_46 h0_47 h0_48 h0_49 h0_50 h0_f51 h0_52 h0_f53 h0_1 h0_1k h0_1c) U.heap ∧ va_K (dC, dI) vwCl [(h0_1k, .byte)] U ∧ va_D (fun _ => True) (wd_c_X12_feed h0 h0_f0 h0_1 h0_2 h0_3 h0_4 h0_5 h0_f6 h0_f7 h0_f8 h0_f9 h0_f10 h0_f11 h0_f12 h0_f13 h0_f14 h0_15 h0_16 h0_f17 h0_18 h0_19 h0_20 h0_21 h0_22 h0_23 h0_24 h0_25 h0_f26 h0_f27 h0_f28 h0_f29 h0_f30 h0_f31 h0_32 h0_33 h0_f34 h0_35 h0_36 h0_37 h0_38 h0_39 h0_40 h0_f41 h0_f42 h0_f43 h0_f44 h0_45 h0_46 h0_47 h0_48 h0_49 h0_50 h0_f51 h0_52 h0_f53 h0_1 h0_1k h0_1c))) (va_Qi (fun (r : Int32) (u : (Int32) × (Nat → Int32)) => (r = (-1) ∧ RG u.1 0 240 ∧ (r, u.1, u.2) = fx_c_X12_feed p1 p2 p3 p4 p5 h0_f6 h0_1c) ∨ (RG r 0 240 ∧ RG u.1 0 240 ∧ (r, u.1, u.2) = fx_c_X12_feed p1 p2 p3 p4 p5 h0_f6 h0_1c)) (fun (u : (Int32) × (Nat → Int32)) t => va_P (dC, dI) vwCl (wd_c_X12_feed h0 0 h0_1 h0_2 h0_3 h0_4 h0_5 (u.1) h0_f7 h0_f8 h0_f9 h0_f10 h0_f11 h0_f12 h0_f13 h0_f14 h0_15 h0_16 h0_f17 h0_18 h0_19 h0_20 h0_21 h0_22 h0_23 h0_24 h0_25 h0_f26 h0_f27 h0_f28 h0_f29 h0_f30 h0_f31 h0_32 h0_33 h0_f34 h0_35 h0_36 h0_37 h0_38 h0_39 h0_40 h0_f41 h0_f42 h0_f43 h0_f44 h0_45 h0_46 h0_47 h0_48 h0_49 h0_50 h0_f51 h0_52 h0_f53 h0_1 h0_1k (u.2)) t.heap ∧ va_K (dC, dI) vwCl [] t ∧ va_D (va_A (wd_c_X12_feed h0 h0_f0 h0_1 h0_2 h0_3 h0_4 h0_5 h0_f6 h0_f7 h0_f8 h0_f9 h0_f10 h0_f11 h0_f12 h0_f13 h0_f14 h0_15 h0_16 h0_f17 h0_18 h0_19 h0_20 h0_21 h0_22 h0_23 h0_24 h0_25 h0_f26 h0_f27 h0_f28 h0_f29 h0_f30 h0_f31 h0_32 h0_33 h0_f34 h0_35 h0_36 h0_37 h0_38 h0_39 h0_40 h0_f41 h0_f42 h0_f43 h0_f44 h0_45 h0_46 h0_47 h0_48 h0_49 h0_50 h0_f51 h0_52 h0_f53 h0_1 h0_1k h0_1c) sz) (wd_c_X12_feed h0 0 h0_1 h0_2 h0_3 h0_4 h0_5 (u.1) h0_f7 h0_f8 h0_f9 h0_f10 h0_f11 h0_f12 h0_f13 h0_f14 h0_15 h0_16 h0_f17 h0_18 h0_19 h0_20 h0_21 h0_22 h0_23 h0_24 h0_25 h0_f26 h0_f27 h0_f28 h0_f29 h0_f30 h0_f31 h0_32 h0_33 h0_f34 h0_35 h0_36 h0_37 h0_38 h0_39 h0_40 h0_f41 h0_f42 h0_f43 h0_f44 h0_45 h0_46 h0_47 h0_48 h0_49 h0_50 h0_f51 h0_52 h0_f53 h0_1 h0_1k (u.2))) (va_A (wd_c_X12_feed h0 h0_f0 h0_1 h0_2 h0_3 h0_4 h0_5 h0_f6 h0_f7 h0_f8 h0_f9 h0_f10 h0_f11 h0_f12 h0_f13 h0_f14 h0_15 h0_16 h0_f17 h0_18 h0_19 h0_20 h0_21 h0_22 h0_23 h0_24 h0_25 h0_f26 h0_f27 h0_f28 h0_f29 h0_f30 h0_f31 h0_32 h0_33 h0_f34 h0_35 h0_36 h0_37 h0_38 h0_39 h0_40 h0_f41 h0_f42 h0_f43 h0_f44 h0_45 h0_46 h0_47 h0_48 h0_49 h0_50 h0_f51 h0_52 h0_f53 h0_1 h0_1k h0_1c) sz)) 0 0 (va_A (wd_c_X12_feed h0 h0_f0 h0_1 h0_2 h0_3 h0_4 h0_5 h0_f6 h0_f7 h0_f8 h0_f9 h0_f10 h0_f11 h0_f12 h0_f13 h0_f14 h0_15 h0_16 h0_f17 h0_18 h0_19 h0_20 h0_21 h0_22 h0_23 h0_24 h0_25 h0_f26 h0_f27 h0_f28 h0_f29 h0_f30 h0_f31 h0_32 h0_33 h0_f34 h0_35 h0_36 h0_37 h0_38 h0_39 h0_40 h0_f41 h0_f42 h0_f43 h0_f44 h0_45 h0_46 h0_47 h0_48 h0_49 h0_50 h0_f51 h0_52 h0_f53 h0_1 h0_1k h0_1c) sz) := by
  refine Met.ofW (cc := cX12_feed) (maxL := 6) (ret := (some .int)) (by decide +kernel) rfl ?_
  intro p e s m args below meth c s₁ B hml hv
  obtain ⟨rfl, hsz, hP, hK, hD0⟩ := hv
  have hx := B.exec
  have hb := B.bytes
  have hr := B.returns
  have hts := atoms_spec (ws := wf_c_X12_feed) B.pre
  have hown : s.vm.findClass RX12 = some m.cls := findClass_of_methodNamed B.named
  have hlocks := B.notSynchronized
  subst hsz
  have hD := hD0.self (sz := s.heap.size)
  generalize hAe : va_A (wd_c_X12_feed h0 h0_f0 h0_1 h0_2 h0_3 h0_4 h0_5 h0_f6 h0_f7 h0_f8 h0_f9 h0_f10 h0_f11 h0_f12 h0_f13 h0_f14 h0_15 h0_16 h0_f17 h0_18 h0_19 h0_20 h0_21 h0_22 h0_23 h0_24 h0_25 h0_f26 h0_f27 h0_f28 h0_f29 h0_f30 h0_f31 h0_32 h0_33 h0_f34 h0_35 h0_36 h0_37 h0_38 h0_39 h0_40 h0_f41 h0_f42 h0_f43 h0_f44 h0_45 h0_46 h0_47 h0_48 h0_49 h0_50 h0_f51 h0_52 h0_f53 h0_1 h0_1k h0_1c) s.heap.size = A at hD ⊢
  have hA : ∀ q : Nat, s.heap.size ≤ q → A q := fun q h => by rw [← hAe]; exact Or.inr h
  have hP : va_P (dC, dI) vwCl (wd_c_X12_feed h0 h0_f0 h0_1 h0_2 h0_3 h0_4 h0_5 h0_f6 h0_f7 h0_f8 h0_f9 h0_f10 h0_f11 h0_f12 h0_f13 h0_f14 h0_15 h0_16 h0_f17 h0_18 h0_19 h0_20 h0_21 h0_22 h0_23 h0_24 h0_25 h0_f26 h0_f27 h0_f28 h0_f29 h0_f30 h0_f31 h0_32 h0_33 h0_f34 h0_35 h0_36 h0_37 h0_38 h0_39 h0_40 h0_f41 h0_f42 h0_f43 h0_f44 h0_45 h0_46 h0_47 h0_48 h0_49 h0_50 h0_f51 h0_52 h0_f53 h0_1 h0_1k h0_1c) s.heap := hP
  have hl := lv_entry ([.ref h0, .int p1, .int p2, .int p3, .int p4, .int p5]) (n := 6) (Nat.le_of_ble_eq_true rfl)
  rw [lg_entry_eq]
  generalize (lg_sl ([.ref h0, .int p1, .int p2, .int p3, .int p4, .int p5]) ++ List.replicate (6 - (lg_sl ([.ref h0, .int p1, .int p2, .int p3, .int p4, .int p5])).length) Slot.unset).toArray = ls at hl ⊢
  have hl : lv_has ls 6 [(0, .ref h0), (1, .int p1), (2, .int p2), (3, .int p3), (4, .int p4), (5, .int p5)] := hl
  obtain ⟨H, hHe⟩ : ∃ H : Heap, s.heap = H := ⟨_, rfl⟩
  have hS : va_S A s.heap H [] := by rw [hHe]; exact va_S.rf
  have hP : va_P (dC, dI) vwCl (wd_c_X12_feed h0 h0_f0 h0_1 h0_2 h0_3 h0_4 h0_5 h0_f6 h0_f7 h0_f8 h0_f9 h0_f10 h0_f11 h0_f12 h0_f13 h0_f14 h0_15 h0_16 h0_f17 h0_18 h0_19 h0_20 h0_21 h0_22 h0_23 h0_24 h0_25 h0_f26 h0_f27 h0_f28 h0_f29 h0_f30 h0_f31 h0_32 h0_33 h0_f34 h0_35 h0_36 h0_37 h0_38 h0_39 h0_40 h0_f41 h0_f42 h0_f43 h0_f44 h0_45 h0_46 h0_47 h0_48 h0_49 h0_50 h0_f51 h0_52 h0_f53 h0_1 h0_1k h0_1c) H := by rw [← hHe]; exact hP
  rw [hHe]
  obtain ⟨RES, hR⟩ : ∃ z, fx_c_X12_feed p1 p2 p3 p4 p5 h0_f6 h0_1c = z := ⟨_, rfl⟩
  have hEX : RES = fx_c_X12_feed p1 p2 p3 p4 p5 h0_f6 h0_1c := hR.symm
  refine lv_aload_n hx hb dX12_feed_0 rfl (lv_at hl 0 rfl) ?_
  as_aux_lemma =>
  refine lv_iconst (v := 0) hx hb dX12_feed_1 kc_iconst_0 ?_
  refine va_put (D := (dC, dI)) (ci := 12) (v := .int 0) (ty := .int) (C := RX12) (T := TX12) (N := 54) hx hb hts iw_c_X12_feed_X12 tyX12 tyX12_ok nmX12 hown hK hP hD hS 0 rfl rfl 0 (by decide +kernel) (hts (.fieldLink RX12 111 "BuoyVoteModel" "thrown" "I") (List.mem_of_getElem? (i := 1) rfl)) (fun _ h9 => h9) rfl (by decide +kernel) rfl rfl (Nat.le_of_ble_eq_true rfl) dX12_feed_2 (fun H locs hP hD hS => ?_)
  have hP : va_P (dC, dI) vwCl (wd_c_X12_feed h0 0 h0_1 h0_2 h0_3 h0_4 h0_5 h0_f6 h0_f7 h0_f8 h0_f9 h0_f10 h0_f11 h0_f12 h0_f13 h0_f14 h0_15 h0_16 h0_f17 h0_18 h0_19 h0_20 h0_21 h0_22 h0_23 h0_24 h0_25 h0_f26 h0_f27 h0_f28 h0_f29 h0_f30 h0_f31 h0_32 h0_33 h0_f34 h0_35 h0_36 h0_37 h0_38 h0_39 h0_40 h0_f41 h0_f42 h0_f43 h0_f44 h0_45 h0_46 h0_47 h0_48 h0_49 h0_50 h0_f51 h0_52 h0_f53 h0_1 h0_1k h0_1c) H := hP
  have hD : va_D A (wd_c_X12_feed h0 0 h0_1 h0_2 h0_3 h0_4 h0_5 h0_f6 h0_f7 h0_f8 h0_f9 h0_f10 h0_f11 h0_f12 h0_f13 h0_f14 h0_15 h0_16 h0_f17 h0_18 h0_19 h0_20 h0_21 h0_22 h0_23 h0_24 h0_25 h0_f26 h0_f27 h0_f28 h0_f29 h0_f30 h0_f31 h0_32 h0_33 h0_f34 h0_35 h0_36 h0_37 h0_38 h0_39 h0_40 h0_f41 h0_f42 h0_f43 h0_f44 h0_45 h0_46 h0_47 h0_48 h0_49 h0_50 h0_f51 h0_52 h0_f53 h0_1 h0_1k h0_1c) := hD
  refine lv_aload_n hx hb dX12_feed_5 rfl (lv_at hl 0 rfl) ?_
  refine va_get (D := (dC, dI)) (ci := 12) (v := .int h0_f6) (C := RX12) (T := TX12) (N := 54) hx hb hts iw_c_X12_feed_X12 hown hK hP 0 rfl rfl 6 (by decide +kernel) (hts (.fieldLink RX12 124 "BuoyVoteModel" "length" "I") (List.mem_of_getElem? (i := 2) rfl)) (fun _ h9 => h9) rfl dX12_feed_6 ?_
  refine lv_iload_n hx hb dX12_feed_9 rfl (lv_at hl 1 rfl) ?_
  obtain ⟨hPc, hDc, hFc, hqc⟩ := cl_cut (wc := []) hP hD hS hA [] (by decide +kernel) rfl
  have hKc := hK.sub (tys' := []) [] rfl
  refine va_calli (va_runS (As := [.int p1]) (rest := [.int h0_f6]) ⟨hx, hb, hml, hown, hts⟩ (c_X12_bytesIn l dC dI H.size p1) (va_cwS 1 hts gf_c_X12_feed_c_X12_bytesIn rfl rfl rfl md_X12_bytesIn ⟨Nat.le_of_ble_eq_true rfl, Nat.le_of_ble_eq_true rfl⟩) ⟨fun a U g mk q => by obtain ⟨q0, q1, qP, qK, qD⟩ := q; exact ⟨q0, q1, qP, va_K.moved (u := U) (U := U.calling g mk a) (Vm.Alike.refl U.vm) qK, qD⟩, fun U hU hW => ⟨rfl, by rw [hU], by rw [hU]; exact hPc, va_K.moved hW.alike hKc, hDc.weaken (fun _ _ _ _ => trivial)⟩⟩ rfl rfl hl.1 rfl (lv_room (Nat.le_of_ble_eq_true rfl)) dX12_feed_10 ⟨Nat.le_of_ble_eq_true rfl, Nat.le_of_ble_eq_true rfl⟩) hS (fun q _ h => hFc q h) hFc (fun r_1 u t H1 locs ht hvm hw hB hz1 hk1 hS => ?_)
  obtain ⟨hP1, hK1, hD1⟩ := hB
  rw [ht] at hP1
  have hP := bv_still hP hk1
  generalize H1 = H at hP hS ⊢
  as_aux_lemma =>
  rcases hw with ⟨h_2, h_3, h_4⟩
  have h_4 : r_1 = _ := h_4
  replace hEX := hEX.trans (exc1_eq h_4)
  refine lv_iadd hx hb dX12_feed_13 ?_
  refine lv_topi (fun x_5 ex_5 => ?_)
  replace hEX := hEX.trans (exl_eq ex_5)
  have g_6 : RG x_5 0 244 := RG_add ex_5 g_h0_f6 h_2 (by decide +kernel)
  refine lv_iload_n hx hb dX12_feed_14 rfl (lv_at hl 2 rfl) ?_
  obtain ⟨hPc, hDc, hFc, hqc⟩ := cl_cut (wc := []) hP hD hS hA [] (by decide +kernel) rfl
  have hKc := hK.sub (tys' := []) [] rfl
  refine va_calli (va_runS (As := [.int p2]) (rest := [.int x_5]) ⟨hx, hb, hml, hown, hts⟩ (c_X12_bytesIn l dC dI H.size p2) (va_cwS 1 hts gf_c_X12_feed_c_X12_bytesIn rfl rfl rfl md_X12_bytesIn ⟨Nat.le_of_ble_eq_true rfl, Nat.le_of_ble_eq_true rfl⟩) ⟨fun a U g mk q => by obtain ⟨q0, q1, qP, qK, qD⟩ := q; exact ⟨q0, q1, qP, va_K.moved (u := U) (U := U.calling g mk a) (Vm.Alike.refl U.vm) qK, qD⟩, fun U hU hW => ⟨rfl, by rw [hU], by rw [hU]; exact hPc, va_K.moved hW.alike hKc, hDc.weaken (fun _ _ _ _ => trivial)⟩⟩ rfl rfl hl.1 rfl (lv_room (Nat.le_of_ble_eq_true rfl)) dX12_feed_15 ⟨Nat.le_of_ble_eq_true rfl, Nat.le_of_ble_eq_true rfl⟩) hS (fun q _ h => hFc q h) hFc (fun r_7 u t H1 locs ht hvm hw hB hz1 hk1 hS => ?_)
  obtain ⟨hP1, hK1, hD1⟩ := hB
  rw [ht] at hP1
  have hP := bv_still hP hk1
  generalize H1 = H at hP hS ⊢
  as_aux_lemma =>
  rcases hw with ⟨h_8, h_9, h_10⟩
  have h_10 : r_7 = _ := h_10
  replace hEX := hEX.trans (exc1_eq h_10)
  refine lv_iadd hx hb dX12_feed_18 ?_
  refine lv_topi (fun x_11 ex_11 => ?_)
  replace hEX := hEX.trans (exl_eq ex_11)
  have g_12 : RG x_11 0 248 := RG_add ex_11 g_6 h_8 (by decide +kernel)
  refine lv_iload_n hx hb dX12_feed_19 rfl (lv_at hl 3 rfl) ?_
  obtain ⟨hPc, hDc, hFc, hqc⟩ := cl_cut (wc := []) hP hD hS hA [] (by decide +kernel) rfl
  have hKc := hK.sub (tys' := []) [] rfl
  refine va_calli (va_runS (As := [.int p3]) (rest := [.int x_11]) ⟨hx, hb, hml, hown, hts⟩ (c_X12_bytesIn l dC dI H.size p3) (va_cwS 1 hts gf_c_X12_feed_c_X12_bytesIn rfl rfl rfl md_X12_bytesIn ⟨Nat.le_of_ble_eq_true rfl, Nat.le_of_ble_eq_true rfl⟩) ⟨fun a U g mk q => by obtain ⟨q0, q1, qP, qK, qD⟩ := q; exact ⟨q0, q1, qP, va_K.moved (u := U) (U := U.calling g mk a) (Vm.Alike.refl U.vm) qK, qD⟩, fun U hU hW => ⟨rfl, by rw [hU], by rw [hU]; exact hPc, va_K.moved hW.alike hKc, hDc.weaken (fun _ _ _ _ => trivial)⟩⟩ rfl rfl hl.1 rfl (lv_room (Nat.le_of_ble_eq_true rfl)) dX12_feed_20 ⟨Nat.le_of_ble_eq_true rfl, Nat.le_of_ble_eq_true rfl⟩) hS (fun q _ h => hFc q h) hFc (fun r_13 u t H1 locs ht hvm hw hB hz1 hk1 hS => ?_)
  obtain ⟨hP1, hK1, hD1⟩ := hB
  rw [ht] at hP1
  have hP := bv_still hP hk1
  generalize H1 = H at hP hS ⊢
  as_aux_lemma =>
  rcases hw with ⟨h_14, h_15, h_16⟩
  have h_16 : r_13 = _ := h_16
  replace hEX := hEX.trans (exc1_eq h_16)
  refine lv_iadd hx hb dX12_feed_23 ?_
  refine lv_topi (fun x_17 ex_17 => ?_)
  replace hEX := hEX.trans (exl_eq ex_17)
  have g_18 : RG x_17 0 252 := RG_add ex_17 g_12 h_14 (by decide +kernel)
  refine lv_iload hx hb dX12_feed_24 (lv_at hl 4 rfl) ?_
  obtain ⟨hPc, hDc, hFc, hqc⟩ := cl_cut (wc := []) hP hD hS hA [] (by decide +kernel) rfl
  have hKc := hK.sub (tys' := []) [] rfl
  refine va_calli (va_runS (As := [.int p4]) (rest := [.int x_17]) ⟨hx, hb, hml, hown, hts⟩ (c_X12_bytesIn l dC dI H.size p4) (va_cwS 1 hts gf_c_X12_feed_c_X12_bytesIn rfl rfl rfl md_X12_bytesIn ⟨Nat.le_of_ble_eq_true rfl, Nat.le_of_ble_eq_true rfl⟩) ⟨fun a U g mk q => by obtain ⟨q0, q1, qP, qK, qD⟩ := q; exact ⟨q0, q1, qP, va_K.moved (u := U) (U := U.calling g mk a) (Vm.Alike.refl U.vm) qK, qD⟩, fun U hU hW => ⟨rfl, by rw [hU], by rw [hU]; exact hPc, va_K.moved hW.alike hKc, hDc.weaken (fun _ _ _ _ => trivial)⟩⟩ rfl rfl hl.1 rfl (lv_room (Nat.le_of_ble_eq_true rfl)) dX12_feed_26 ⟨Nat.le_of_ble_eq_true rfl, Nat.le_of_ble_eq_true rfl⟩) hS (fun q _ h => hFc q h) hFc (fun r_19 u t H1 locs ht hvm hw hB hz1 hk1 hS => ?_)
  obtain ⟨hP1, hK1, hD1⟩ := hB
  rw [ht] at hP1
  have hP := bv_still hP hk1
  generalize H1 = H at hP hS ⊢
  as_aux_lemma =>
  rcases hw with ⟨h_20, h_21, h_22⟩
  have h_22 : r_19 = _ := h_22
  replace hEX := hEX.trans (exc1_eq h_22)
  refine lv_iadd hx hb dX12_feed_29 ?_
  refine lv_topi (fun x_23 ex_23 => ?_)
  replace hEX := hEX.trans (exl_eq ex_23)
  have g_24 : RG x_23 0 256 := RG_add ex_23 g_18 h_20 (by decide +kernel)
  refine lv_iload hx hb dX12_feed_30 (lv_at hl 5 rfl) ?_
  obtain ⟨hPc, hDc, hFc, hqc⟩ := cl_cut (wc := []) hP hD hS hA [] (by decide +kernel) rfl
  have hKc := hK.sub (tys' := []) [] rfl
  refine va_calli (va_runS (As := [.int p5]) (rest := [.int x_23]) ⟨hx, hb, hml, hown, hts⟩ (c_X12_bytesIn l dC dI H.size p5) (va_cwS 1 hts gf_c_X12_feed_c_X12_bytesIn rfl rfl rfl md_X12_bytesIn ⟨Nat.le_of_ble_eq_true rfl, Nat.le_of_ble_eq_true rfl⟩) ⟨fun a U g mk q => by obtain ⟨q0, q1, qP, qK, qD⟩ := q; exact ⟨q0, q1, qP, va_K.moved (u := U) (U := U.calling g mk a) (Vm.Alike.refl U.vm) qK, qD⟩, fun U hU hW => ⟨rfl, by rw [hU], by rw [hU]; exact hPc, va_K.moved hW.alike hKc, hDc.weaken (fun _ _ _ _ => trivial)⟩⟩ rfl rfl hl.1 rfl (lv_room (Nat.le_of_ble_eq_true rfl)) dX12_feed_32 ⟨Nat.le_of_ble_eq_true rfl, Nat.le_of_ble_eq_true rfl⟩) hS (fun q _ h => hFc q h) hFc (fun r_25 u t H1 locs ht hvm hw hB hz1 hk1 hS => ?_)
  obtain ⟨hP1, hK1, hD1⟩ := hB
  rw [ht] at hP1
  have hP := bv_still hP hk1
  generalize H1 = H at hP hS ⊢
  as_aux_lemma =>
  rcases hw with ⟨h_26, h_27, h_28⟩
  have h_28 : r_25 = _ := h_28
  replace hEX := hEX.trans (exc1_eq h_28)
  refine lv_iadd hx hb dX12_feed_35 ?_
  refine lv_topi (fun x_29 ex_29 => ?_)
  replace hEX := hEX.trans (exl_eq ex_29)
  have g_30 : RG x_29 0 260 := RG_add ex_29 g_24 h_26 (by decide +kernel)
  refine lv_sipush (v := 240) hx hb dX12_feed_36 kc_sipush_240 ?_
  refine lv_icmp_le (tgt := 44) hx hb dX12_feed_39 rfl (fun c_31 => ?_) (fun c_31 => ?_)
  · replace hEX := hEX.trans (if_pos c_31)
    have g_32 : RG x_29 0 240 := RG_le1 g_30 (RG_k 240 240 rfl) c_31 (by decide +kernel)
    refine lv_aload_n hx hb dX12_feed_44 rfl (lv_at hl 0 rfl) ?_
    refine lv_iload_n hx hb dX12_feed_45 rfl (lv_at hl 1 rfl) ?_
    obtain ⟨hPc, hDc, hFc, hqc⟩ := cl_cut (wc := (wd_c_X12_put h0 0 h0_1 h0_2 h0_3 h0_4 h0_5 h0_f6 h0_f7 h0_f8 h0_f9 h0_f10 h0_f11 h0_f12 h0_f13 h0_f14 h0_15 h0_16 h0_f17 h0_18 h0_19 h0_20 h0_21 h0_22 h0_23 h0_24 h0_25 h0_f26 h0_f27 h0_f28 h0_f29 h0_f30 h0_f31 h0_32 h0_33 h0_f34 h0_35 h0_36 h0_37 h0_38 h0_39 h0_40 h0_f41 h0_f42 h0_f43 h0_f44 h0_45 h0_46 h0_47 h0_48 h0_49 h0_50 h0_f51 h0_52 h0_f53 h0_1 h0_1k h0_1c)) hP hD hS hA [0, 1] (by decide +kernel) rfl
    have hKc := hK.sub (tys' := [(h0_1k, .byte)]) [0] rfl
    have hrv := va_recv hKc hPc (ci := 12) (q0 := 0) rfl rfl
    refine va_callv (va_runV (As := [.int p1]) (rest := []) ⟨hx, hb, hml, hown, hts⟩ (c_X12_put l dC dI H.size h0 p1 0 h0_1 h0_2 h0_3 h0_4 h0_5 h0_f6 h0_f7 h0_f8 h0_f9 h0_f10 h0_f11 h0_f12 h0_f13 h0_f14 h0_15 h0_16 h0_f17 h0_18 h0_19 h0_20 h0_21 h0_22 h0_23 h0_24 h0_25 h0_f26 h0_f27 h0_f28 h0_f29 h0_f30 h0_f31 h0_32 h0_33 h0_f34 h0_35 h0_36 h0_37 h0_38 h0_39 h0_40 h0_f41 h0_f42 h0_f43 h0_f44 h0_45 h0_46 h0_47 h0_48 h0_49 h0_50 h0_f51 h0_52 h0_f53 h0_1k h0_1c g_h0_f6 g_h0_f7 g_h0_f8 g_h0_f9 g_h0_f10 g_h0_f11 g_h0_f17 g_h0_f26 g_h0_f27 g_h0_f28 g_h0_f29 g_h0_f30 g_h0_f31 g_h0_f34 g_h0_f41 g_h0_f51 g_h0_f53 (by have := eq_add2 ex_5 g_h0_f6 h_2 (by decide +kernel); have := eq_add2 ex_11 g_6 h_8 (by decide +kernel); have := eq_add2 ex_17 g_12 h_14 (by decide +kernel); have := eq_add2 ex_23 g_18 h_20 (by decide +kernel); have := eq_add2 ex_29 g_24 h_26 (by decide +kernel); have := h_3; have := h_9; have := h_15; have := h_21; have := h_27; have := BN_nn p1; have := BN_nn p2; have := BN_nn p3; have := BN_nn p4; have := BN_nn p5; have := (g_32).2; omega)) (cwV 1 hts gf_c_X12_feed_c_X12_put rfl rfl rfl mdV_X12_put ⟨Nat.le_of_ble_eq_true rfl, Nat.le_of_ble_eq_true rfl⟩) ⟨fun a U g mk q => by obtain ⟨q0, q1, qP, qK, qD⟩ := q; exact ⟨q0, q1, qP, va_K.moved (u := U) (U := U.calling g mk a) (Vm.Alike.refl U.vm) qK, qD⟩, hrv, fun U hU hW => ⟨rfl, by rw [hU], by rw [hU]; exact hPc, va_K.moved hW.alike hKc, hDc.weaken (fun _ _ _ _ => trivial)⟩⟩ rfl rfl hl.1 rfl (lv_room (Nat.le_of_ble_eq_true rfl)) dX12_feed_46 ⟨Nat.le_of_ble_eq_true rfl, Nat.le_of_ble_eq_true rfl⟩) hS (fun q _ h => hFc q h) hFc (fun u t H1 locs ht hvm hw hB hz1 hk1 hS => ?_)
    as_aux_lemma =>
    obtain ⟨x_34, w_35⟩ := u
    obtain ⟨hP1, hK1, hD1⟩ := hB
    rw [ht] at hP1
    obtain ⟨hP, hD⟩ := cl_put (w1 := (wd_c_X12_put h0 0 h0_1 h0_2 h0_3 h0_4 h0_5 x_34 h0_f7 h0_f8 h0_f9 h0_f10 h0_f11 h0_f12 h0_f13 h0_f14 h0_15 h0_16 h0_f17 h0_18 h0_19 h0_20 h0_21 h0_22 h0_23 h0_24 h0_25 h0_f26 h0_f27 h0_f28 h0_f29 h0_f30 h0_f31 h0_32 h0_33 h0_f34 h0_35 h0_36 h0_37 h0_38 h0_39 h0_40 h0_f41 h0_f42 h0_f43 h0_f44 h0_45 h0_46 h0_47 h0_48 h0_49 h0_50 h0_f51 h0_52 h0_f53 h0_1 h0_1k w_35)) (nw := (wd_c_X12_feed h0 0 h0_1 h0_2 h0_3 h0_4 h0_5 x_34 h0_f7 h0_f8 h0_f9 h0_f10 h0_f11 h0_f12 h0_f13 h0_f14 h0_15 h0_16 h0_f17 h0_18 h0_19 h0_20 h0_21 h0_22 h0_23 h0_24 h0_25 h0_f26 h0_f27 h0_f28 h0_f29 h0_f30 h0_f31 h0_32 h0_33 h0_f34 h0_35 h0_36 h0_37 h0_38 h0_39 h0_40 h0_f41 h0_f42 h0_f43 h0_f44 h0_45 h0_46 h0_47 h0_48 h0_49 h0_50 h0_f51 h0_52 h0_f53 h0_1 h0_1k w_35)) hP hD [0, 1] [2, 3] 2 rfl hqc (by decide +kernel) rfl hk1 hFc hP1 hD1
    generalize H1 = H at hP hS ⊢
    as_aux_lemma =>
    rcases hw with ⟨h_36, h_37, h_38⟩
    have h_38 : (x_34, w_35) = _ := h_38
    replace hEX := hEX.trans (exc2_eq h_38)
    have h_37 : x_34.toInt = h0_f6.toInt + BN p1 := h_37
    refine lv_aload_n hx hb dX12_feed_49 rfl (lv_at hl 0 rfl) ?_
    refine lv_iload_n hx hb dX12_feed_50 rfl (lv_at hl 2 rfl) ?_
    obtain ⟨hPc, hDc, hFc, hqc⟩ := cl_cut (wc := (wd_c_X12_put h0 0 h0_1 h0_2 h0_3 h0_4 h0_5 x_34 h0_f7 h0_f8 h0_f9 h0_f10 h0_f11 h0_f12 h0_f13 h0_f14 h0_15 h0_16 h0_f17 h0_18 h0_19 h0_20 h0_21 h0_22 h0_23 h0_24 h0_25 h0_f26 h0_f27 h0_f28 h0_f29 h0_f30 h0_f31 h0_32 h0_33 h0_f34 h0_35 h0_36 h0_37 h0_38 h0_39 h0_40 h0_f41 h0_f42 h0_f43 h0_f44 h0_45 h0_46 h0_47 h0_48 h0_49 h0_50 h0_f51 h0_52 h0_f53 h0_1 h0_1k w_35)) hP hD hS hA [0, 1] (by decide +kernel) rfl
    have hKc := hK.sub (tys' := [(h0_1k, .byte)]) [0] rfl
    have hrv := va_recv hKc hPc (ci := 12) (q0 := 0) rfl rfl
    refine va_callv (va_runV (As := [.int p2]) (rest := []) ⟨hx, hb, hml, hown, hts⟩ (c_X12_put l dC dI H.size h0 p2 0 h0_1 h0_2 h0_3 h0_4 h0_5 x_34 h0_f7 h0_f8 h0_f9 h0_f10 h0_f11 h0_f12 h0_f13 h0_f14 h0_15 h0_16 h0_f17 h0_18 h0_19 h0_20 h0_21 h0_22 h0_23 h0_24 h0_25 h0_f26 h0_f27 h0_f28 h0_f29 h0_f30 h0_f31 h0_32 h0_33 h0_f34 h0_35 h0_36 h0_37 h0_38 h0_39 h0_40 h0_f41 h0_f42 h0_f43 h0_f44 h0_45 h0_46 h0_47 h0_48 h0_49 h0_50 h0_f51 h0_52 h0_f53 h0_1k w_35 h_36 g_h0_f7 g_h0_f8 g_h0_f9 g_h0_f10 g_h0_f11 g_h0_f17 g_h0_f26 g_h0_f27 g_h0_f28 g_h0_f29 g_h0_f30 g_h0_f31 g_h0_f34 g_h0_f41 g_h0_f51 g_h0_f53 (by have := eq_add2 ex_5 g_h0_f6 h_2 (by decide +kernel); have := eq_add2 ex_11 g_6 h_8 (by decide +kernel); have := eq_add2 ex_17 g_12 h_14 (by decide +kernel); have := eq_add2 ex_23 g_18 h_20 (by decide +kernel); have := eq_add2 ex_29 g_24 h_26 (by decide +kernel); have := h_3; have := h_9; have := h_15; have := h_21; have := h_27; have := h_37; have := BN_nn p1; have := BN_nn p2; have := BN_nn p3; have := BN_nn p4; have := BN_nn p5; have := (g_32).2; omega)) (cwV 1 hts gf_c_X12_feed_c_X12_put rfl rfl rfl mdV_X12_put ⟨Nat.le_of_ble_eq_true rfl, Nat.le_of_ble_eq_true rfl⟩) ⟨fun a U g mk q => by obtain ⟨q0, q1, qP, qK, qD⟩ := q; exact ⟨q0, q1, qP, va_K.moved (u := U) (U := U.calling g mk a) (Vm.Alike.refl U.vm) qK, qD⟩, hrv, fun U hU hW => ⟨rfl, by rw [hU], by rw [hU]; exact hPc, va_K.moved hW.alike hKc, hDc.weaken (fun _ _ _ _ => trivial)⟩⟩ rfl rfl hl.1 rfl (lv_room (Nat.le_of_ble_eq_true rfl)) dX12_feed_51 ⟨Nat.le_of_ble_eq_true rfl, Nat.le_of_ble_eq_true rfl⟩) hS (fun q _ h => hFc q h) hFc (fun u t H1 locs ht hvm hw hB hz1 hk1 hS => ?_)
    obtain ⟨x_40, w_41⟩ := u
    obtain ⟨hP1, hK1, hD1⟩ := hB
    rw [ht] at hP1
    obtain ⟨hP, hD⟩ := cl_put (w1 := (wd_c_X12_put h0 0 h0_1 h0_2 h0_3 h0_4 h0_5 x_40 h0_f7 h0_f8 h0_f9 h0_f10 h0_f11 h0_f12 h0_f13 h0_f14 h0_15 h0_16 h0_f17 h0_18 h0_19 h0_20 h0_21 h0_22 h0_23 h0_24 h0_25 h0_f26 h0_f27 h0_f28 h0_f29 h0_f30 h0_f31 h0_32 h0_33 h0_f34 h0_35 h0_36 h0_37 h0_38 h0_39 h0_40 h0_f41 h0_f42 h0_f43 h0_f44 h0_45 h0_46 h0_47 h0_48 h0_49 h0_50 h0_f51 h0_52 h0_f53 h0_1 h0_1k w_41)) (nw := (wd_c_X12_feed h0 0 h0_1 h0_2 h0_3 h0_4 h0_5 x_40 h0_f7 h0_f8 h0_f9 h0_f10 h0_f11 h0_f12 h0_f13 h0_f14 h0_15 h0_16 h0_f17 h0_18 h0_19 h0_20 h0_21 h0_22 h0_23 h0_24 h0_25 h0_f26 h0_f27 h0_f28 h0_f29 h0_f30 h0_f31 h0_32 h0_33 h0_f34 h0_35 h0_36 h0_37 h0_38 h0_39 h0_40 h0_f41 h0_f42 h0_f43 h0_f44 h0_45 h0_46 h0_47 h0_48 h0_49 h0_50 h0_f51 h0_52 h0_f53 h0_1 h0_1k w_41)) hP hD [0, 1] [2, 3] 2 rfl hqc (by decide +kernel) rfl hk1 hFc hP1 hD1
    generalize H1 = H at hP hS ⊢
    as_aux_lemma =>
    rcases hw with ⟨h_42, h_43, h_44⟩
    have h_44 : (x_40, w_41) = _ := h_44
    replace hEX := hEX.trans (exc2_eq h_44)
    have h_43 : x_40.toInt = x_34.toInt + BN p2 := h_43
    refine lv_aload_n hx hb dX12_feed_54 rfl (lv_at hl 0 rfl) ?_
    refine lv_iload_n hx hb dX12_feed_55 rfl (lv_at hl 3 rfl) ?_
    obtain ⟨hPc, hDc, hFc, hqc⟩ := cl_cut (wc := (wd_c_X12_put h0 0 h0_1 h0_2 h0_3 h0_4 h0_5 x_40 h0_f7 h0_f8 h0_f9 h0_f10 h0_f11 h0_f12 h0_f13 h0_f14 h0_15 h0_16 h0_f17 h0_18 h0_19 h0_20 h0_21 h0_22 h0_23 h0_24 h0_25 h0_f26 h0_f27 h0_f28 h0_f29 h0_f30 h0_f31 h0_32 h0_33 h0_f34 h0_35 h0_36 h0_37 h0_38 h0_39 h0_40 h0_f41 h0_f42 h0_f43 h0_f44 h0_45 h0_46 h0_47 h0_48 h0_49 h0_50 h0_f51 h0_52 h0_f53 h0_1 h0_1k w_41)) hP hD hS hA [0, 1] (by decide +kernel) rfl
    have hKc := hK.sub (tys' := [(h0_1k, .byte)]) [0] rfl
    have hrv := va_recv hKc hPc (ci := 12) (q0 := 0) rfl rfl
    refine va_callv (va_runV (As := [.int p3]) (rest := []) ⟨hx, hb, hml, hown, hts⟩ (c_X12_put l dC dI H.size h0 p3 0 h0_1 h0_2 h0_3 h0_4 h0_5 x_40 h0_f7 h0_f8 h0_f9 h0_f10 h0_f11 h0_f12 h0_f13 h0_f14 h0_15 h0_16 h0_f17 h0_18 h0_19 h0_20 h0_21 h0_22 h0_23 h0_24 h0_25 h0_f26 h0_f27 h0_f28 h0_f29 h0_f30 h0_f31 h0_32 h0_33 h0_f34 h0_35 h0_36 h0_37 h0_38 h0_39 h0_40 h0_f41 h0_f42 h0_f43 h0_f44 h0_45 h0_46 h0_47 h0_48 h0_49 h0_50 h0_f51 h0_52 h0_f53 h0_1k w_41 h_42 g_h0_f7 g_h0_f8 g_h0_f9 g_h0_f10 g_h0_f11 g_h0_f17 g_h0_f26 g_h0_f27 g_h0_f28 g_h0_f29 g_h0_f30 g_h0_f31 g_h0_f34 g_h0_f41 g_h0_f51 g_h0_f53 (by have := eq_add2 ex_5 g_h0_f6 h_2 (by decide +kernel); have := eq_add2 ex_11 g_6 h_8 (by decide +kernel); have := eq_add2 ex_17 g_12 h_14 (by decide +kernel); have := eq_add2 ex_23 g_18 h_20 (by decide +kernel); have := eq_add2 ex_29 g_24 h_26 (by decide +kernel); have := h_3; have := h_9; have := h_15; have := h_21; have := h_27; have := h_37; have := h_43; have := BN_nn p1; have := BN_nn p2; have := BN_nn p3; have := BN_nn p4; have := BN_nn p5; have := (g_32).2; omega)) (cwV 1 hts gf_c_X12_feed_c_X12_put rfl rfl rfl mdV_X12_put ⟨Nat.le_of_ble_eq_true rfl, Nat.le_of_ble_eq_true rfl⟩) ⟨fun a U g mk q => by obtain ⟨q0, q1, qP, qK, qD⟩ := q; exact ⟨q0, q1, qP, va_K.moved (u := U) (U := U.calling g mk a) (Vm.Alike.refl U.vm) qK, qD⟩, hrv, fun U hU hW => ⟨rfl, by rw [hU], by rw [hU]; exact hPc, va_K.moved hW.alike hKc, hDc.weaken (fun _ _ _ _ => trivial)⟩⟩ rfl rfl hl.1 rfl (lv_room (Nat.le_of_ble_eq_true rfl)) dX12_feed_56 ⟨Nat.le_of_ble_eq_true rfl, Nat.le_of_ble_eq_true rfl⟩) hS (fun q _ h => hFc q h) hFc (fun u t H1 locs ht hvm hw hB hz1 hk1 hS => ?_)
    obtain ⟨x_46, w_47⟩ := u
    obtain ⟨hP1, hK1, hD1⟩ := hB
    rw [ht] at hP1
    obtain ⟨hP, hD⟩ := cl_put (w1 := (wd_c_X12_put h0 0 h0_1 h0_2 h0_3 h0_4 h0_5 x_46 h0_f7 h0_f8 h0_f9 h0_f10 h0_f11 h0_f12 h0_f13 h0_f14 h0_15 h0_16 h0_f17 h0_18 h0_19 h0_20 h0_21 h0_22 h0_23 h0_24 h0_25 h0_f26 h0_f27 h0_f28 h0_f29 h0_f30 h0_f31 h0_32 h0_33 h0_f34 h0_35 h0_36 h0_37 h0_38 h0_39 h0_40 h0_f41 h0_f42 h0_f43 h0_f44 h0_45 h0_46 h0_47 h0_48 h0_49 h0_50 h0_f51 h0_52 h0_f53 h0_1 h0_1k w_47)) (nw := (wd_c_X12_feed h0 0 h0_1 h0_2 h0_3 h0_4 h0_5 x_46 h0_f7 h0_f8 h0_f9 h0_f10 h0_f11 h0_f12 h0_f13 h0_f14 h0_15 h0_16 h0_f17 h0_18 h0_19 h0_20 h0_21 h0_22 h0_23 h0_24 h0_25 h0_f26 h0_f27 h0_f28 h0_f29 h0_f30 h0_f31 h0_32 h0_33 h0_f34 h0_35 h0_36 h0_37 h0_38 h0_39 h0_40 h0_f41 h0_f42 h0_f43 h0_f44 h0_45 h0_46 h0_47 h0_48 h0_49 h0_50 h0_f51 h0_52 h0_f53 h0_1 h0_1k w_47)) hP hD [0, 1] [2, 3] 2 rfl hqc (by decide +kernel) rfl hk1 hFc hP1 hD1
    generalize H1 = H at hP hS ⊢
    as_aux_lemma =>
    rcases hw with ⟨h_48, h_49, h_50⟩
    have h_50 : (x_46, w_47) = _ := h_50
    replace hEX := hEX.trans (exc2_eq h_50)
    have h_49 : x_46.toInt = x_40.toInt + BN p3 := h_49
    refine lv_aload_n hx hb dX12_feed_59 rfl (lv_at hl 0 rfl) ?_
    refine lv_iload hx hb dX12_feed_60 (lv_at hl 4 rfl) ?_
    obtain ⟨hPc, hDc, hFc, hqc⟩ := cl_cut (wc := (wd_c_X12_put h0 0 h0_1 h0_2 h0_3 h0_4 h0_5 x_46 h0_f7 h0_f8 h0_f9 h0_f10 h0_f11 h0_f12 h0_f13 h0_f14 h0_15 h0_16 h0_f17 h0_18 h0_19 h0_20 h0_21 h0_22 h0_23 h0_24 h0_25 h0_f26 h0_f27 h0_f28 h0_f29 h0_f30 h0_f31 h0_32 h0_33 h0_f34 h0_35 h0_36 h0_37 h0_38 h0_39 h0_40 h0_f41 h0_f42 h0_f43 h0_f44 h0_45 h0_46 h0_47 h0_48 h0_49 h0_50 h0_f51 h0_52 h0_f53 h0_1 h0_1k w_47)) hP hD hS hA [0, 1] (by decide +kernel) rfl
    have hKc := hK.sub (tys' := [(h0_1k, .byte)]) [0] rfl
    have hrv := va_recv hKc hPc (ci := 12) (q0 := 0) rfl rfl
    refine va_callv (va_runV (As := [.int p4]) (rest := []) ⟨hx, hb, hml, hown, hts⟩ (c_X12_put l dC dI H.size h0 p4 0 h0_1 h0_2 h0_3 h0_4 h0_5 x_46 h0_f7 h0_f8 h0_f9 h0_f10 h0_f11 h0_f12 h0_f13 h0_f14 h0_15 h0_16 h0_f17 h0_18 h0_19 h0_20 h0_21 h0_22 h0_23 h0_24 h0_25 h0_f26 h0_f27 h0_f28 h0_f29 h0_f30 h0_f31 h0_32 h0_33 h0_f34 h0_35 h0_36 h0_37 h0_38 h0_39 h0_40 h0_f41 h0_f42 h0_f43 h0_f44 h0_45 h0_46 h0_47 h0_48 h0_49 h0_50 h0_f51 h0_52 h0_f53 h0_1k w_47 h_48 g_h0_f7 g_h0_f8 g_h0_f9 g_h0_f10 g_h0_f11 g_h0_f17 g_h0_f26 g_h0_f27 g_h0_f28 g_h0_f29 g_h0_f30 g_h0_f31 g_h0_f34 g_h0_f41 g_h0_f51 g_h0_f53 (by have := eq_add2 ex_5 g_h0_f6 h_2 (by decide +kernel); have := eq_add2 ex_11 g_6 h_8 (by decide +kernel); have := eq_add2 ex_17 g_12 h_14 (by decide +kernel); have := eq_add2 ex_23 g_18 h_20 (by decide +kernel); have := eq_add2 ex_29 g_24 h_26 (by decide +kernel); have := h_3; have := h_9; have := h_15; have := h_21; have := h_27; have := h_37; have := h_43; have := h_49; have := BN_nn p1; have := BN_nn p2; have := BN_nn p3; have := BN_nn p4; have := BN_nn p5; have := (g_32).2; omega)) (cwV 1 hts gf_c_X12_feed_c_X12_put rfl rfl rfl mdV_X12_put ⟨Nat.le_of_ble_eq_true rfl, Nat.le_of_ble_eq_true rfl⟩) ⟨fun a U g mk q => by obtain ⟨q0, q1, qP, qK, qD⟩ := q; exact ⟨q0, q1, qP, va_K.moved (u := U) (U := U.calling g mk a) (Vm.Alike.refl U.vm) qK, qD⟩, hrv, fun U hU hW => ⟨rfl, by rw [hU], by rw [hU]; exact hPc, va_K.moved hW.alike hKc, hDc.weaken (fun _ _ _ _ => trivial)⟩⟩ rfl rfl hl.1 rfl (lv_room (Nat.le_of_ble_eq_true rfl)) dX12_feed_62 ⟨Nat.le_of_ble_eq_true rfl, Nat.le_of_ble_eq_true rfl⟩) hS (fun q _ h => hFc q h) hFc (fun u t H1 locs ht hvm hw hB hz1 hk1 hS => ?_)
    obtain ⟨x_52, w_53⟩ := u
    obtain ⟨hP1, hK1, hD1⟩ := hB
    rw [ht] at hP1
    obtain ⟨hP, hD⟩ := cl_put (w1 := (wd_c_X12_put h0 0 h0_1 h0_2 h0_3 h0_4 h0_5 x_52 h0_f7 h0_f8 h0_f9 h0_f10 h0_f11 h0_f12 h0_f13 h0_f14 h0_15 h0_16 h0_f17 h0_18 h0_19 h0_20 h0_21 h0_22 h0_23 h0_24 h0_25 h0_f26 h0_f27 h0_f28 h0_f29 h0_f30 h0_f31 h0_32 h0_33 h0_f34 h0_35 h0_36 h0_37 h0_38 h0_39 h0_40 h0_f41 h0_f42 h0_f43 h0_f44 h0_45 h0_46 h0_47 h0_48 h0_49 h0_50 h0_f51 h0_52 h0_f53 h0_1 h0_1k w_53)) (nw := (wd_c_X12_feed h0 0 h0_1 h0_2 h0_3 h0_4 h0_5 x_52 h0_f7 h0_f8 h0_f9 h0_f10 h0_f11 h0_f12 h0_f13 h0_f14 h0_15 h0_16 h0_f17 h0_18 h0_19 h0_20 h0_21 h0_22 h0_23 h0_24 h0_25 h0_f26 h0_f27 h0_f28 h0_f29 h0_f30 h0_f31 h0_32 h0_33 h0_f34 h0_35 h0_36 h0_37 h0_38 h0_39 h0_40 h0_f41 h0_f42 h0_f43 h0_f44 h0_45 h0_46 h0_47 h0_48 h0_49 h0_50 h0_f51 h0_52 h0_f53 h0_1 h0_1k w_53)) hP hD [0, 1] [2, 3] 2 rfl hqc (by decide +kernel) rfl hk1 hFc hP1 hD1
    generalize H1 = H at hP hS ⊢
    as_aux_lemma =>
    rcases hw with ⟨h_54, h_55, h_56⟩
    have h_56 : (x_52, w_53) = _ := h_56
    replace hEX := hEX.trans (exc2_eq h_56)
    have h_55 : x_52.toInt = x_46.toInt + BN p4 := h_55
    refine lv_aload_n hx hb dX12_feed_65 rfl (lv_at hl 0 rfl) ?_
    refine lv_iload hx hb dX12_feed_66 (lv_at hl 5 rfl) ?_
    obtain ⟨hPc, hDc, hFc, hqc⟩ := cl_cut (wc := (wd_c_X12_put h0 0 h0_1 h0_2 h0_3 h0_4 h0_5 x_52 h0_f7 h0_f8 h0_f9 h0_f10 h0_f11 h0_f12 h0_f13 h0_f14 h0_15 h0_16 h0_f17 h0_18 h0_19 h0_20 h0_21 h0_22 h0_23 h0_24 h0_25 h0_f26 h0_f27 h0_f28 h0_f29 h0_f30 h0_f31 h0_32 h0_33 h0_f34 h0_35 h0_36 h0_37 h0_38 h0_39 h0_40 h0_f41 h0_f42 h0_f43 h0_f44 h0_45 h0_46 h0_47 h0_48 h0_49 h0_50 h0_f51 h0_52 h0_f53 h0_1 h0_1k w_53)) hP hD hS hA [0, 1] (by decide +kernel) rfl
    have hKc := hK.sub (tys' := [(h0_1k, .byte)]) [0] rfl
    have hrv := va_recv hKc hPc (ci := 12) (q0 := 0) rfl rfl
    refine va_callv (va_runV (As := [.int p5]) (rest := []) ⟨hx, hb, hml, hown, hts⟩ (c_X12_put l dC dI H.size h0 p5 0 h0_1 h0_2 h0_3 h0_4 h0_5 x_52 h0_f7 h0_f8 h0_f9 h0_f10 h0_f11 h0_f12 h0_f13 h0_f14 h0_15 h0_16 h0_f17 h0_18 h0_19 h0_20 h0_21 h0_22 h0_23 h0_24 h0_25 h0_f26 h0_f27 h0_f28 h0_f29 h0_f30 h0_f31 h0_32 h0_33 h0_f34 h0_35 h0_36 h0_37 h0_38 h0_39 h0_40 h0_f41 h0_f42 h0_f43 h0_f44 h0_45 h0_46 h0_47 h0_48 h0_49 h0_50 h0_f51 h0_52 h0_f53 h0_1k w_53 h_54 g_h0_f7 g_h0_f8 g_h0_f9 g_h0_f10 g_h0_f11 g_h0_f17 g_h0_f26 g_h0_f27 g_h0_f28 g_h0_f29 g_h0_f30 g_h0_f31 g_h0_f34 g_h0_f41 g_h0_f51 g_h0_f53 (by have := eq_add2 ex_5 g_h0_f6 h_2 (by decide +kernel); have := eq_add2 ex_11 g_6 h_8 (by decide +kernel); have := eq_add2 ex_17 g_12 h_14 (by decide +kernel); have := eq_add2 ex_23 g_18 h_20 (by decide +kernel); have := eq_add2 ex_29 g_24 h_26 (by decide +kernel); have := h_3; have := h_9; have := h_15; have := h_21; have := h_27; have := h_37; have := h_43; have := h_49; have := h_55; have := BN_nn p1; have := BN_nn p2; have := BN_nn p3; have := BN_nn p4; have := BN_nn p5; have := (g_32).2; omega)) (cwV 1 hts gf_c_X12_feed_c_X12_put rfl rfl rfl mdV_X12_put ⟨Nat.le_of_ble_eq_true rfl, Nat.le_of_ble_eq_true rfl⟩) ⟨fun a U g mk q => by obtain ⟨q0, q1, qP, qK, qD⟩ := q; exact ⟨q0, q1, qP, va_K.moved (u := U) (U := U.calling g mk a) (Vm.Alike.refl U.vm) qK, qD⟩, hrv, fun U hU hW => ⟨rfl, by rw [hU], by rw [hU]; exact hPc, va_K.moved hW.alike hKc, hDc.weaken (fun _ _ _ _ => trivial)⟩⟩ rfl rfl hl.1 rfl (lv_room (Nat.le_of_ble_eq_true rfl)) dX12_feed_68 ⟨Nat.le_of_ble_eq_true rfl, Nat.le_of_ble_eq_true rfl⟩) hS (fun q _ h => hFc q h) hFc (fun u t H1 locs ht hvm hw hB hz1 hk1 hS => ?_)
    obtain ⟨x_58, w_59⟩ := u
    obtain ⟨hP1, hK1, hD1⟩ := hB
    rw [ht] at hP1
    obtain ⟨hP, hD⟩ := cl_put (w1 := (wd_c_X12_put h0 0 h0_1 h0_2 h0_3 h0_4 h0_5 x_58 h0_f7 h0_f8 h0_f9 h0_f10 h0_f11 h0_f12 h0_f13 h0_f14 h0_15 h0_16 h0_f17 h0_18 h0_19 h0_20 h0_21 h0_22 h0_23 h0_24 h0_25 h0_f26 h0_f27 h0_f28 h0_f29 h0_f30 h0_f31 h0_32 h0_33 h0_f34 h0_35 h0_36 h0_37 h0_38 h0_39 h0_40 h0_f41 h0_f42 h0_f43 h0_f44 h0_45 h0_46 h0_47 h0_48 h0_49 h0_50 h0_f51 h0_52 h0_f53 h0_1 h0_1k w_59)) (nw := (wd_c_X12_feed h0 0 h0_1 h0_2 h0_3 h0_4 h0_5 x_58 h0_f7 h0_f8 h0_f9 h0_f10 h0_f11 h0_f12 h0_f13 h0_f14 h0_15 h0_16 h0_f17 h0_18 h0_19 h0_20 h0_21 h0_22 h0_23 h0_24 h0_25 h0_f26 h0_f27 h0_f28 h0_f29 h0_f30 h0_f31 h0_32 h0_33 h0_f34 h0_35 h0_36 h0_37 h0_38 h0_39 h0_40 h0_f41 h0_f42 h0_f43 h0_f44 h0_45 h0_46 h0_47 h0_48 h0_49 h0_50 h0_f51 h0_52 h0_f53 h0_1 h0_1k w_59)) hP hD [0, 1] [2, 3] 2 rfl hqc (by decide +kernel) rfl hk1 hFc hP1 hD1
    generalize H1 = H at hP hS ⊢
    as_aux_lemma =>
    rcases hw with ⟨h_60, h_61, h_62⟩
    have h_62 : (x_58, w_59) = _ := h_62
    replace hEX := hEX.trans (exc2_eq h_62)
    have h_61 : x_58.toInt = x_52.toInt + BN p5 := h_61
    refine lv_aload_n hx hb dX12_feed_71 rfl (lv_at hl 0 rfl) ?_
    refine va_get (D := (dC, dI)) (ci := 12) (v := .int x_58) (C := RX12) (T := TX12) (N := 54) hx hb hts iw_c_X12_feed_X12 hown hK hP 0 rfl rfl 6 (by decide +kernel) (hts (.fieldLink RX12 124 "BuoyVoteModel" "length" "I") (List.mem_of_getElem? (i := 2) rfl)) (fun _ h9 => h9) rfl dX12_feed_72 ?_
    have hK9 := hK.sub (tys' := []) [] rfl
    exact W.iret (v := x_58) hx hb hr (fun t ht hW => ⟨⟨x_58, (x_58, w_59), rfl, (Or.inr ⟨h_60, h_60, (hR.trans hEX).symm⟩), by rw [ht]; exact hP, va_K.moved hW.alike hK9, hD⟩, hS.F ht⟩) hS.2.2 dX12_feed_75
  · replace hEX := hEX.trans (if_neg c_31)
    have d_63 := Int32.not_le.mp c_31
    have g_64 : RG x_29 241 260 := RG_lt2 (RG_k 240 240 rfl) g_30 d_63 (by decide +kernel)
    refine lv_iconst (v := (-1)) hx hb dX12_feed_42 kc_iconst_m1 ?_
    have hK9 := hK.sub (tys' := []) [] rfl
    exact W.iret (v := (-1)) hx hb hr (fun t ht hW => ⟨⟨(-1), (h0_f6, h0_1c), rfl, (Or.inl ⟨rfl, g_h0_f6, (hR.trans hEX).symm⟩), by rw [ht]; exact hP, va_K.moved hW.alike hK9, hD⟩, hS.F ht⟩) hS.2.2 dX12_feed_43
noncomputable def wd_c_X12_end (a0 : Nat) (a1 : Int32) (a2 : Nat) (a3 : Nat) (a4 : Nat) (a5 : Nat) (a6 : Nat) (a7 : Int32) (a8 : Int32) (a9 : Int32) (a10 : Int32) (a11 : Int32) (a12 : Int32) (a13 : Int32) (a14 : Int32) (a15 : Int32) (a16 : Nat) (a17 : Nat) (a18 : Int32) (a19 : Nat) (a20 : Nat) (a21 : Nat) (a22 : Nat) (a23 : Nat) (a24 : Nat) (a25 : Nat) (a26 : Nat) (a27 : Int32) (a28 : Int32) (a29 : Int32) (a30 : Int32) (a31 : Int32) (a32 : Int32) (a33 : Nat) (a34 : Nat) (a35 : Int32) (a36 : Nat) (a37 : Nat) (a38 : Nat) (a39 : Nat) (a40 : Nat) (a41 : Nat) (a42 : Int32) (a43 : Int64) (a44 : Int32) (a45 : Int32) (a46 : Nat) (a47 : Nat) (a48 : Nat) (a49 : Nat) (a50 : Nat) (a51 : Nat) (a52 : Int32) (a53 : Nat) (a54 : Int32) : va_W := [(a0, .inr (12, [.int a1, .ref a2, .ref a3, .ref a4, .ref a5, .ref a6, .int a7, .int a8, .int a9, .int a10, .int a11, .int a12, .int a13, .int a14, .int a15, .ref a16, .ref a17, .int a18, .ref a19, .ref a20, .ref a21, .ref a22, .ref a23, .ref a24, .ref a25, .ref a26, .int a27, .int a28, .int a29, .int a30, .int a31, .int a32, .ref a33, .ref a34, .int a35, .ref a36, .ref a37, .ref a38, .ref a39, .ref a40, .ref a41, .int a42, .long a43, .int a44, .int a45, .ref a46, .ref a47, .ref a48, .ref a49, .ref a50, .ref a51, .int a52, .ref a53, .int a54]))]
noncomputable def wf_c_X12_end : List Cond := List.cons (.code yX12_end cX12_end 2 (some .boolean)) (@HAppend.hAppend (List Cond) (List Cond) (List Cond) _ [.fieldLink RX12 111 "BuoyVoteModel" "thrown" "I", .fieldLink RX12 124 "BuoyVoteModel" "length" "I"] wsX120)
theorem iw_c_X12_end_X12 : ∀ w ∈ wsX120, w ∈ wf_c_X12_end := fun w h => List.mem_cons_of_mem _ (List.mem_append_right _ h)
set_option maxHeartbeats 4000000 in
set_option maxRecDepth 100000 in
theorem c_X12_end (l : Launch) (dC : Nat → ClassId) (dI : Nat → Nat → Nat) (sz : Nat) (h0 : Nat) (p1 : Int32) (h0_f0 : Int32) (h0_1 : Nat) (h0_2 : Nat) (h0_3 : Nat) (h0_4 : Nat) (h0_5 : Nat) (h0_f6 : Int32) (h0_f7 : Int32) (h0_f8 : Int32) (h0_f9 : Int32) (h0_f10 : Int32) (h0_f11 : Int32) (h0_f12 : Int32) (h0_f13 : Int32) (h0_f14 : Int32) (h0_15 : Nat) (h0_16 : Nat) (h0_f17 : Int32) (h0_18 : Nat) (h0_19 : Nat) (h0_20 : Nat) (h0_21 : Nat) (h0_22 : Nat) (h0_23 : Nat) (h0_24 : Nat) (h0_25 : Nat) (h0_f26 : Int32) (h0_f27 : Int32) (h0_f28 : Int32) (h0_f29 : Int32) (h0_f30 : Int32) (h0_f31 : Int32) (h0_32 : Nat) (h0_33 : Nat) (h0_f34 : Int32) (h0_35 : Nat) (h0_36 : Nat) (h0_37 : Nat) (h0_38 : Nat) (h0_39 : Nat) (h0_40 : Nat) (h0_f41 : Int32) (h0_f42 : Int64) (h0_f43 : Int32) (h0_f44 : Int32) (h0_45 : Nat) (h0_46 : Nat) (h0_47 : Nat) (h0_48 : Nat) (h0_49 : Nat) (h0_50 : Nat) (h0_f51 : Int32) (h0_52 : Nat) (h0_f53 : Int32) (g_h0_f6 : RG h0_f6 0 240) (g_h0_f7 : RG h0_f7 0 4) (g_h0_f8 : RG h0_f8 0 720) (g_h0_f9 : RG h0_f9 0 240) (g_h0_f10 : RG h0_f10 0 240) (g_h0_f11 : RG h0_f11 (-1) 240) (g_h0_f17 : RG h0_f17 0 1) (g_h0_f26 : RG h0_f26 0 8) (g_h0_f27 : RG h0_f27 0 3) (g_h0_f28 : RG h0_f28 0 8) (g_h0_f29 : RG h0_f29 0 3) (g_h0_f30 : RG h0_f30 0 4) (g_h0_f31 : RG h0_f31 0 1) (g_h0_f34 : RG h0_f34 (-1) 3) (g_h0_f41 : RG h0_f41 0 40) (g_h0_f51 : RG h0_f51 0 10) (g_h0_f53 : RG h0_f53 0 1) : Met l yX12_end wf_c_X12_end ({ frames := 0, cells := 0, slots := 0, locals := 0 }) (va_Pc [.ref h0, .int p1] (fun U => U.heap.size = sz ∧ va_P (dC, dI) vwCl (wd_c_X12_end h0 h0_f0 h0_1 h0_2 h0_3 h0_4 h0_5 h0_f6 h0_f7 h0_f8 h0_f9 h0_f10 h0_f11 h0_f12 h0_f13 h0_f14 h0_15 h0_16 h0_f17 h0_18 h0_19 h0_20 h0_21 h0_22 h0_23 h0_24 h0_25 h0_f26 h0_f27 h0_f28 h0_f29 h0_f30 h0_f31 h0_32 h0_33 h0_f34 h0_35 h0_36 h0_37 h0_38 h0_39 h0_40 h0_f41 h0_f42 h0_f43 h0_f44 h0_45 h0_46 h0_47 h0_48 h0_49 h0_50 h0_f51 h0_52 h0_f53) U.heap ∧ va_K (dC, dI) vwCl [] U ∧ va_D (fun _ => True) (wd_c_X12_end h0 h0_f0 h0_1 h0_2 h0_3 h0_4 h0_5 h0_f6 h0_f7 h0_f8 h0_f9 h0_f10 h0_f11 h0_f12 h0_f13 h0_f14 h0_15 h0_16 h0_f17 h0_18 h0_19 h0_20 h0_21 h0_22 h0_23 h0_24 h0_25 h0_f26 h0_f27 h0_f28 h0_f29 h0_f30 h0_f31 h0_32 h0_33 h0_f34 h0_35 h0_36 h0_37 h0_38 h0_39 h0_40 h0_f41 h0_f42 h0_f43 h0_f44 h0_45 h0_46 h0_47 h0_48 h0_49 h0_50 h0_f51 h0_52 h0_f53))) (va_Qi (fun (r : Int32) (u : (Int32)) => (r = 0 ∧ RG u 0 240 ∧ RG p1 (-2147483648) 2147483647 ∧ (r, u) = fx_c_X12_end p1 h0_f6) ∨ (r = 1 ∧ RG u 0 240 ∧ RG p1 0 240 ∧ (r, u) = fx_c_X12_end p1 h0_f6)) (fun (u : (Int32)) t => va_P (dC, dI) vwCl (wd_c_X12_end h0 0 h0_1 h0_2 h0_3 h0_4 h0_5 u h0_f7 h0_f8 h0_f9 h0_f10 h0_f11 h0_f12 h0_f13 h0_f14 h0_15 h0_16 h0_f17 h0_18 h0_19 h0_20 h0_21 h0_22 h0_23 h0_24 h0_25 h0_f26 h0_f27 h0_f28 h0_f29 h0_f30 h0_f31 h0_32 h0_33 h0_f34 h0_35 h0_36 h0_37 h0_38 h0_39 h0_40 h0_f41 h0_f42 h0_f43 h0_f44 h0_45 h0_46 h0_47 h0_48 h0_49 h0_50 h0_f51 h0_52 h0_f53) t.heap ∧ va_K (dC, dI) vwCl [] t ∧ va_D (va_A (wd_c_X12_end h0 h0_f0 h0_1 h0_2 h0_3 h0_4 h0_5 h0_f6 h0_f7 h0_f8 h0_f9 h0_f10 h0_f11 h0_f12 h0_f13 h0_f14 h0_15 h0_16 h0_f17 h0_18 h0_19 h0_20 h0_21 h0_22 h0_23 h0_24 h0_25 h0_f26 h0_f27 h0_f28 h0_f29 h0_f30 h0_f31 h0_32 h0_33 h0_f34 h0_35 h0_36 h0_37 h0_38 h0_39 h0_40 h0_f41 h0_f42 h0_f43 h0_f44 h0_45 h0_46 h0_47 h0_48 h0_49 h0_50 h0_f51 h0_52 h0_f53) sz) (wd_c_X12_end h0 0 h0_1 h0_2 h0_3 h0_4 h0_5 u h0_f7 h0_f8 h0_f9 h0_f10 h0_f11 h0_f12 h0_f13 h0_f14 h0_15 h0_16 h0_f17 h0_18 h0_19 h0_20 h0_21 h0_22 h0_23 h0_24 h0_25 h0_f26 h0_f27 h0_f28 h0_f29 h0_f30 h0_f31 h0_32 h0_33 h0_f34 h0_35 h0_36 h0_37 h0_38 h0_39 h0_40 h0_f41 h0_f42 h0_f43 h0_f44 h0_45 h0_46 h0_47 h0_48 h0_49 h0_50 h0_f51 h0_52 h0_f53)) (va_A (wd_c_X12_end h0 h0_f0 h0_1 h0_2 h0_3 h0_4 h0_5 h0_f6 h0_f7 h0_f8 h0_f9 h0_f10 h0_f11 h0_f12 h0_f13 h0_f14 h0_15 h0_16 h0_f17 h0_18 h0_19 h0_20 h0_21 h0_22 h0_23 h0_24 h0_25 h0_f26 h0_f27 h0_f28 h0_f29 h0_f30 h0_f31 h0_32 h0_33 h0_f34 h0_35 h0_36 h0_37 h0_38 h0_39 h0_40 h0_f41 h0_f42 h0_f43 h0_f44 h0_45 h0_46 h0_47 h0_48 h0_49 h0_50 h0_f51 h0_52 h0_f53) sz)) 0 0 (va_A (wd_c_X12_end h0 h0_f0 h0_1 h0_2 h0_3 h0_4 h0_5 h0_f6 h0_f7 h0_f8 h0_f9 h0_f10 h0_f11 h0_f12 h0_f13 h0_f14 h0_15 h0_16 h0_f17 h0_18 h0_19 h0_20 h0_21 h0_22 h0_23 h0_24 h0_25 h0_f26 h0_f27 h0_f28 h0_f29 h0_f30 h0_f31 h0_32 h0_33 h0_f34 h0_35 h0_36 h0_37 h0_38 h0_39 h0_40 h0_f41 h0_f42 h0_f43 h0_f44 h0_45 h0_46 h0_47 h0_48 h0_49 h0_50 h0_f51 h0_52 h0_f53) sz) := by
  refine Met.ofW (cc := cX12_end) (maxL := 2) (ret := (some .boolean)) (by decide +kernel) rfl ?_
  intro p e s m args below meth c s₁ B hml hv
  obtain ⟨rfl, hsz, hP, hK, hD0⟩ := hv
  have hx := B.exec
  have hb := B.bytes
  have hr := B.returns
  have hts := atoms_spec (ws := wf_c_X12_end) B.pre
  have hown : s.vm.findClass RX12 = some m.cls := findClass_of_methodNamed B.named
  have hlocks := B.notSynchronized
  subst hsz
  have hD := hD0.self (sz := s.heap.size)
  generalize hAe : va_A (wd_c_X12_end h0 h0_f0 h0_1 h0_2 h0_3 h0_4 h0_5 h0_f6 h0_f7 h0_f8 h0_f9 h0_f10 h0_f11 h0_f12 h0_f13 h0_f14 h0_15 h0_16 h0_f17 h0_18 h0_19 h0_20 h0_21 h0_22 h0_23 h0_24 h0_25 h0_f26 h0_f27 h0_f28 h0_f29 h0_f30 h0_f31 h0_32 h0_33 h0_f34 h0_35 h0_36 h0_37 h0_38 h0_39 h0_40 h0_f41 h0_f42 h0_f43 h0_f44 h0_45 h0_46 h0_47 h0_48 h0_49 h0_50 h0_f51 h0_52 h0_f53) s.heap.size = A at hD ⊢
  have hA : ∀ q : Nat, s.heap.size ≤ q → A q := fun q h => by rw [← hAe]; exact Or.inr h
  have hP : va_P (dC, dI) vwCl (wd_c_X12_end h0 h0_f0 h0_1 h0_2 h0_3 h0_4 h0_5 h0_f6 h0_f7 h0_f8 h0_f9 h0_f10 h0_f11 h0_f12 h0_f13 h0_f14 h0_15 h0_16 h0_f17 h0_18 h0_19 h0_20 h0_21 h0_22 h0_23 h0_24 h0_25 h0_f26 h0_f27 h0_f28 h0_f29 h0_f30 h0_f31 h0_32 h0_33 h0_f34 h0_35 h0_36 h0_37 h0_38 h0_39 h0_40 h0_f41 h0_f42 h0_f43 h0_f44 h0_45 h0_46 h0_47 h0_48 h0_49 h0_50 h0_f51 h0_52 h0_f53) s.heap := hP
  have hl := lv_entry ([.ref h0, .int p1]) (n := 2) (Nat.le_of_ble_eq_true rfl)
  rw [lg_entry_eq]
  generalize (lg_sl ([.ref h0, .int p1]) ++ List.replicate (2 - (lg_sl ([.ref h0, .int p1])).length) Slot.unset).toArray = ls at hl ⊢
  have hl : lv_has ls 2 [(0, .ref h0), (1, .int p1)] := hl
  obtain ⟨H, hHe⟩ : ∃ H : Heap, s.heap = H := ⟨_, rfl⟩
  have hS : va_S A s.heap H [] := by rw [hHe]; exact va_S.rf
  have hP : va_P (dC, dI) vwCl (wd_c_X12_end h0 h0_f0 h0_1 h0_2 h0_3 h0_4 h0_5 h0_f6 h0_f7 h0_f8 h0_f9 h0_f10 h0_f11 h0_f12 h0_f13 h0_f14 h0_15 h0_16 h0_f17 h0_18 h0_19 h0_20 h0_21 h0_22 h0_23 h0_24 h0_25 h0_f26 h0_f27 h0_f28 h0_f29 h0_f30 h0_f31 h0_32 h0_33 h0_f34 h0_35 h0_36 h0_37 h0_38 h0_39 h0_40 h0_f41 h0_f42 h0_f43 h0_f44 h0_45 h0_46 h0_47 h0_48 h0_49 h0_50 h0_f51 h0_52 h0_f53) H := by rw [← hHe]; exact hP
  rw [hHe]
  obtain ⟨RES, hR⟩ : ∃ z, fx_c_X12_end p1 h0_f6 = z := ⟨_, rfl⟩
  have hEX : RES = fx_c_X12_end p1 h0_f6 := hR.symm
  refine lv_aload_n hx hb dX12_end_0 rfl (lv_at hl 0 rfl) ?_
  as_aux_lemma =>
  refine lv_iconst (v := 0) hx hb dX12_end_1 kc_iconst_0 ?_
  refine va_put (D := (dC, dI)) (ci := 12) (v := .int 0) (ty := .int) (C := RX12) (T := TX12) (N := 54) hx hb hts iw_c_X12_end_X12 tyX12 tyX12_ok nmX12 hown hK hP hD hS 0 rfl rfl 0 (by decide +kernel) (hts (.fieldLink RX12 111 "BuoyVoteModel" "thrown" "I") (List.mem_of_getElem? (i := 1) rfl)) (fun _ h9 => h9) rfl (by decide +kernel) rfl rfl (Nat.le_of_ble_eq_true rfl) dX12_end_2 (fun H locs hP hD hS => ?_)
  have hP : va_P (dC, dI) vwCl (wd_c_X12_end h0 0 h0_1 h0_2 h0_3 h0_4 h0_5 h0_f6 h0_f7 h0_f8 h0_f9 h0_f10 h0_f11 h0_f12 h0_f13 h0_f14 h0_15 h0_16 h0_f17 h0_18 h0_19 h0_20 h0_21 h0_22 h0_23 h0_24 h0_25 h0_f26 h0_f27 h0_f28 h0_f29 h0_f30 h0_f31 h0_32 h0_33 h0_f34 h0_35 h0_36 h0_37 h0_38 h0_39 h0_40 h0_f41 h0_f42 h0_f43 h0_f44 h0_45 h0_46 h0_47 h0_48 h0_49 h0_50 h0_f51 h0_52 h0_f53) H := hP
  have hD : va_D A (wd_c_X12_end h0 0 h0_1 h0_2 h0_3 h0_4 h0_5 h0_f6 h0_f7 h0_f8 h0_f9 h0_f10 h0_f11 h0_f12 h0_f13 h0_f14 h0_15 h0_16 h0_f17 h0_18 h0_19 h0_20 h0_21 h0_22 h0_23 h0_24 h0_25 h0_f26 h0_f27 h0_f28 h0_f29 h0_f30 h0_f31 h0_32 h0_33 h0_f34 h0_35 h0_36 h0_37 h0_38 h0_39 h0_40 h0_f41 h0_f42 h0_f43 h0_f44 h0_45 h0_46 h0_47 h0_48 h0_49 h0_50 h0_f51 h0_52 h0_f53) := hD
  refine lv_iload_n hx hb dX12_end_5 rfl (lv_at hl 1 rfl) ?_
  refine lv_if_lt (tgt := 17) hx hb dX12_end_6 rfl (fun c_1 => ?_) (fun c_1 => ?_)
  · replace hEX := hEX.trans (if_pos c_1)
    have g_2 : RG p1 (-2147483648) (-1) := RG_lt1 (RG_any p1) (RG_k 0 0 rfl) c_1 (by decide +kernel)
    refine lv_iconst (v := 0) hx hb dX12_end_17 kc_iconst_0 ?_
    have hK9 := hK.sub (tys' := []) [] rfl
    exact W.zret (v := 0) hx hb hr rfl (fun t ht hW => ⟨⟨0, h0_f6, rfl, (Or.inl ⟨rfl, g_h0_f6, (RG_w g_2 (by decide +kernel)), (hR.trans hEX).symm⟩), by rw [ht]; exact hP, va_K.moved hW.alike hK9, hD⟩, hS.F ht⟩) hS.2.2 dX12_end_18
  · replace hEX := hEX.trans (if_neg c_1)
    have d_3 := Int32.not_lt.mp c_1
    have g_4 : RG p1 0 2147483647 := RG_le2 (RG_k 0 0 rfl) (RG_any p1) d_3 (by decide +kernel)
    refine lv_iload_n hx hb dX12_end_9 rfl (lv_at hl 1 rfl) ?_
    as_aux_lemma =>
    refine lv_aload_n hx hb dX12_end_10 rfl (lv_at hl 0 rfl) ?_
    refine va_get (D := (dC, dI)) (ci := 12) (v := .int h0_f6) (C := RX12) (T := TX12) (N := 54) hx hb hts iw_c_X12_end_X12 hown hK hP 0 rfl rfl 6 (by decide +kernel) (hts (.fieldLink RX12 124 "BuoyVoteModel" "length" "I") (List.mem_of_getElem? (i := 2) rfl)) (fun _ h9 => h9) rfl dX12_end_11 ?_
    refine lv_icmp_le (tgt := 19) hx hb dX12_end_14 rfl (fun c_5 => ?_) (fun c_5 => ?_)
    · replace hEX := hEX.trans (if_pos c_5)
      have g_6 : RG p1 0 240 := RG_le1 g_4 g_h0_f6 c_5 (by decide +kernel)
      refine lv_aload_n hx hb dX12_end_19 rfl (lv_at hl 0 rfl) ?_
      refine lv_iload_n hx hb dX12_end_20 rfl (lv_at hl 1 rfl) ?_
      refine va_put (D := (dC, dI)) (ci := 12) (v := .int p1) (ty := .int) (C := RX12) (T := TX12) (N := 54) hx hb hts iw_c_X12_end_X12 tyX12 tyX12_ok nmX12 hown hK hP hD hS 0 rfl rfl 6 (by decide +kernel) (hts (.fieldLink RX12 124 "BuoyVoteModel" "length" "I") (List.mem_of_getElem? (i := 2) rfl)) (fun _ h9 => h9) rfl (by decide +kernel) rfl rfl (Nat.le_of_ble_eq_true rfl) dX12_end_21 (fun H locs hP hD hS => ?_)
      have hP : va_P (dC, dI) vwCl (wd_c_X12_end h0 0 h0_1 h0_2 h0_3 h0_4 h0_5 p1 h0_f7 h0_f8 h0_f9 h0_f10 h0_f11 h0_f12 h0_f13 h0_f14 h0_15 h0_16 h0_f17 h0_18 h0_19 h0_20 h0_21 h0_22 h0_23 h0_24 h0_25 h0_f26 h0_f27 h0_f28 h0_f29 h0_f30 h0_f31 h0_32 h0_33 h0_f34 h0_35 h0_36 h0_37 h0_38 h0_39 h0_40 h0_f41 h0_f42 h0_f43 h0_f44 h0_45 h0_46 h0_47 h0_48 h0_49 h0_50 h0_f51 h0_52 h0_f53) H := hP
      have hD : va_D A (wd_c_X12_end h0 0 h0_1 h0_2 h0_3 h0_4 h0_5 p1 h0_f7 h0_f8 h0_f9 h0_f10 h0_f11 h0_f12 h0_f13 h0_f14 h0_15 h0_16 h0_f17 h0_18 h0_19 h0_20 h0_21 h0_22 h0_23 h0_24 h0_25 h0_f26 h0_f27 h0_f28 h0_f29 h0_f30 h0_f31 h0_32 h0_33 h0_f34 h0_35 h0_36 h0_37 h0_38 h0_39 h0_40 h0_f41 h0_f42 h0_f43 h0_f44 h0_45 h0_46 h0_47 h0_48 h0_49 h0_50 h0_f51 h0_52 h0_f53) := hD
      refine lv_iconst (v := 1) hx hb dX12_end_24 kc_iconst_1 ?_
      have hK9 := hK.sub (tys' := []) [] rfl
      exact W.zret (v := 1) hx hb hr rfl (fun t ht hW => ⟨⟨1, p1, rfl, (Or.inr ⟨rfl, g_6, g_6, (hR.trans hEX).symm⟩), by rw [ht]; exact hP, va_K.moved hW.alike hK9, hD⟩, hS.F ht⟩) hS.2.2 dX12_end_25
    · replace hEX := hEX.trans (if_neg c_5)
      have d_7 := Int32.not_le.mp c_5
      have g_8 : RG p1 1 2147483647 := RG_lt2 g_h0_f6 g_4 d_7 (by decide +kernel)
      refine lv_iconst (v := 0) hx hb dX12_end_17 kc_iconst_0 ?_
      as_aux_lemma =>
      have hK9 := hK.sub (tys' := []) [] rfl
      exact W.zret (v := 0) hx hb hr rfl (fun t ht hW => ⟨⟨0, h0_f6, rfl, (Or.inl ⟨rfl, g_h0_f6, (RG_w g_8 (by decide +kernel)), (hR.trans hEX).symm⟩), by rw [ht]; exact hP, va_K.moved hW.alike hK9, hD⟩, hS.F ht⟩) hS.2.2 dX12_end_18
noncomputable def wf_c_X12_isIn : List Cond := .code yX12_isIn cX12_isIn 6 (some .boolean) :: ([])
set_option maxHeartbeats 4000000 in
set_option maxRecDepth 100000 in
theorem c_X12_isIn (l : Launch) (dC : Nat → ClassId) (dI : Nat → Nat → Nat) (sz : Nat) (p0 : Int64) (g_p0 : LG p0 (-2147483648) 2147483647) : Met l yX12_isIn wf_c_X12_isIn ({ frames := 0, cells := 0, slots := 0, locals := 0 }) (va_Pc [.long p0, .long 0, .long 2] (fun U => U.heap.size = sz ∧ va_P (dC, dI) vwCl [] U.heap ∧ va_K (dC, dI) vwCl [] U ∧ va_D (fun _ => True) [])) (va_Qi (fun (r : Int32) (u : Unit) => (r = 0 ∧ r = fx_c_X12_isIn p0) ∨ (r = 1 ∧ LG p0 0 2 ∧ r = fx_c_X12_isIn p0)) (fun (u : Unit) t => va_P (dC, dI) vwCl [] t.heap ∧ va_K (dC, dI) vwCl [] t ∧ va_D (va_A [] sz) []) (va_A [] sz)) 0 0 (va_A [] sz) := by
  refine Met.ofW (cc := cX12_isIn) (maxL := 6) (ret := (some .boolean)) (by decide +kernel) rfl ?_
  intro p e s m args below meth c s₁ B hml hv
  obtain ⟨rfl, hsz, hP, hK, hD0⟩ := hv
  have hx := B.exec
  have hb := B.bytes
  have hr := B.returns
  have hts := atoms_spec (ws := wf_c_X12_isIn) B.pre
  have hown : s.vm.findClass RX12 = some m.cls := findClass_of_methodNamed B.named
  have hlocks := B.notSynchronized
  subst hsz
  have hD := hD0.self (sz := s.heap.size)
  generalize hAe : va_A [] s.heap.size = A at hD ⊢
  have hA : ∀ q : Nat, s.heap.size ≤ q → A q := fun q h => by rw [← hAe]; exact Or.inr h
  have hP : va_P (dC, dI) vwCl [] s.heap := hP
  have hl := lv_entry ([.long p0, .long 0, .long 2]) (n := 6) (Nat.le_of_ble_eq_true rfl)
  rw [lg_entry_eq]
  generalize (lg_sl ([.long p0, .long 0, .long 2]) ++ List.replicate (6 - (lg_sl ([.long p0, .long 0, .long 2])).length) Slot.unset).toArray = ls at hl ⊢
  have hl : lv_has ls 6 [(0, .long p0), (2, .long 0), (4, .long 2)] := hl
  obtain ⟨H, hHe⟩ : ∃ H : Heap, s.heap = H := ⟨_, rfl⟩
  have hS : va_S A s.heap H [] := by rw [hHe]; exact va_S.rf
  have hP : va_P (dC, dI) vwCl [] H := by rw [← hHe]; exact hP
  rw [hHe]
  obtain ⟨RES, hR⟩ : ∃ z, fx_c_X12_isIn p0 = z := ⟨_, rfl⟩
  have hEX : RES = fx_c_X12_isIn p0 := hR.symm
  refine lv_lload_n hx hb dX12_isIn_0 rfl (lv_at hl 0 rfl) ?_
  as_aux_lemma =>
  refine lv_lload_n hx hb dX12_isIn_1 rfl (lv_at hl 1 rfl) ?_
  refine W.lcmp hx hb dX12_isIn_2 ?_
  refine lv_if_lt (tgt := 17) hx hb dX12_isIn_3 rfl (fun c_1 => ?_) (fun c_1 => ?_)
  · replace c_1 := lc_lt_t c_1
    replace hEX := hEX.trans (if_pos c_1)
    have g_2 : LG p0 (-2147483648) (-1) := LG_lt1 g_p0 (LG_k 0 0 rfl) c_1 (by decide +kernel)
    refine lv_iconst (v := 0) hx hb dX12_isIn_17 kc_iconst_0 ?_
    have hK9 := hK.sub (tys' := []) [] rfl
    exact W.zret (v := 0) hx hb hr rfl (fun t ht hW => ⟨⟨0, (), rfl, (Or.inl ⟨rfl, (hR.trans hEX).symm⟩), by rw [ht]; exact hP, va_K.moved hW.alike hK9, hD⟩, hS.F ht⟩) hS.2.2 dX12_isIn_18
  · replace c_1 := lc_lt_f c_1
    replace hEX := hEX.trans (if_neg c_1)
    have d_3 := Int64.not_lt.mp c_1
    have g_4 : LG p0 0 2147483647 := LG_le2 (LG_k 0 0 rfl) g_p0 d_3 (by decide +kernel)
    refine lv_lload_n hx hb dX12_isIn_6 rfl (lv_at hl 0 rfl) ?_
    as_aux_lemma =>
    refine lv_lload hx hb dX12_isIn_7 (lv_at hl 2 rfl) ?_
    refine W.lcmp hx hb dX12_isIn_12 ?_
    refine lv_if_gt (tgt := 17) hx hb dX12_isIn_10 rfl (fun c_5 => ?_) (fun c_5 => ?_)
    · replace c_5 := lc_gt_t c_5
      replace hEX := hEX.trans (if_pos c_5)
      have g_6 : LG p0 3 2147483647 := LG_lt2 (LG_k 2 2 rfl) g_4 c_5 (by decide +kernel)
      refine lv_iconst (v := 0) hx hb dX12_isIn_17 kc_iconst_0 ?_
      have hK9 := hK.sub (tys' := []) [] rfl
      exact W.zret (v := 0) hx hb hr rfl (fun t ht hW => ⟨⟨0, (), rfl, (Or.inl ⟨rfl, (hR.trans hEX).symm⟩), by rw [ht]; exact hP, va_K.moved hW.alike hK9, hD⟩, hS.F ht⟩) hS.2.2 dX12_isIn_18
    · replace c_5 := lc_gt_f c_5
      replace hEX := hEX.trans (if_neg c_5)
      have d_7 := Int64.not_lt.mp c_5
      have g_8 : LG p0 0 2 := LG_le1 g_4 (LG_k 2 2 rfl) d_7 (by decide +kernel)
      refine lv_iconst (v := 1) hx hb dX12_isIn_13 kc_iconst_1 ?_
      as_aux_lemma =>
      refine lv_goto (tgt := 18) hx hb dX12_isIn_14 rfl ?_
      have hK9 := hK.sub (tys' := []) [] rfl
      exact W.zret (v := 1) hx hb hr rfl (fun t ht hW => ⟨⟨1, (), rfl, (Or.inr ⟨rfl, g_8, (hR.trans hEX).symm⟩), by rw [ht]; exact hP, va_K.moved hW.alike hK9, hD⟩, hS.F ht⟩) hS.2.2 dX12_isIn_18
noncomputable def wd_c_X12_starts (a0 : Nat) (a1 : Int32) (a2 : Nat) (a3 : Nat) (a4 : Nat) (a5 : Nat) (a6 : Nat) (a7 : Int32) (a8 : Int32) (a9 : Int32) (a10 : Int32) (a11 : Int32) (a12 : Int32) (a13 : Int32) (a14 : Int32) (a15 : Int32) (a16 : Nat) (a17 : Nat) (a18 : Int32) (a19 : Nat) (a20 : Nat) (a21 : Nat) (a22 : Nat) (a23 : Nat) (a24 : Nat) (a25 : Nat) (a26 : Nat) (a27 : Int32) (a28 : Int32) (a29 : Int32) (a30 : Int32) (a31 : Int32) (a32 : Int32) (a33 : Nat) (a34 : Nat) (a35 : Int32) (a36 : Nat) (a37 : Nat) (a38 : Nat) (a39 : Nat) (a40 : Nat) (a41 : Nat) (a42 : Int32) (a43 : Int64) (a44 : Int32) (a45 : Int32) (a46 : Nat) (a47 : Nat) (a48 : Nat) (a49 : Nat) (a50 : Nat) (a51 : Nat) (a52 : Int32) (a53 : Nat) (a54 : Int32) : va_W := [(a0, .inr (12, [.int a1, .ref a2, .ref a3, .ref a4, .ref a5, .ref a6, .int a7, .int a8, .int a9, .int a10, .int a11, .int a12, .int a13, .int a14, .int a15, .ref a16, .ref a17, .int a18, .ref a19, .ref a20, .ref a21, .ref a22, .ref a23, .ref a24, .ref a25, .ref a26, .int a27, .int a28, .int a29, .int a30, .int a31, .int a32, .ref a33, .ref a34, .int a35, .ref a36, .ref a37, .ref a38, .ref a39, .ref a40, .ref a41, .int a42, .long a43, .int a44, .int a45, .ref a46, .ref a47, .ref a48, .ref a49, .ref a50, .ref a51, .int a52, .ref a53, .int a54]))]
noncomputable def wf_c_X12_starts : List Cond := List.cons (.code yX12_starts cX12_starts 4 none) (@HAppend.hAppend (List Cond) (List Cond) (List Cond) _ [.fieldLink RX12 23 "BuoyVoteModel" "text" "[B", .fieldLink RX12 140 "BuoyVoteModel" "begins" "I", .fieldLink RX12 137 "BuoyVoteModel" "ends" "I", .fieldLink RX12 134 "BuoyVoteModel" "at" "I", .fieldLink RX12 143 "BuoyVoteModel" "fault" "I"] wsX120)
theorem iw_c_X12_starts_X12 : ∀ w ∈ wsX120, w ∈ wf_c_X12_starts := fun w h => List.mem_cons_of_mem _ (List.mem_append_right _ h)
set_option maxHeartbeats 4000000 in
set_option maxRecDepth 100000 in
theorem c_X12_starts (l : Launch) (dC : Nat → ClassId) (dI : Nat → Nat → Nat) (sz : Nat) (h0 : Nat) (h1 : Nat) (p3 : Int32) (h0_f0 : Int32) (h0_1 : Nat) (h0_2 : Nat) (h0_3 : Nat) (h0_4 : Nat) (h0_5 : Nat) (h0_f6 : Int32) (h0_f7 : Int32) (h0_f8 : Int32) (h0_f9 : Int32) (h0_f10 : Int32) (h0_f11 : Int32) (h0_f12 : Int32) (h0_f13 : Int32) (h0_f14 : Int32) (h0_15 : Nat) (h0_16 : Nat) (h0_f17 : Int32) (h0_18 : Nat) (h0_19 : Nat) (h0_20 : Nat) (h0_21 : Nat) (h0_22 : Nat) (h0_23 : Nat) (h0_24 : Nat) (h0_25 : Nat) (h0_f26 : Int32) (h0_f27 : Int32) (h0_f28 : Int32) (h0_f29 : Int32) (h0_f30 : Int32) (h0_f31 : Int32) (h0_32 : Nat) (h0_33 : Nat) (h0_f34 : Int32) (h0_35 : Nat) (h0_36 : Nat) (h0_37 : Nat) (h0_38 : Nat) (h0_39 : Nat) (h0_40 : Nat) (h0_f41 : Int32) (h0_f42 : Int64) (h0_f43 : Int32) (h0_f44 : Int32) (h0_45 : Nat) (h0_46 : Nat) (h0_47 : Nat) (h0_48 : Nat) (h0_49 : Nat) (h0_50 : Nat) (h0_f51 : Int32) (h0_52 : Nat) (h0_f53 : Int32) (g_p3 : RG p3 0 240) (g_h0_f6 : RG h0_f6 0 240) (g_h0_f7 : RG h0_f7 0 4) (g_h0_f8 : RG h0_f8 0 720) (g_h0_f9 : RG h0_f9 0 240) (g_h0_f10 : RG h0_f10 0 240) (g_h0_f11 : RG h0_f11 (-1) 240) (g_h0_f17 : RG h0_f17 0 1) (g_h0_f26 : RG h0_f26 0 8) (g_h0_f27 : RG h0_f27 0 3) (g_h0_f28 : RG h0_f28 0 8) (g_h0_f29 : RG h0_f29 0 3) (g_h0_f30 : RG h0_f30 0 4) (g_h0_f31 : RG h0_f31 0 1) (g_h0_f34 : RG h0_f34 (-1) 3) (g_h0_f41 : RG h0_f41 0 40) (g_h0_f51 : RG h0_f51 0 10) (g_h0_f53 : RG h0_f53 0 1) : Met l yX12_starts wf_c_X12_starts ({ frames := 0, cells := 0, slots := 0, locals := 0 }) (va_Pc [.ref h0, .ref h1, .int 0, .int p3] (fun U => U.heap.size = sz ∧ va_P (dC, dI) vwCl (wd_c_X12_starts h0 h0_f0 h0_1 h0_2 h0_3 h0_4 h0_5 h0_f6 h0_f7 h0_f8 h0_f9 h0_f10 h0_f11 h0_f12 h0_f13 h0_f14 h0_15 h0_16 h0_f17 h0_18 h0_19 h0_20 h0_21 h0_22 h0_23 h0_24 h0_25 h0_f26 h0_f27 h0_f28 h0_f29 h0_f30 h0_f31 h0_32 h0_33 h0_f34 h0_35 h0_36 h0_37 h0_38 h0_39 h0_40 h0_f41 h0_f42 h0_f43 h0_f44 h0_45 h0_46 h0_47 h0_48 h0_49 h0_50 h0_f51 h0_52 h0_f53) U.heap ∧ va_K (dC, dI) vwCl [] U ∧ va_D (fun _ => True) (wd_c_X12_starts h0 h0_f0 h0_1 h0_2 h0_3 h0_4 h0_5 h0_f6 h0_f7 h0_f8 h0_f9 h0_f10 h0_f11 h0_f12 h0_f13 h0_f14 h0_15 h0_16 h0_f17 h0_18 h0_19 h0_20 h0_21 h0_22 h0_23 h0_24 h0_25 h0_f26 h0_f27 h0_f28 h0_f29 h0_f30 h0_f31 h0_32 h0_33 h0_f34 h0_35 h0_36 h0_37 h0_38 h0_39 h0_40 h0_f41 h0_f42 h0_f43 h0_f44 h0_45 h0_46 h0_47 h0_48 h0_49 h0_50 h0_f51 h0_52 h0_f53))) (va_Qv (fun (u : Unit) => (True)) (fun (u : Unit) t => va_P (dC, dI) vwCl (wd_c_X12_starts h0 h0_f0 h0_1 h0_2 h0_3 h0_4 h1 h0_f6 h0_f7 0 p3 0 (-1) h0_f12 h0_f13 h0_f14 h0_15 h0_16 h0_f17 h0_18 h0_19 h0_20 h0_21 h0_22 h0_23 h0_24 h0_25 h0_f26 h0_f27 h0_f28 h0_f29 h0_f30 h0_f31 h0_32 h0_33 h0_f34 h0_35 h0_36 h0_37 h0_38 h0_39 h0_40 h0_f41 h0_f42 h0_f43 h0_f44 h0_45 h0_46 h0_47 h0_48 h0_49 h0_50 h0_f51 h0_52 h0_f53) t.heap ∧ va_K (dC, dI) vwCl [] t ∧ va_D (va_A (wd_c_X12_starts h0 h0_f0 h0_1 h0_2 h0_3 h0_4 h0_5 h0_f6 h0_f7 h0_f8 h0_f9 h0_f10 h0_f11 h0_f12 h0_f13 h0_f14 h0_15 h0_16 h0_f17 h0_18 h0_19 h0_20 h0_21 h0_22 h0_23 h0_24 h0_25 h0_f26 h0_f27 h0_f28 h0_f29 h0_f30 h0_f31 h0_32 h0_33 h0_f34 h0_35 h0_36 h0_37 h0_38 h0_39 h0_40 h0_f41 h0_f42 h0_f43 h0_f44 h0_45 h0_46 h0_47 h0_48 h0_49 h0_50 h0_f51 h0_52 h0_f53) sz) (wd_c_X12_starts h0 h0_f0 h0_1 h0_2 h0_3 h0_4 h1 h0_f6 h0_f7 0 p3 0 (-1) h0_f12 h0_f13 h0_f14 h0_15 h0_16 h0_f17 h0_18 h0_19 h0_20 h0_21 h0_22 h0_23 h0_24 h0_25 h0_f26 h0_f27 h0_f28 h0_f29 h0_f30 h0_f31 h0_32 h0_33 h0_f34 h0_35 h0_36 h0_37 h0_38 h0_39 h0_40 h0_f41 h0_f42 h0_f43 h0_f44 h0_45 h0_46 h0_47 h0_48 h0_49 h0_50 h0_f51 h0_52 h0_f53)) (va_A (wd_c_X12_starts h0 h0_f0 h0_1 h0_2 h0_3 h0_4 h0_5 h0_f6 h0_f7 h0_f8 h0_f9 h0_f10 h0_f11 h0_f12 h0_f13 h0_f14 h0_15 h0_16 h0_f17 h0_18 h0_19 h0_20 h0_21 h0_22 h0_23 h0_24 h0_25 h0_f26 h0_f27 h0_f28 h0_f29 h0_f30 h0_f31 h0_32 h0_33 h0_f34 h0_35 h0_36 h0_37 h0_38 h0_39 h0_40 h0_f41 h0_f42 h0_f43 h0_f44 h0_45 h0_46 h0_47 h0_48 h0_49 h0_50 h0_f51 h0_52 h0_f53) sz)) 0 0 (va_A (wd_c_X12_starts h0 h0_f0 h0_1 h0_2 h0_3 h0_4 h0_5 h0_f6 h0_f7 h0_f8 h0_f9 h0_f10 h0_f11 h0_f12 h0_f13 h0_f14 h0_15 h0_16 h0_f17 h0_18 h0_19 h0_20 h0_21 h0_22 h0_23 h0_24 h0_25 h0_f26 h0_f27 h0_f28 h0_f29 h0_f30 h0_f31 h0_32 h0_33 h0_f34 h0_35 h0_36 h0_37 h0_38 h0_39 h0_40 h0_f41 h0_f42 h0_f43 h0_f44 h0_45 h0_46 h0_47 h0_48 h0_49 h0_50 h0_f51 h0_52 h0_f53) sz) := by
  refine Met.ofW (cc := cX12_starts) (maxL := 4) (ret := none) (by decide +kernel) rfl ?_
  intro p e s m args below meth c s₁ B hml hv
  obtain ⟨rfl, hsz, hP, hK, hD0⟩ := hv
  have hx := B.exec
  have hb := B.bytes
  have hr := B.returns
  have hts := atoms_spec (ws := wf_c_X12_starts) B.pre
  have hown : s.vm.findClass RX12 = some m.cls := findClass_of_methodNamed B.named
  have hlocks := B.notSynchronized
  subst hsz
  have hD := hD0.self (sz := s.heap.size)
  generalize hAe : va_A (wd_c_X12_starts h0 h0_f0 h0_1 h0_2 h0_3 h0_4 h0_5 h0_f6 h0_f7 h0_f8 h0_f9 h0_f10 h0_f11 h0_f12 h0_f13 h0_f14 h0_15 h0_16 h0_f17 h0_18 h0_19 h0_20 h0_21 h0_22 h0_23 h0_24 h0_25 h0_f26 h0_f27 h0_f28 h0_f29 h0_f30 h0_f31 h0_32 h0_33 h0_f34 h0_35 h0_36 h0_37 h0_38 h0_39 h0_40 h0_f41 h0_f42 h0_f43 h0_f44 h0_45 h0_46 h0_47 h0_48 h0_49 h0_50 h0_f51 h0_52 h0_f53) s.heap.size = A at hD ⊢
  have hA : ∀ q : Nat, s.heap.size ≤ q → A q := fun q h => by rw [← hAe]; exact Or.inr h
  have hP : va_P (dC, dI) vwCl (wd_c_X12_starts h0 h0_f0 h0_1 h0_2 h0_3 h0_4 h0_5 h0_f6 h0_f7 h0_f8 h0_f9 h0_f10 h0_f11 h0_f12 h0_f13 h0_f14 h0_15 h0_16 h0_f17 h0_18 h0_19 h0_20 h0_21 h0_22 h0_23 h0_24 h0_25 h0_f26 h0_f27 h0_f28 h0_f29 h0_f30 h0_f31 h0_32 h0_33 h0_f34 h0_35 h0_36 h0_37 h0_38 h0_39 h0_40 h0_f41 h0_f42 h0_f43 h0_f44 h0_45 h0_46 h0_47 h0_48 h0_49 h0_50 h0_f51 h0_52 h0_f53) s.heap := hP
  have hl := lv_entry ([.ref h0, .ref h1, .int 0, .int p3]) (n := 4) (Nat.le_of_ble_eq_true rfl)
  rw [lg_entry_eq]
  generalize (lg_sl ([.ref h0, .ref h1, .int 0, .int p3]) ++ List.replicate (4 - (lg_sl ([.ref h0, .ref h1, .int 0, .int p3])).length) Slot.unset).toArray = ls at hl ⊢
  have hl : lv_has ls 4 [(0, .ref h0), (1, .ref h1), (2, .int 0), (3, .int p3)] := hl
  obtain ⟨H, hHe⟩ : ∃ H : Heap, s.heap = H := ⟨_, rfl⟩
  have hS : va_S A s.heap H [] := by rw [hHe]; exact va_S.rf
  have hP : va_P (dC, dI) vwCl (wd_c_X12_starts h0 h0_f0 h0_1 h0_2 h0_3 h0_4 h0_5 h0_f6 h0_f7 h0_f8 h0_f9 h0_f10 h0_f11 h0_f12 h0_f13 h0_f14 h0_15 h0_16 h0_f17 h0_18 h0_19 h0_20 h0_21 h0_22 h0_23 h0_24 h0_25 h0_f26 h0_f27 h0_f28 h0_f29 h0_f30 h0_f31 h0_32 h0_33 h0_f34 h0_35 h0_36 h0_37 h0_38 h0_39 h0_40 h0_f41 h0_f42 h0_f43 h0_f44 h0_45 h0_46 h0_47 h0_48 h0_49 h0_50 h0_f51 h0_52 h0_f53) H := by rw [← hHe]; exact hP
  rw [hHe]
  refine lv_aload_n hx hb dX12_starts_0 rfl (lv_at hl 0 rfl) ?_
  as_aux_lemma =>
  refine lv_aload_n hx hb dX12_starts_1 rfl (lv_at hl 1 rfl) ?_
  refine va_put (D := (dC, dI)) (ci := 12) (v := .ref h1) (ty := (.array .byte)) (C := RX12) (T := TX12) (N := 54) hx hb hts iw_c_X12_starts_X12 tyX12 tyX12_ok nmX12 hown hK hP hD hS 0 rfl rfl 5 (by decide +kernel) (hts (.fieldLink RX12 23 "BuoyVoteModel" "text" "[B") (List.mem_of_getElem? (i := 1) rfl)) (fun _ h9 => h9) rfl (by decide +kernel) rfl rfl (Nat.le_of_ble_eq_true rfl) dX12_starts_2 (fun H locs hP hD hS => ?_)
  have hP : va_P (dC, dI) vwCl (wd_c_X12_starts h0 h0_f0 h0_1 h0_2 h0_3 h0_4 h1 h0_f6 h0_f7 h0_f8 h0_f9 h0_f10 h0_f11 h0_f12 h0_f13 h0_f14 h0_15 h0_16 h0_f17 h0_18 h0_19 h0_20 h0_21 h0_22 h0_23 h0_24 h0_25 h0_f26 h0_f27 h0_f28 h0_f29 h0_f30 h0_f31 h0_32 h0_33 h0_f34 h0_35 h0_36 h0_37 h0_38 h0_39 h0_40 h0_f41 h0_f42 h0_f43 h0_f44 h0_45 h0_46 h0_47 h0_48 h0_49 h0_50 h0_f51 h0_52 h0_f53) H := hP
  have hD : va_D A (wd_c_X12_starts h0 h0_f0 h0_1 h0_2 h0_3 h0_4 h1 h0_f6 h0_f7 h0_f8 h0_f9 h0_f10 h0_f11 h0_f12 h0_f13 h0_f14 h0_15 h0_16 h0_f17 h0_18 h0_19 h0_20 h0_21 h0_22 h0_23 h0_24 h0_25 h0_f26 h0_f27 h0_f28 h0_f29 h0_f30 h0_f31 h0_32 h0_33 h0_f34 h0_35 h0_36 h0_37 h0_38 h0_39 h0_40 h0_f41 h0_f42 h0_f43 h0_f44 h0_45 h0_46 h0_47 h0_48 h0_49 h0_50 h0_f51 h0_52 h0_f53) := hD
  refine lv_aload_n hx hb dX12_starts_5 rfl (lv_at hl 0 rfl) ?_
  refine lv_iload_n hx hb dX12_starts_6 rfl (lv_at hl 2 rfl) ?_
  refine va_put (D := (dC, dI)) (ci := 12) (v := .int 0) (ty := .int) (C := RX12) (T := TX12) (N := 54) hx hb hts iw_c_X12_starts_X12 tyX12 tyX12_ok nmX12 hown hK hP hD hS 0 rfl rfl 8 (by decide +kernel) (hts (.fieldLink RX12 140 "BuoyVoteModel" "begins" "I") (List.mem_of_getElem? (i := 2) rfl)) (fun _ h9 => h9) rfl (by decide +kernel) rfl rfl (Nat.le_of_ble_eq_true rfl) dX12_starts_7 (fun H locs hP hD hS => ?_)
  have hP : va_P (dC, dI) vwCl (wd_c_X12_starts h0 h0_f0 h0_1 h0_2 h0_3 h0_4 h1 h0_f6 h0_f7 0 h0_f9 h0_f10 h0_f11 h0_f12 h0_f13 h0_f14 h0_15 h0_16 h0_f17 h0_18 h0_19 h0_20 h0_21 h0_22 h0_23 h0_24 h0_25 h0_f26 h0_f27 h0_f28 h0_f29 h0_f30 h0_f31 h0_32 h0_33 h0_f34 h0_35 h0_36 h0_37 h0_38 h0_39 h0_40 h0_f41 h0_f42 h0_f43 h0_f44 h0_45 h0_46 h0_47 h0_48 h0_49 h0_50 h0_f51 h0_52 h0_f53) H := hP
  have hD : va_D A (wd_c_X12_starts h0 h0_f0 h0_1 h0_2 h0_3 h0_4 h1 h0_f6 h0_f7 0 h0_f9 h0_f10 h0_f11 h0_f12 h0_f13 h0_f14 h0_15 h0_16 h0_f17 h0_18 h0_19 h0_20 h0_21 h0_22 h0_23 h0_24 h0_25 h0_f26 h0_f27 h0_f28 h0_f29 h0_f30 h0_f31 h0_32 h0_33 h0_f34 h0_35 h0_36 h0_37 h0_38 h0_39 h0_40 h0_f41 h0_f42 h0_f43 h0_f44 h0_45 h0_46 h0_47 h0_48 h0_49 h0_50 h0_f51 h0_52 h0_f53) := hD
  refine lv_aload_n hx hb dX12_starts_10 rfl (lv_at hl 0 rfl) ?_
  refine lv_iload_n hx hb dX12_starts_11 rfl (lv_at hl 3 rfl) ?_
  refine va_put (D := (dC, dI)) (ci := 12) (v := .int p3) (ty := .int) (C := RX12) (T := TX12) (N := 54) hx hb hts iw_c_X12_starts_X12 tyX12 tyX12_ok nmX12 hown hK hP hD hS 0 rfl rfl 9 (by decide +kernel) (hts (.fieldLink RX12 137 "BuoyVoteModel" "ends" "I") (List.mem_of_getElem? (i := 3) rfl)) (fun _ h9 => h9) rfl (by decide +kernel) rfl rfl (Nat.le_of_ble_eq_true rfl) dX12_starts_12 (fun H locs hP hD hS => ?_)
  have hP : va_P (dC, dI) vwCl (wd_c_X12_starts h0 h0_f0 h0_1 h0_2 h0_3 h0_4 h1 h0_f6 h0_f7 0 p3 h0_f10 h0_f11 h0_f12 h0_f13 h0_f14 h0_15 h0_16 h0_f17 h0_18 h0_19 h0_20 h0_21 h0_22 h0_23 h0_24 h0_25 h0_f26 h0_f27 h0_f28 h0_f29 h0_f30 h0_f31 h0_32 h0_33 h0_f34 h0_35 h0_36 h0_37 h0_38 h0_39 h0_40 h0_f41 h0_f42 h0_f43 h0_f44 h0_45 h0_46 h0_47 h0_48 h0_49 h0_50 h0_f51 h0_52 h0_f53) H := hP
  have hD : va_D A (wd_c_X12_starts h0 h0_f0 h0_1 h0_2 h0_3 h0_4 h1 h0_f6 h0_f7 0 p3 h0_f10 h0_f11 h0_f12 h0_f13 h0_f14 h0_15 h0_16 h0_f17 h0_18 h0_19 h0_20 h0_21 h0_22 h0_23 h0_24 h0_25 h0_f26 h0_f27 h0_f28 h0_f29 h0_f30 h0_f31 h0_32 h0_33 h0_f34 h0_35 h0_36 h0_37 h0_38 h0_39 h0_40 h0_f41 h0_f42 h0_f43 h0_f44 h0_45 h0_46 h0_47 h0_48 h0_49 h0_50 h0_f51 h0_52 h0_f53) := hD
  refine lv_aload_n hx hb dX12_starts_15 rfl (lv_at hl 0 rfl) ?_
  as_aux_lemma =>
  refine lv_iconst (v := 0) hx hb dX12_starts_16 kc_iconst_0 ?_
  refine va_put (D := (dC, dI)) (ci := 12) (v := .int 0) (ty := .int) (C := RX12) (T := TX12) (N := 54) hx hb hts iw_c_X12_starts_X12 tyX12 tyX12_ok nmX12 hown hK hP hD hS 0 rfl rfl 10 (by decide +kernel) (hts (.fieldLink RX12 134 "BuoyVoteModel" "at" "I") (List.mem_of_getElem? (i := 4) rfl)) (fun _ h9 => h9) rfl (by decide +kernel) rfl rfl (Nat.le_of_ble_eq_true rfl) dX12_starts_17 (fun H locs hP hD hS => ?_)
  have hP : va_P (dC, dI) vwCl (wd_c_X12_starts h0 h0_f0 h0_1 h0_2 h0_3 h0_4 h1 h0_f6 h0_f7 0 p3 0 h0_f11 h0_f12 h0_f13 h0_f14 h0_15 h0_16 h0_f17 h0_18 h0_19 h0_20 h0_21 h0_22 h0_23 h0_24 h0_25 h0_f26 h0_f27 h0_f28 h0_f29 h0_f30 h0_f31 h0_32 h0_33 h0_f34 h0_35 h0_36 h0_37 h0_38 h0_39 h0_40 h0_f41 h0_f42 h0_f43 h0_f44 h0_45 h0_46 h0_47 h0_48 h0_49 h0_50 h0_f51 h0_52 h0_f53) H := hP
  have hD : va_D A (wd_c_X12_starts h0 h0_f0 h0_1 h0_2 h0_3 h0_4 h1 h0_f6 h0_f7 0 p3 0 h0_f11 h0_f12 h0_f13 h0_f14 h0_15 h0_16 h0_f17 h0_18 h0_19 h0_20 h0_21 h0_22 h0_23 h0_24 h0_25 h0_f26 h0_f27 h0_f28 h0_f29 h0_f30 h0_f31 h0_32 h0_33 h0_f34 h0_35 h0_36 h0_37 h0_38 h0_39 h0_40 h0_f41 h0_f42 h0_f43 h0_f44 h0_45 h0_46 h0_47 h0_48 h0_49 h0_50 h0_f51 h0_52 h0_f53) := hD
  refine lv_aload_n hx hb dX12_starts_20 rfl (lv_at hl 0 rfl) ?_
  refine lv_iconst (v := (-1)) hx hb dX12_starts_21 kc_iconst_m1 ?_
  refine va_put (D := (dC, dI)) (ci := 12) (v := .int (-1)) (ty := .int) (C := RX12) (T := TX12) (N := 54) hx hb hts iw_c_X12_starts_X12 tyX12 tyX12_ok nmX12 hown hK hP hD hS 0 rfl rfl 11 (by decide +kernel) (hts (.fieldLink RX12 143 "BuoyVoteModel" "fault" "I") (List.mem_of_getElem? (i := 5) rfl)) (fun _ h9 => h9) rfl (by decide +kernel) rfl rfl (Nat.le_of_ble_eq_true rfl) dX12_starts_22 (fun H locs hP hD hS => ?_)
  have hP : va_P (dC, dI) vwCl (wd_c_X12_starts h0 h0_f0 h0_1 h0_2 h0_3 h0_4 h1 h0_f6 h0_f7 0 p3 0 (-1) h0_f12 h0_f13 h0_f14 h0_15 h0_16 h0_f17 h0_18 h0_19 h0_20 h0_21 h0_22 h0_23 h0_24 h0_25 h0_f26 h0_f27 h0_f28 h0_f29 h0_f30 h0_f31 h0_32 h0_33 h0_f34 h0_35 h0_36 h0_37 h0_38 h0_39 h0_40 h0_f41 h0_f42 h0_f43 h0_f44 h0_45 h0_46 h0_47 h0_48 h0_49 h0_50 h0_f51 h0_52 h0_f53) H := hP
  have hD : va_D A (wd_c_X12_starts h0 h0_f0 h0_1 h0_2 h0_3 h0_4 h1 h0_f6 h0_f7 0 p3 0 (-1) h0_f12 h0_f13 h0_f14 h0_15 h0_16 h0_f17 h0_18 h0_19 h0_20 h0_21 h0_22 h0_23 h0_24 h0_25 h0_f26 h0_f27 h0_f28 h0_f29 h0_f30 h0_f31 h0_32 h0_33 h0_f34 h0_35 h0_36 h0_37 h0_38 h0_39 h0_40 h0_f41 h0_f42 h0_f43 h0_f44 h0_45 h0_46 h0_47 h0_48 h0_49 h0_50 h0_f51 h0_52 h0_f53) := hD
  have hK9 := hK.sub (tys' := []) [] rfl
  exact W.vret hx hb hr (fun t ht hW => ⟨⟨(), rfl, trivial, by rw [ht]; exact hP, va_K.moved hW.alike hK9, hD⟩, hS.F ht⟩) hS.2.2 dX12_starts_25
noncomputable def wf_c_X12_usual : List Cond := .code yX12_usual cX12_usual 2 (some .int) :: ([])
set_option maxHeartbeats 4000000 in
set_option maxRecDepth 100000 in
theorem c_X12_usual (l : Launch) (dC : Nat → ClassId) (dI : Nat → Nat → Nat) (sz : Nat) (p1 : Int32) (g_p1 : RG p1 0 0) : Met l yX12_usual wf_c_X12_usual ({ frames := 0, cells := 0, slots := 0, locals := 0 }) (va_Pc [.int 115, .int p1] (fun U => U.heap.size = sz ∧ va_P (dC, dI) vwCl [] U.heap ∧ va_K (dC, dI) vwCl [] U ∧ va_D (fun _ => True) [])) (va_Qi (fun (r : Int32) (u : Unit) => (r = 2 ∧ r = fx_c_X12_usual p1)) (fun (u : Unit) t => va_P (dC, dI) vwCl [] t.heap ∧ va_K (dC, dI) vwCl [] t ∧ va_D (va_A [] sz) []) (va_A [] sz)) 0 0 (va_A [] sz) := by
  refine Met.ofW (cc := cX12_usual) (maxL := 2) (ret := (some .int)) (by decide +kernel) rfl ?_
  intro p e s m args below meth c s₁ B hml hv
  obtain ⟨rfl, hsz, hP, hK, hD0⟩ := hv
  have hx := B.exec
  have hb := B.bytes
  have hr := B.returns
  have hts := atoms_spec (ws := wf_c_X12_usual) B.pre
  have hown : s.vm.findClass RX12 = some m.cls := findClass_of_methodNamed B.named
  have hlocks := B.notSynchronized
  subst hsz
  have hD := hD0.self (sz := s.heap.size)
  generalize hAe : va_A [] s.heap.size = A at hD ⊢
  have hA : ∀ q : Nat, s.heap.size ≤ q → A q := fun q h => by rw [← hAe]; exact Or.inr h
  have hP : va_P (dC, dI) vwCl [] s.heap := hP
  have hl := lv_entry ([.int 115, .int p1]) (n := 2) (Nat.le_of_ble_eq_true rfl)
  rw [lg_entry_eq]
  generalize (lg_sl ([.int 115, .int p1]) ++ List.replicate (2 - (lg_sl ([.int 115, .int p1])).length) Slot.unset).toArray = ls at hl ⊢
  have hl : lv_has ls 2 [(0, .int 115), (1, .int p1)] := hl
  obtain ⟨H, hHe⟩ : ∃ H : Heap, s.heap = H := ⟨_, rfl⟩
  have hS : va_S A s.heap H [] := by rw [hHe]; exact va_S.rf
  have hP : va_P (dC, dI) vwCl [] H := by rw [← hHe]; exact hP
  rw [hHe]
  obtain ⟨RES, hR⟩ : ∃ z, fx_c_X12_usual p1 = z := ⟨_, rfl⟩
  have hEX : RES = fx_c_X12_usual p1 := hR.symm
  refine lv_iload_n hx hb dX12_usual_0 rfl (lv_at hl 0 rfl) ?_
  as_aux_lemma =>
  refine lv_bipush (v := 115) hx hb dX12_usual_1 kc_bipush_115 ?_
  refine lv_icmp_ne (tgt := 36) hx hb dX12_usual_3 rfl (fun c_1 => absurd c_1 (by decide +kernel)) (fun c_1 => ?_)
  refine lv_iload_n hx hb dX12_usual_6 rfl (lv_at hl 1 rfl) ?_
  refine lv_if_ne (tgt := 14) hx hb dX12_usual_7 rfl (fun c_2 => ?_) (fun c_2 => ?_)
  · replace hEX := hEX.trans (if_neg c_2)
    exact RG_dead (RG_ne1 g_p1 (q := 0) rfl c_2 (a' := 1) (b' := 0) (by decide +kernel)) (by decide +kernel)
  · replace hEX := hEX.trans (if_pos c_2)
    refine lv_iconst (v := 2) hx hb dX12_usual_10 kc_iconst_2 ?_
    refine lv_goto (tgt := 35) hx hb dX12_usual_11 rfl ?_
    have hK9 := hK.sub (tys' := []) [] rfl
    exact W.iret (v := 2) hx hb hr (fun t ht hW => ⟨⟨2, (), rfl, ⟨rfl, (hR.trans hEX).symm⟩, by rw [ht]; exact hP, va_K.moved hW.alike hK9, hD⟩, hS.F ht⟩) hS.2.2 dX12_usual_35
noncomputable def wf_c_X12_usual_1 : List Cond := .code yX12_usual cX12_usual 2 (some .int) :: ([])
set_option maxHeartbeats 4000000 in
set_option maxRecDepth 100000 in
theorem c_X12_usual_1 (l : Launch) (dC : Nat → ClassId) (dI : Nat → Nat → Nat) (sz : Nat) (p1 : Int32) (g_p1 : RG p1 0 1) : Met l yX12_usual wf_c_X12_usual_1 ({ frames := 0, cells := 0, slots := 0, locals := 0 }) (va_Pc [.int 115, .int p1] (fun U => U.heap.size = sz ∧ va_P (dC, dI) vwCl [] U.heap ∧ va_K (dC, dI) vwCl [] U ∧ va_D (fun _ => True) [])) (va_Qi (fun (r : Int32) (u : Unit) => (r = 0 ∧ RG p1 1 1 ∧ r = fx_c_X12_usual_1 p1) ∨ (r = 2 ∧ RG p1 0 0 ∧ r = fx_c_X12_usual_1 p1)) (fun (u : Unit) t => va_P (dC, dI) vwCl [] t.heap ∧ va_K (dC, dI) vwCl [] t ∧ va_D (va_A [] sz) []) (va_A [] sz)) 0 0 (va_A [] sz) := by
  refine Met.ofW (cc := cX12_usual) (maxL := 2) (ret := (some .int)) (by decide +kernel) rfl ?_
  intro p e s m args below meth c s₁ B hml hv
  obtain ⟨rfl, hsz, hP, hK, hD0⟩ := hv
  have hx := B.exec
  have hb := B.bytes
  have hr := B.returns
  have hts := atoms_spec (ws := wf_c_X12_usual_1) B.pre
  have hown : s.vm.findClass RX12 = some m.cls := findClass_of_methodNamed B.named
  have hlocks := B.notSynchronized
  subst hsz
  have hD := hD0.self (sz := s.heap.size)
  generalize hAe : va_A [] s.heap.size = A at hD ⊢
  have hA : ∀ q : Nat, s.heap.size ≤ q → A q := fun q h => by rw [← hAe]; exact Or.inr h
  have hP : va_P (dC, dI) vwCl [] s.heap := hP
  have hl := lv_entry ([.int 115, .int p1]) (n := 2) (Nat.le_of_ble_eq_true rfl)
  rw [lg_entry_eq]
  generalize (lg_sl ([.int 115, .int p1]) ++ List.replicate (2 - (lg_sl ([.int 115, .int p1])).length) Slot.unset).toArray = ls at hl ⊢
  have hl : lv_has ls 2 [(0, .int 115), (1, .int p1)] := hl
  obtain ⟨H, hHe⟩ : ∃ H : Heap, s.heap = H := ⟨_, rfl⟩
  have hS : va_S A s.heap H [] := by rw [hHe]; exact va_S.rf
  have hP : va_P (dC, dI) vwCl [] H := by rw [← hHe]; exact hP
  rw [hHe]
  obtain ⟨RES, hR⟩ : ∃ z, fx_c_X12_usual_1 p1 = z := ⟨_, rfl⟩
  have hEX : RES = fx_c_X12_usual_1 p1 := hR.symm
  refine lv_iload_n hx hb dX12_usual_0 rfl (lv_at hl 0 rfl) ?_
  as_aux_lemma =>
  refine lv_bipush (v := 115) hx hb dX12_usual_1 kc_bipush_115 ?_
  refine lv_icmp_ne (tgt := 36) hx hb dX12_usual_3 rfl (fun c_1 => absurd c_1 (by decide +kernel)) (fun c_1 => ?_)
  refine lv_iload_n hx hb dX12_usual_6 rfl (lv_at hl 1 rfl) ?_
  refine lv_if_ne (tgt := 14) hx hb dX12_usual_7 rfl (fun c_2 => ?_) (fun c_2 => ?_)
  · replace hEX := hEX.trans (if_neg c_2)
    have g_3 : RG p1 1 1 := RG_ne1 g_p1 (q := 0) rfl c_2 (by decide +kernel)
    refine lv_iload_n hx hb dX12_usual_14 rfl (lv_at hl 1 rfl) ?_
    refine lv_iconst (v := 1) hx hb dX12_usual_15 kc_iconst_1 ?_
    refine lv_icmp_ne (tgt := 23) hx hb dX12_usual_16 rfl (fun c_4 => ?_) (fun c_4 => ?_)
    · replace hEX := hEX.trans (if_neg c_4)
      exact RG_dead (RG_ne1 g_3 (q := 1) rfl c_4 (a' := 2) (b' := 1) (by decide +kernel)) (by decide +kernel)
    · replace hEX := hEX.trans (if_pos c_4)
      refine lv_iconst (v := 0) hx hb dX12_usual_19 kc_iconst_0 ?_
      refine lv_goto (tgt := 35) hx hb dX12_usual_20 rfl ?_
      as_aux_lemma =>
      have hK9 := hK.sub (tys' := []) [] rfl
      exact W.iret (v := 0) hx hb hr (fun t ht hW => ⟨⟨0, (), rfl, (Or.inl ⟨rfl, g_3, (hR.trans hEX).symm⟩), by rw [ht]; exact hP, va_K.moved hW.alike hK9, hD⟩, hS.F ht⟩) hS.2.2 dX12_usual_35
  · replace hEX := hEX.trans (if_pos c_2)
    have g_5 : RG p1 0 0 := RG_eq1 g_p1 (RG_k 0 0 rfl) c_2 (by decide +kernel)
    refine lv_iconst (v := 2) hx hb dX12_usual_10 kc_iconst_2 ?_
    refine lv_goto (tgt := 35) hx hb dX12_usual_11 rfl ?_
    have hK9 := hK.sub (tys' := []) [] rfl
    exact W.iret (v := 2) hx hb hr (fun t ht hW => ⟨⟨2, (), rfl, (Or.inr ⟨rfl, g_5, (hR.trans hEX).symm⟩), by rw [ht]; exact hP, va_K.moved hW.alike hK9, hD⟩, hS.F ht⟩) hS.2.2 dX12_usual_35
noncomputable def wf_c_X12_usual_2 : List Cond := .code yX12_usual cX12_usual 2 (some .int) :: ([])
set_option maxHeartbeats 4000000 in
set_option maxRecDepth 100000 in
theorem c_X12_usual_2 (l : Launch) (dC : Nat → ClassId) (dI : Nat → Nat → Nat) (sz : Nat) (p1 : Int32) (g_p1 : RG p1 0 2) : Met l yX12_usual wf_c_X12_usual_2 ({ frames := 0, cells := 0, slots := 0, locals := 0 }) (va_Pc [.int 115, .int p1] (fun U => U.heap.size = sz ∧ va_P (dC, dI) vwCl [] U.heap ∧ va_K (dC, dI) vwCl [] U ∧ va_D (fun _ => True) [])) (va_Qi (fun (r : Int32) (u : Unit) => (r = 6 ∧ RG p1 2 2 ∧ r = fx_c_X12_usual_2 p1) ∨ (r = 0 ∧ RG p1 1 1 ∧ r = fx_c_X12_usual_2 p1) ∨ (r = 2 ∧ RG p1 0 0 ∧ r = fx_c_X12_usual_2 p1)) (fun (u : Unit) t => va_P (dC, dI) vwCl [] t.heap ∧ va_K (dC, dI) vwCl [] t ∧ va_D (va_A [] sz) []) (va_A [] sz)) 0 0 (va_A [] sz) := by
  refine Met.ofW (cc := cX12_usual) (maxL := 2) (ret := (some .int)) (by decide +kernel) rfl ?_
  intro p e s m args below meth c s₁ B hml hv
  obtain ⟨rfl, hsz, hP, hK, hD0⟩ := hv
  have hx := B.exec
  have hb := B.bytes
  have hr := B.returns
  have hts := atoms_spec (ws := wf_c_X12_usual_2) B.pre
  have hown : s.vm.findClass RX12 = some m.cls := findClass_of_methodNamed B.named
  have hlocks := B.notSynchronized
  subst hsz
  have hD := hD0.self (sz := s.heap.size)
  generalize hAe : va_A [] s.heap.size = A at hD ⊢
  have hA : ∀ q : Nat, s.heap.size ≤ q → A q := fun q h => by rw [← hAe]; exact Or.inr h
  have hP : va_P (dC, dI) vwCl [] s.heap := hP
  have hl := lv_entry ([.int 115, .int p1]) (n := 2) (Nat.le_of_ble_eq_true rfl)
  rw [lg_entry_eq]
  generalize (lg_sl ([.int 115, .int p1]) ++ List.replicate (2 - (lg_sl ([.int 115, .int p1])).length) Slot.unset).toArray = ls at hl ⊢
  have hl : lv_has ls 2 [(0, .int 115), (1, .int p1)] := hl
  obtain ⟨H, hHe⟩ : ∃ H : Heap, s.heap = H := ⟨_, rfl⟩
  have hS : va_S A s.heap H [] := by rw [hHe]; exact va_S.rf
  have hP : va_P (dC, dI) vwCl [] H := by rw [← hHe]; exact hP
  rw [hHe]
  obtain ⟨RES, hR⟩ : ∃ z, fx_c_X12_usual_2 p1 = z := ⟨_, rfl⟩
  have hEX : RES = fx_c_X12_usual_2 p1 := hR.symm
  refine lv_iload_n hx hb dX12_usual_0 rfl (lv_at hl 0 rfl) ?_
  as_aux_lemma =>
  refine lv_bipush (v := 115) hx hb dX12_usual_1 kc_bipush_115 ?_
  refine lv_icmp_ne (tgt := 36) hx hb dX12_usual_3 rfl (fun c_1 => absurd c_1 (by decide +kernel)) (fun c_1 => ?_)
  refine lv_iload_n hx hb dX12_usual_6 rfl (lv_at hl 1 rfl) ?_
  refine lv_if_ne (tgt := 14) hx hb dX12_usual_7 rfl (fun c_2 => ?_) (fun c_2 => ?_)
  · replace hEX := hEX.trans (if_neg c_2)
    have g_3 : RG p1 1 2 := RG_ne1 g_p1 (q := 0) rfl c_2 (by decide +kernel)
    refine lv_iload_n hx hb dX12_usual_14 rfl (lv_at hl 1 rfl) ?_
    refine lv_iconst (v := 1) hx hb dX12_usual_15 kc_iconst_1 ?_
    refine lv_icmp_ne (tgt := 23) hx hb dX12_usual_16 rfl (fun c_4 => ?_) (fun c_4 => ?_)
    · replace hEX := hEX.trans (if_neg c_4)
      have g_5 : RG p1 2 2 := RG_ne1 g_3 (q := 1) rfl c_4 (by decide +kernel)
      refine lv_iload_n hx hb dX12_usual_23 rfl (lv_at hl 1 rfl) ?_
      refine lv_iconst (v := 2) hx hb dX12_usual_24 kc_iconst_2 ?_
      refine lv_icmp_ne (tgt := 33) hx hb dX12_usual_25 rfl (fun c_6 => ?_) (fun c_6 => ?_)
      · replace hEX := hEX.trans (if_neg c_6)
        exact RG_dead (RG_ne1 g_5 (q := 2) rfl c_6 (a' := 3) (b' := 2) (by decide +kernel)) (by decide +kernel)
      · replace hEX := hEX.trans (if_pos c_6)
        refine lv_bipush (v := 6) hx hb dX12_usual_28 kc_bipush_6 ?_
        as_aux_lemma =>
        refine lv_goto (tgt := 35) hx hb dX12_usual_30 rfl ?_
        have hK9 := hK.sub (tys' := []) [] rfl
        exact W.iret (v := 6) hx hb hr (fun t ht hW => ⟨⟨6, (), rfl, (Or.inl ⟨rfl, g_5, (hR.trans hEX).symm⟩), by rw [ht]; exact hP, va_K.moved hW.alike hK9, hD⟩, hS.F ht⟩) hS.2.2 dX12_usual_35
    · replace hEX := hEX.trans (if_pos c_4)
      have g_7 : RG p1 1 1 := RG_eq1 g_3 (RG_k 1 1 rfl) c_4 (by decide +kernel)
      refine lv_iconst (v := 0) hx hb dX12_usual_19 kc_iconst_0 ?_
      refine lv_goto (tgt := 35) hx hb dX12_usual_20 rfl ?_
      have hK9 := hK.sub (tys' := []) [] rfl
      exact W.iret (v := 0) hx hb hr (fun t ht hW => ⟨⟨0, (), rfl, (Or.inr (Or.inl ⟨rfl, g_7, (hR.trans hEX).symm⟩)), by rw [ht]; exact hP, va_K.moved hW.alike hK9, hD⟩, hS.F ht⟩) hS.2.2 dX12_usual_35
  · replace hEX := hEX.trans (if_pos c_2)
    have g_8 : RG p1 0 0 := RG_eq1 g_p1 (RG_k 0 0 rfl) c_2 (by decide +kernel)
    refine lv_iconst (v := 2) hx hb dX12_usual_10 kc_iconst_2 ?_
    refine lv_goto (tgt := 35) hx hb dX12_usual_11 rfl ?_
    have hK9 := hK.sub (tys' := []) [] rfl
    exact W.iret (v := 2) hx hb hr (fun t ht hW => ⟨⟨2, (), rfl, (Or.inr (Or.inr ⟨rfl, g_8, (hR.trans hEX).symm⟩)), by rw [ht]; exact hP, va_K.moved hW.alike hK9, hD⟩, hS.F ht⟩) hS.2.2 dX12_usual_35
noncomputable def wf_c_X12_usual_3 : List Cond := .code yX12_usual cX12_usual 2 (some .int) :: ([])
set_option maxHeartbeats 4000000 in
set_option maxRecDepth 100000 in
theorem c_X12_usual_3 (l : Launch) (dC : Nat → ClassId) (dI : Nat → Nat → Nat) (sz : Nat) (p1 : Int32) (g_p1 : RG p1 0 3) : Met l yX12_usual wf_c_X12_usual_3 ({ frames := 0, cells := 0, slots := 0, locals := 0 }) (va_Pc [.int 115, .int p1] (fun U => U.heap.size = sz ∧ va_P (dC, dI) vwCl [] U.heap ∧ va_K (dC, dI) vwCl [] U ∧ va_D (fun _ => True) [])) (va_Qi (fun (r : Int32) (u : Unit) => (r = 8 ∧ RG p1 3 3 ∧ r = fx_c_X12_usual_3 p1) ∨ (r = 6 ∧ RG p1 2 2 ∧ r = fx_c_X12_usual_3 p1) ∨ (r = 0 ∧ RG p1 1 1 ∧ r = fx_c_X12_usual_3 p1) ∨ (r = 2 ∧ RG p1 0 0 ∧ r = fx_c_X12_usual_3 p1)) (fun (u : Unit) t => va_P (dC, dI) vwCl [] t.heap ∧ va_K (dC, dI) vwCl [] t ∧ va_D (va_A [] sz) []) (va_A [] sz)) 0 0 (va_A [] sz) := by
  refine Met.ofW (cc := cX12_usual) (maxL := 2) (ret := (some .int)) (by decide +kernel) rfl ?_
  intro p e s m args below meth c s₁ B hml hv
  obtain ⟨rfl, hsz, hP, hK, hD0⟩ := hv
  have hx := B.exec
  have hb := B.bytes
  have hr := B.returns
  have hts := atoms_spec (ws := wf_c_X12_usual_3) B.pre
  have hown : s.vm.findClass RX12 = some m.cls := findClass_of_methodNamed B.named
  have hlocks := B.notSynchronized
  subst hsz
  have hD := hD0.self (sz := s.heap.size)
  generalize hAe : va_A [] s.heap.size = A at hD ⊢
  have hA : ∀ q : Nat, s.heap.size ≤ q → A q := fun q h => by rw [← hAe]; exact Or.inr h
  have hP : va_P (dC, dI) vwCl [] s.heap := hP
  have hl := lv_entry ([.int 115, .int p1]) (n := 2) (Nat.le_of_ble_eq_true rfl)
  rw [lg_entry_eq]
  generalize (lg_sl ([.int 115, .int p1]) ++ List.replicate (2 - (lg_sl ([.int 115, .int p1])).length) Slot.unset).toArray = ls at hl ⊢
  have hl : lv_has ls 2 [(0, .int 115), (1, .int p1)] := hl
  obtain ⟨H, hHe⟩ : ∃ H : Heap, s.heap = H := ⟨_, rfl⟩
  have hS : va_S A s.heap H [] := by rw [hHe]; exact va_S.rf
  have hP : va_P (dC, dI) vwCl [] H := by rw [← hHe]; exact hP
  rw [hHe]
  obtain ⟨RES, hR⟩ : ∃ z, fx_c_X12_usual_3 p1 = z := ⟨_, rfl⟩
  have hEX : RES = fx_c_X12_usual_3 p1 := hR.symm
  refine lv_iload_n hx hb dX12_usual_0 rfl (lv_at hl 0 rfl) ?_
  as_aux_lemma =>
  refine lv_bipush (v := 115) hx hb dX12_usual_1 kc_bipush_115 ?_
  refine lv_icmp_ne (tgt := 36) hx hb dX12_usual_3 rfl (fun c_1 => absurd c_1 (by decide +kernel)) (fun c_1 => ?_)
  refine lv_iload_n hx hb dX12_usual_6 rfl (lv_at hl 1 rfl) ?_
  refine lv_if_ne (tgt := 14) hx hb dX12_usual_7 rfl (fun c_2 => ?_) (fun c_2 => ?_)
  · replace hEX := hEX.trans (if_neg c_2)
    have g_3 : RG p1 1 3 := RG_ne1 g_p1 (q := 0) rfl c_2 (by decide +kernel)
    refine lv_iload_n hx hb dX12_usual_14 rfl (lv_at hl 1 rfl) ?_
    refine lv_iconst (v := 1) hx hb dX12_usual_15 kc_iconst_1 ?_
    refine lv_icmp_ne (tgt := 23) hx hb dX12_usual_16 rfl (fun c_4 => ?_) (fun c_4 => ?_)
    · replace hEX := hEX.trans (if_neg c_4)
      have g_5 : RG p1 2 3 := RG_ne1 g_3 (q := 1) rfl c_4 (by decide +kernel)
      refine lv_iload_n hx hb dX12_usual_23 rfl (lv_at hl 1 rfl) ?_
      refine lv_iconst (v := 2) hx hb dX12_usual_24 kc_iconst_2 ?_
      refine lv_icmp_ne (tgt := 33) hx hb dX12_usual_25 rfl (fun c_6 => ?_) (fun c_6 => ?_)
      · replace hEX := hEX.trans (if_neg c_6)
        have g_7 : RG p1 3 3 := RG_ne1 g_5 (q := 2) rfl c_6 (by decide +kernel)
        refine lv_bipush (v := 8) hx hb dX12_usual_33 kc_bipush_8 ?_
        as_aux_lemma =>
        have hK9 := hK.sub (tys' := []) [] rfl
        exact W.iret (v := 8) hx hb hr (fun t ht hW => ⟨⟨8, (), rfl, (Or.inl ⟨rfl, g_7, (hR.trans hEX).symm⟩), by rw [ht]; exact hP, va_K.moved hW.alike hK9, hD⟩, hS.F ht⟩) hS.2.2 dX12_usual_35
      · replace hEX := hEX.trans (if_pos c_6)
        have g_8 : RG p1 2 2 := RG_eq1 g_5 (RG_k 2 2 rfl) c_6 (by decide +kernel)
        refine lv_bipush (v := 6) hx hb dX12_usual_28 kc_bipush_6 ?_
        refine lv_goto (tgt := 35) hx hb dX12_usual_30 rfl ?_
        have hK9 := hK.sub (tys' := []) [] rfl
        exact W.iret (v := 6) hx hb hr (fun t ht hW => ⟨⟨6, (), rfl, (Or.inr (Or.inl ⟨rfl, g_8, (hR.trans hEX).symm⟩)), by rw [ht]; exact hP, va_K.moved hW.alike hK9, hD⟩, hS.F ht⟩) hS.2.2 dX12_usual_35
    · replace hEX := hEX.trans (if_pos c_4)
      have g_9 : RG p1 1 1 := RG_eq1 g_3 (RG_k 1 1 rfl) c_4 (by decide +kernel)
      refine lv_iconst (v := 0) hx hb dX12_usual_19 kc_iconst_0 ?_
      refine lv_goto (tgt := 35) hx hb dX12_usual_20 rfl ?_
      have hK9 := hK.sub (tys' := []) [] rfl
      exact W.iret (v := 0) hx hb hr (fun t ht hW => ⟨⟨0, (), rfl, (Or.inr (Or.inr (Or.inl ⟨rfl, g_9, (hR.trans hEX).symm⟩))), by rw [ht]; exact hP, va_K.moved hW.alike hK9, hD⟩, hS.F ht⟩) hS.2.2 dX12_usual_35
  · replace hEX := hEX.trans (if_pos c_2)
    have g_10 : RG p1 0 0 := RG_eq1 g_p1 (RG_k 0 0 rfl) c_2 (by decide +kernel)
    refine lv_iconst (v := 2) hx hb dX12_usual_10 kc_iconst_2 ?_
    as_aux_lemma =>
    refine lv_goto (tgt := 35) hx hb dX12_usual_11 rfl ?_
    have hK9 := hK.sub (tys' := []) [] rfl
    exact W.iret (v := 2) hx hb hr (fun t ht hW => ⟨⟨2, (), rfl, (Or.inr (Or.inr (Or.inr ⟨rfl, g_10, (hR.trans hEX).symm⟩))), by rw [ht]; exact hP, va_K.moved hW.alike hK9, hD⟩, hS.F ht⟩) hS.2.2 dX12_usual_35
noncomputable def wd_c_X12_look (a0 : Nat) (a1 : Int32) (a2 : Nat) (a3 : Nat) (a4 : Nat) (a5 : Nat) (a6 : Nat) (a7 : Int32) (a8 : Int32) (a9 : Int32) (a10 : Int32) (a11 : Int32) (a12 : Int32) (a13 : Int32) (a14 : Int32) (a15 : Int32) (a16 : Nat) (a17 : Nat) (a18 : Int32) (a19 : Nat) (a20 : Nat) (a21 : Nat) (a22 : Nat) (a23 : Nat) (a24 : Nat) (a25 : Nat) (a26 : Nat) (a27 : Int32) (a28 : Int32) (a29 : Int32) (a30 : Int32) (a31 : Int32) (a32 : Int32) (a33 : Nat) (a34 : Nat) (a35 : Int32) (a36 : Nat) (a37 : Nat) (a38 : Nat) (a39 : Nat) (a40 : Nat) (a41 : Nat) (a42 : Int32) (a43 : Int64) (a44 : Int32) (a45 : Int32) (a46 : Nat) (a47 : Nat) (a48 : Nat) (a49 : Nat) (a50 : Nat) (a51 : Nat) (a52 : Int32) (a53 : Nat) (a54 : Int32) (a55 : Nat) (a56 : ClassId) (a57 : Nat) (a58 : Nat → Int32) : va_W := [(a0, .inr (12, [.int a1, .ref a2, .ref a3, .ref a4, .ref a5, .ref a6, .int a7, .int a8, .int a9, .int a10, .int a11, .int a12, .int a13, .int a14, .int a15, .ref a16, .ref a17, .int a18, .ref a19, .ref a20, .ref a21, .ref a22, .ref a23, .ref a24, .ref a25, .ref a26, .int a27, .int a28, .int a29, .int a30, .int a31, .int a32, .ref a33, .ref a34, .int a35, .ref a36, .ref a37, .ref a38, .ref a39, .ref a40, .ref a41, .int a42, .long a43, .int a44, .int a45, .ref a46, .ref a47, .ref a48, .ref a49, .ref a50, .ref a51, .int a52, .ref a53, .int a54])), (a55, .inl (a56, a57, .inl a58))]
noncomputable def wf_c_X12_look : List Cond := List.cons (.code yX12_look cX12_look 1 (some .int)) (@HAppend.hAppend (List Cond) (List Cond) (List Cond) _ [.fieldLink RX12 134 "BuoyVoteModel" "at" "I", .fieldLink RX12 137 "BuoyVoteModel" "ends" "I", .fieldLink RX12 23 "BuoyVoteModel" "text" "[B", .fieldLink RX12 140 "BuoyVoteModel" "begins" "I"] wsX120)
theorem iw_c_X12_look_X12 : ∀ w ∈ wsX120, w ∈ wf_c_X12_look := fun w h => List.mem_cons_of_mem _ (List.mem_append_right _ h)
set_option maxHeartbeats 4000000 in
set_option maxRecDepth 100000 in
theorem c_X12_look (l : Launch) (dC : Nat → ClassId) (dI : Nat → Nat → Nat) (sz : Nat) (h0 : Nat) (h0_f0 : Int32) (h0_1 : Nat) (h0_2 : Nat) (h0_3 : Nat) (h0_4 : Nat) (h0_5 : Nat) (h0_f6 : Int32) (h0_f7 : Int32) (h0_f8 : Int32) (h0_f9 : Int32) (h0_f10 : Int32) (h0_f12 : Int32) (h0_f13 : Int32) (h0_f14 : Int32) (h0_15 : Nat) (h0_16 : Nat) (h0_f17 : Int32) (h0_18 : Nat) (h0_19 : Nat) (h0_20 : Nat) (h0_21 : Nat) (h0_22 : Nat) (h0_23 : Nat) (h0_24 : Nat) (h0_25 : Nat) (h0_f26 : Int32) (h0_f27 : Int32) (h0_f28 : Int32) (h0_f29 : Int32) (h0_f30 : Int32) (h0_f31 : Int32) (h0_32 : Nat) (h0_33 : Nat) (h0_f34 : Int32) (h0_35 : Nat) (h0_36 : Nat) (h0_37 : Nat) (h0_38 : Nat) (h0_39 : Nat) (h0_40 : Nat) (h0_f41 : Int32) (h0_f42 : Int64) (h0_f43 : Int32) (h0_f44 : Int32) (h0_45 : Nat) (h0_46 : Nat) (h0_47 : Nat) (h0_48 : Nat) (h0_49 : Nat) (h0_50 : Nat) (h0_f51 : Int32) (h0_52 : Nat) (h0_f53 : Int32) (h0_5k : ClassId) (h0_5c : Nat → Int32) (tN : Nat) (g_h0_f6 : RG h0_f6 0 240) (g_h0_f7 : RG h0_f7 0 4) (g_h0_f8 : RG h0_f8 0 720) (g_h0_f9 : RG h0_f9 0 240) (g_h0_f10 : RG h0_f10 0 240) (g_h0_f17 : RG h0_f17 0 1) (g_h0_f26 : RG h0_f26 0 8) (g_h0_f27 : RG h0_f27 0 3) (g_h0_f28 : RG h0_f28 0 8) (g_h0_f29 : RG h0_f29 0 3) (g_h0_f30 : RG h0_f30 0 4) (g_h0_f31 : RG h0_f31 0 1) (g_h0_f34 : RG h0_f34 (-1) 3) (g_h0_f41 : RG h0_f41 0 40) (g_h0_f51 : RG h0_f51 0 10) (g_h0_f53 : RG h0_f53 0 1) (htN : h0_f8.toInt + 240 ≤ (tN : Int)) : Met l yX12_look wf_c_X12_look ({ frames := 0, cells := 0, slots := 0, locals := 0 }) (va_Pc [.ref h0] (fun U => U.heap.size = sz ∧ va_P (dC, dI) vwCl (wd_c_X12_look h0 h0_f0 h0_1 h0_2 h0_3 h0_4 h0_5 h0_f6 h0_f7 h0_f8 h0_f9 h0_f10 (-1) h0_f12 h0_f13 h0_f14 h0_15 h0_16 h0_f17 h0_18 h0_19 h0_20 h0_21 h0_22 h0_23 h0_24 h0_25 h0_f26 h0_f27 h0_f28 h0_f29 h0_f30 h0_f31 h0_32 h0_33 h0_f34 h0_35 h0_36 h0_37 h0_38 h0_39 h0_40 h0_f41 h0_f42 h0_f43 h0_f44 h0_45 h0_46 h0_47 h0_48 h0_49 h0_50 h0_f51 h0_52 h0_f53 h0_5 h0_5k tN h0_5c) U.heap ∧ va_K (dC, dI) vwCl [(h0_5k, .byte)] U ∧ va_D (fun _ => True) (wd_c_X12_look h0 h0_f0 h0_1 h0_2 h0_3 h0_4 h0_5 h0_f6 h0_f7 h0_f8 h0_f9 h0_f10 (-1) h0_f12 h0_f13 h0_f14 h0_15 h0_16 h0_f17 h0_18 h0_19 h0_20 h0_21 h0_22 h0_23 h0_24 h0_25 h0_f26 h0_f27 h0_f28 h0_f29 h0_f30 h0_f31 h0_32 h0_33 h0_f34 h0_35 h0_36 h0_37 h0_38 h0_39 h0_40 h0_f41 h0_f42 h0_f43 h0_f44 h0_45 h0_46 h0_47 h0_48 h0_49 h0_50 h0_f51 h0_52 h0_f53 h0_5 h0_5k tN h0_5c))) (va_Qi (fun (r : Int32) (u : (Int32)) => (r = (-1) ∧ RG u 0 240 ∧ h0_f10.toInt + 0 ≤ (u).toInt ∧ h0_f9.toInt ≤ (u).toInt + 0 ∧ ((r = (-1) ∨ r = h0_5c (h0_f8 + u).toNatClampNeg &&& 255) ∧ (r = (-1) ∨ ¬ h0_5c (h0_f8 + u).toNatClampNeg = 32)) ∧ (r, u) = fx_c_X12_look h0_f8 h0_f9 h0_f10 h0_5c) ∨ (RG r 0 255 ∧ RG u 0 239 ∧ RG h0_f9 1 240 ∧ h0_f10.toInt + 0 ≤ (u).toInt ∧ (u).toInt ≤ h0_f9.toInt + (-1) ∧ ((r = (-1) ∨ r = h0_5c (h0_f8 + u).toNatClampNeg &&& 255) ∧ (r = (-1) ∨ ¬ h0_5c (h0_f8 + u).toNatClampNeg = 32)) ∧ (r, u) = fx_c_X12_look h0_f8 h0_f9 h0_f10 h0_5c)) (fun (u : (Int32)) t => va_P (dC, dI) vwCl (wd_c_X12_look h0 h0_f0 h0_1 h0_2 h0_3 h0_4 h0_5 h0_f6 h0_f7 h0_f8 h0_f9 u (-1) h0_f12 h0_f13 h0_f14 h0_15 h0_16 h0_f17 h0_18 h0_19 h0_20 h0_21 h0_22 h0_23 h0_24 h0_25 h0_f26 h0_f27 h0_f28 h0_f29 h0_f30 h0_f31 h0_32 h0_33 h0_f34 h0_35 h0_36 h0_37 h0_38 h0_39 h0_40 h0_f41 h0_f42 h0_f43 h0_f44 h0_45 h0_46 h0_47 h0_48 h0_49 h0_50 h0_f51 h0_52 h0_f53 h0_5 h0_5k tN h0_5c) t.heap ∧ va_K (dC, dI) vwCl [] t ∧ va_D (va_A (wd_c_X12_look h0 h0_f0 h0_1 h0_2 h0_3 h0_4 h0_5 h0_f6 h0_f7 h0_f8 h0_f9 h0_f10 (-1) h0_f12 h0_f13 h0_f14 h0_15 h0_16 h0_f17 h0_18 h0_19 h0_20 h0_21 h0_22 h0_23 h0_24 h0_25 h0_f26 h0_f27 h0_f28 h0_f29 h0_f30 h0_f31 h0_32 h0_33 h0_f34 h0_35 h0_36 h0_37 h0_38 h0_39 h0_40 h0_f41 h0_f42 h0_f43 h0_f44 h0_45 h0_46 h0_47 h0_48 h0_49 h0_50 h0_f51 h0_52 h0_f53 h0_5 h0_5k tN h0_5c) sz) (wd_c_X12_look h0 h0_f0 h0_1 h0_2 h0_3 h0_4 h0_5 h0_f6 h0_f7 h0_f8 h0_f9 u (-1) h0_f12 h0_f13 h0_f14 h0_15 h0_16 h0_f17 h0_18 h0_19 h0_20 h0_21 h0_22 h0_23 h0_24 h0_25 h0_f26 h0_f27 h0_f28 h0_f29 h0_f30 h0_f31 h0_32 h0_33 h0_f34 h0_35 h0_36 h0_37 h0_38 h0_39 h0_40 h0_f41 h0_f42 h0_f43 h0_f44 h0_45 h0_46 h0_47 h0_48 h0_49 h0_50 h0_f51 h0_52 h0_f53 h0_5 h0_5k tN h0_5c)) (va_A (wd_c_X12_look h0 h0_f0 h0_1 h0_2 h0_3 h0_4 h0_5 h0_f6 h0_f7 h0_f8 h0_f9 h0_f10 (-1) h0_f12 h0_f13 h0_f14 h0_15 h0_16 h0_f17 h0_18 h0_19 h0_20 h0_21 h0_22 h0_23 h0_24 h0_25 h0_f26 h0_f27 h0_f28 h0_f29 h0_f30 h0_f31 h0_32 h0_33 h0_f34 h0_35 h0_36 h0_37 h0_38 h0_39 h0_40 h0_f41 h0_f42 h0_f43 h0_f44 h0_45 h0_46 h0_47 h0_48 h0_49 h0_50 h0_f51 h0_52 h0_f53 h0_5 h0_5k tN h0_5c) sz)) 0 0 (va_A (wd_c_X12_look h0 h0_f0 h0_1 h0_2 h0_3 h0_4 h0_5 h0_f6 h0_f7 h0_f8 h0_f9 h0_f10 (-1) h0_f12 h0_f13 h0_f14 h0_15 h0_16 h0_f17 h0_18 h0_19 h0_20 h0_21 h0_22 h0_23 h0_24 h0_25 h0_f26 h0_f27 h0_f28 h0_f29 h0_f30 h0_f31 h0_32 h0_33 h0_f34 h0_35 h0_36 h0_37 h0_38 h0_39 h0_40 h0_f41 h0_f42 h0_f43 h0_f44 h0_45 h0_46 h0_47 h0_48 h0_49 h0_50 h0_f51 h0_52 h0_f53 h0_5 h0_5k tN h0_5c) sz) := by
  refine Met.ofW (cc := cX12_look) (maxL := 1) (ret := (some .int)) (by decide +kernel) rfl ?_
  intro p e s m args below meth c s₁ B hml hv
  obtain ⟨rfl, hsz, hP, hK, hD0⟩ := hv
  have hx := B.exec
  have hb := B.bytes
  have hr := B.returns
  have hts := atoms_spec (ws := wf_c_X12_look) B.pre
  have hown : s.vm.findClass RX12 = some m.cls := findClass_of_methodNamed B.named
  have hlocks := B.notSynchronized
  subst hsz
  have hD := hD0.self (sz := s.heap.size)
  generalize hAe : va_A (wd_c_X12_look h0 h0_f0 h0_1 h0_2 h0_3 h0_4 h0_5 h0_f6 h0_f7 h0_f8 h0_f9 h0_f10 (-1) h0_f12 h0_f13 h0_f14 h0_15 h0_16 h0_f17 h0_18 h0_19 h0_20 h0_21 h0_22 h0_23 h0_24 h0_25 h0_f26 h0_f27 h0_f28 h0_f29 h0_f30 h0_f31 h0_32 h0_33 h0_f34 h0_35 h0_36 h0_37 h0_38 h0_39 h0_40 h0_f41 h0_f42 h0_f43 h0_f44 h0_45 h0_46 h0_47 h0_48 h0_49 h0_50 h0_f51 h0_52 h0_f53 h0_5 h0_5k tN h0_5c) s.heap.size = A at hD ⊢
  have hA : ∀ q : Nat, s.heap.size ≤ q → A q := fun q h => by rw [← hAe]; exact Or.inr h
  have hP : va_P (dC, dI) vwCl (wd_c_X12_look h0 h0_f0 h0_1 h0_2 h0_3 h0_4 h0_5 h0_f6 h0_f7 h0_f8 h0_f9 h0_f10 (-1) h0_f12 h0_f13 h0_f14 h0_15 h0_16 h0_f17 h0_18 h0_19 h0_20 h0_21 h0_22 h0_23 h0_24 h0_25 h0_f26 h0_f27 h0_f28 h0_f29 h0_f30 h0_f31 h0_32 h0_33 h0_f34 h0_35 h0_36 h0_37 h0_38 h0_39 h0_40 h0_f41 h0_f42 h0_f43 h0_f44 h0_45 h0_46 h0_47 h0_48 h0_49 h0_50 h0_f51 h0_52 h0_f53 h0_5 h0_5k tN h0_5c) s.heap := hP
  have hl := lv_entry ([.ref h0]) (n := 1) (Nat.le_of_ble_eq_true rfl)
  rw [lg_entry_eq]
  generalize (lg_sl ([.ref h0]) ++ List.replicate (1 - (lg_sl ([.ref h0])).length) Slot.unset).toArray = ls at hl ⊢
  have hl : lv_has ls 1 [(0, .ref h0)] := hl
  obtain ⟨H, hHe⟩ : ∃ H : Heap, s.heap = H := ⟨_, rfl⟩
  have hS : va_S A s.heap H [] := by rw [hHe]; exact va_S.rf
  have hP : va_P (dC, dI) vwCl (wd_c_X12_look h0 h0_f0 h0_1 h0_2 h0_3 h0_4 h0_5 h0_f6 h0_f7 h0_f8 h0_f9 h0_f10 (-1) h0_f12 h0_f13 h0_f14 h0_15 h0_16 h0_f17 h0_18 h0_19 h0_20 h0_21 h0_22 h0_23 h0_24 h0_25 h0_f26 h0_f27 h0_f28 h0_f29 h0_f30 h0_f31 h0_32 h0_33 h0_f34 h0_35 h0_36 h0_37 h0_38 h0_39 h0_40 h0_f41 h0_f42 h0_f43 h0_f44 h0_45 h0_46 h0_47 h0_48 h0_49 h0_50 h0_f51 h0_52 h0_f53 h0_5 h0_5k tN h0_5c) H := by rw [← hHe]; exact hP
  rw [hHe]
  obtain ⟨RES, hR⟩ : ∃ z, fx_c_X12_look h0_f8 h0_f9 h0_f10 h0_5c = z := ⟨_, rfl⟩
  have hEX : RES = fx_c_X12_look h0_f8 h0_f9 h0_f10 h0_5c := hR.symm
  refine wj (fun G hG hU => ?_)
  as_aux_lemma =>
  have J0 : ∀ (n0 : Nat) (j0_h0_f10 : Int32) (hM0 : MU j0_h0_f10 < n0) (g_h0_f10 : RG h0_f10 0 240) (g_h0_f17 : RG h0_f17 0 1) (g_h0_f26 : RG h0_f26 0 8) (g_h0_f27 : RG h0_f27 0 3) (g_h0_f28 : RG h0_f28 0 8) (g_h0_f29 : RG h0_f29 0 3) (g_h0_f30 : RG h0_f30 0 4) (g_h0_f31 : RG h0_f31 0 1) (g_h0_f34 : RG h0_f34 (-1) 3) (g_h0_f41 : RG h0_f41 0 40) (g_h0_f51 : RG h0_f51 0 10) (g_h0_f53 : RG h0_f53 0 1) (g_h0_f6 : RG h0_f6 0 240) (g_h0_f7 : RG h0_f7 0 4) (g_h0_f8 : RG h0_f8 0 720) (g_h0_f9 : RG h0_f9 0 240) (g_j0_h0_f10 : RG j0_h0_f10 0 240) (r_h0_f10_j0_h0_f10 : h0_f10.toInt + 0 ≤ j0_h0_f10.toInt) (hEX : RES = fx_c_X12_look_p0 h0_f8 h0_f9 h0_5c n0 j0_h0_f10) (H : Heap) (locs : List Loc) (ls : Array Slot) (hP : va_P (dC, dI) vwCl (wd_c_X12_look h0 h0_f0 h0_1 h0_2 h0_3 h0_4 h0_5 h0_f6 h0_f7 h0_f8 h0_f9 j0_h0_f10 (-1) h0_f12 h0_f13 h0_f14 h0_15 h0_16 h0_f17 h0_18 h0_19 h0_20 h0_21 h0_22 h0_23 h0_24 h0_25 h0_f26 h0_f27 h0_f28 h0_f29 h0_f30 h0_f31 h0_32 h0_33 h0_f34 h0_35 h0_36 h0_37 h0_38 h0_39 h0_40 h0_f41 h0_f42 h0_f43 h0_f44 h0_45 h0_46 h0_47 h0_48 h0_49 h0_50 h0_f51 h0_52 h0_f53 h0_5 h0_5k tN h0_5c) H) (hD : va_D A (wd_c_X12_look h0 h0_f0 h0_1 h0_2 h0_3 h0_4 h0_5 h0_f6 h0_f7 h0_f8 h0_f9 j0_h0_f10 (-1) h0_f12 h0_f13 h0_f14 h0_15 h0_16 h0_f17 h0_18 h0_19 h0_20 h0_21 h0_22 h0_23 h0_24 h0_25 h0_f26 h0_f27 h0_f28 h0_f29 h0_f30 h0_f31 h0_32 h0_33 h0_f34 h0_35 h0_36 h0_37 h0_38 h0_39 h0_40 h0_f41 h0_f42 h0_f43 h0_f44 h0_45 h0_46 h0_47 h0_48 h0_49 h0_50 h0_f51 h0_52 h0_f53 h0_5 h0_5k tN h0_5c)) (hS : va_S A s.heap H locs) (hl : lv_has ls 1 [(0, .ref h0)]), G H locs (F0 m 0 ls []) := by
    as_aux_lemma =>
    intro n0
    induction n0 with
    | zero => intros; exact absurd (by assumption) (Nat.not_lt_zero _)
    | succ n0 ih0 =>
      intro j0_h0_f10 hM0 g_h0_f10 g_h0_f17 g_h0_f26 g_h0_f27 g_h0_f28 g_h0_f29 g_h0_f30 g_h0_f31 g_h0_f34 g_h0_f41 g_h0_f51 g_h0_f53 g_h0_f6 g_h0_f7 g_h0_f8 g_h0_f9 g_j0_h0_f10 r_h0_f10_j0_h0_f10 hEX H locs ls hP hD hS hl
      refine hG _ _ _ ?_
      replace hEX := hEX.trans (if_pos (rfl : j0_h0_f10 = j0_h0_f10))
      refine lv_aload_n hx hb dX12_look_0 rfl (lv_at hl 0 rfl) ?_
      refine va_get (D := (dC, dI)) (ci := 12) (v := .int j0_h0_f10) (C := RX12) (T := TX12) (N := 54) hx hb hts iw_c_X12_look_X12 hown hK hP 0 rfl rfl 10 (by decide +kernel) (hts (.fieldLink RX12 134 "BuoyVoteModel" "at" "I") (List.mem_of_getElem? (i := 1) rfl)) (fun _ h9 => h9) rfl dX12_look_1 ?_
      refine lv_aload_n hx hb dX12_look_4 rfl (lv_at hl 0 rfl) ?_
      refine va_get (D := (dC, dI)) (ci := 12) (v := .int h0_f9) (C := RX12) (T := TX12) (N := 54) hx hb hts iw_c_X12_look_X12 hown hK hP 0 rfl rfl 9 (by decide +kernel) (hts (.fieldLink RX12 137 "BuoyVoteModel" "ends" "I") (List.mem_of_getElem? (i := 2) rfl)) (fun _ h9 => h9) rfl dX12_look_5 ?_
      refine lv_icmp_ge (tgt := 43) hx hb dX12_look_8 rfl (fun c_1 => ?_) (fun c_1 => ?_)
      · replace hEX := hEX.trans (if_pos c_1)
        have b_2 : h0_f9.toInt ≤ j0_h0_f10.toInt + 0 := by have := Int32.le_iff_toInt_le.mp c_1; omega
        refine lv_aload_n hx hb dX12_look_43 rfl (lv_at hl 0 rfl) ?_
        as_aux_lemma =>
        refine va_get (D := (dC, dI)) (ci := 12) (v := .int j0_h0_f10) (C := RX12) (T := TX12) (N := 54) hx hb hts iw_c_X12_look_X12 hown hK hP 0 rfl rfl 10 (by decide +kernel) (hts (.fieldLink RX12 134 "BuoyVoteModel" "at" "I") (List.mem_of_getElem? (i := 1) rfl)) (fun _ h9 => h9) rfl dX12_look_44 ?_
        refine lv_aload_n hx hb dX12_look_47 rfl (lv_at hl 0 rfl) ?_
        refine va_get (D := (dC, dI)) (ci := 12) (v := .int h0_f9) (C := RX12) (T := TX12) (N := 54) hx hb hts iw_c_X12_look_X12 hown hK hP 0 rfl rfl 9 (by decide +kernel) (hts (.fieldLink RX12 137 "BuoyVoteModel" "ends" "I") (List.mem_of_getElem? (i := 2) rfl)) (fun _ h9 => h9) rfl dX12_look_48 ?_
        refine lv_icmp_ge (tgt := 75) hx hb dX12_look_51 rfl (fun c_3 => ?_) (fun c_3 => ?_)
        · replace hEX := hEX.trans (if_pos c_3)
          have b_4 : h0_f9.toInt ≤ j0_h0_f10.toInt + 0 := by have := Int32.le_iff_toInt_le.mp c_3; omega
          refine lv_iconst (v := (-1)) hx hb dX12_look_75 kc_iconst_m1 ?_
          have hK9 := hK.sub (tys' := []) [] rfl
          exact W.iret (v := (-1)) hx hb hr (fun t ht hW => ⟨⟨(-1), j0_h0_f10, rfl, (Or.inl ⟨rfl, g_j0_h0_f10, (by have := r_h0_f10_j0_h0_f10; show h0_f10.toInt + 0 ≤ j0_h0_f10.toInt; omega), (by have := b_4; have := (g_h0_f9).2; have := (g_j0_h0_f10).1; show h0_f9.toInt ≤ j0_h0_f10.toInt + 0; omega), ⟨Or.inl rfl, Or.inl rfl⟩, (hR.trans hEX).symm⟩), by rw [ht]; exact hP, va_K.moved hW.alike hK9, hD⟩, hS.F ht⟩) hS.2.2 dX12_look_76
        · replace hEX := hEX.trans (if_neg c_3)
          have d_5 := Int32.not_le.mp c_3
          have b_6 : j0_h0_f10.toInt ≤ h0_f9.toInt + (-1) := by have := Int32.lt_iff_toInt_lt.mp d_5; omega
          exfalso
          have := b_6
          have := b_2
          omega
      · replace hEX := hEX.trans (if_neg c_1)
        have d_7 := Int32.not_le.mp c_1
        have b_8 : j0_h0_f10.toInt ≤ h0_f9.toInt + (-1) := by have := Int32.lt_iff_toInt_lt.mp d_7; omega
        have g_9 : RG j0_h0_f10 0 239 := RG_lt1 g_j0_h0_f10 g_h0_f9 d_7 (by decide +kernel)
        have g_10 : RG h0_f9 1 240 := RG_lt2 g_j0_h0_f10 g_h0_f9 d_7 (by decide +kernel)
        refine lv_aload_n hx hb dX12_look_11 rfl (lv_at hl 0 rfl) ?_
        as_aux_lemma =>
        refine va_get (D := (dC, dI)) (ci := 12) (v := .ref h0_5) (C := RX12) (T := TX12) (N := 54) hx hb hts iw_c_X12_look_X12 hown hK hP 0 rfl rfl 5 (by decide +kernel) (hts (.fieldLink RX12 23 "BuoyVoteModel" "text" "[B") (List.mem_of_getElem? (i := 3) rfl)) (fun _ h9 => h9) rfl dX12_look_12 ?_
        refine lv_aload_n hx hb dX12_look_15 rfl (lv_at hl 0 rfl) ?_
        refine va_get (D := (dC, dI)) (ci := 12) (v := .int h0_f8) (C := RX12) (T := TX12) (N := 54) hx hb hts iw_c_X12_look_X12 hown hK hP 0 rfl rfl 8 (by decide +kernel) (hts (.fieldLink RX12 140 "BuoyVoteModel" "begins" "I") (List.mem_of_getElem? (i := 4) rfl)) (fun _ h9 => h9) rfl dX12_look_16 ?_
        refine lv_aload_n hx hb dX12_look_19 rfl (lv_at hl 0 rfl) ?_
        refine va_get (D := (dC, dI)) (ci := 12) (v := .int j0_h0_f10) (C := RX12) (T := TX12) (N := 54) hx hb hts iw_c_X12_look_X12 hown hK hP 0 rfl rfl 10 (by decide +kernel) (hts (.fieldLink RX12 134 "BuoyVoteModel" "at" "I") (List.mem_of_getElem? (i := 1) rfl)) (fun _ h9 => h9) rfl dX12_look_20 ?_
        refine lv_iadd hx hb dX12_look_23 ?_
        refine lv_topi (fun x_11 ex_11 => ?_)
        replace hEX := hEX.trans (exl_eq ex_11)
        have g_12 : RG x_11 0 959 := RG_add ex_11 g_h0_f8 g_9 (by decide +kernel)
        refine va_bald hx hb hK hP 1 0 rfl rfl (vp_in_iff.mpr ⟨by have := (g_12).1; omega, by have := eq_add2 ex_11 g_h0_f8 g_9 (by decide +kernel); have := htN; have := (g_9).2; omega⟩) dX12_look_24 ?_
        refine lv_topi (fun x_13 ex_13 => ?_)
        replace hEX := hEX.trans (exl_eq ex_13)
        refine lv_bipush (v := 32) hx hb dX12_look_25 kc_bipush_32 ?_
        refine lv_icmp_ne (tgt := 43) hx hb dX12_look_27 rfl (fun c_14 => ?_) (fun c_14 => ?_)
        · replace hEX := hEX.trans (if_neg c_14)
          refine lv_aload_n hx hb dX12_look_43 rfl (lv_at hl 0 rfl) ?_
          as_aux_lemma =>
          refine va_get (D := (dC, dI)) (ci := 12) (v := .int j0_h0_f10) (C := RX12) (T := TX12) (N := 54) hx hb hts iw_c_X12_look_X12 hown hK hP 0 rfl rfl 10 (by decide +kernel) (hts (.fieldLink RX12 134 "BuoyVoteModel" "at" "I") (List.mem_of_getElem? (i := 1) rfl)) (fun _ h9 => h9) rfl dX12_look_44 ?_
          refine lv_aload_n hx hb dX12_look_47 rfl (lv_at hl 0 rfl) ?_
          refine va_get (D := (dC, dI)) (ci := 12) (v := .int h0_f9) (C := RX12) (T := TX12) (N := 54) hx hb hts iw_c_X12_look_X12 hown hK hP 0 rfl rfl 9 (by decide +kernel) (hts (.fieldLink RX12 137 "BuoyVoteModel" "ends" "I") (List.mem_of_getElem? (i := 2) rfl)) (fun _ h9 => h9) rfl dX12_look_48 ?_
          refine lv_icmp_ge (tgt := 75) hx hb dX12_look_51 rfl (fun c_15 => ?_) (fun c_15 => ?_)
          · replace hEX := hEX.trans (if_pos c_15)
            have b_16 : h0_f9.toInt ≤ j0_h0_f10.toInt + 0 := by have := Int32.le_iff_toInt_le.mp c_15; omega
            exfalso
            have := b_16
            have := b_8
            omega
          · replace hEX := hEX.trans (if_neg c_15)
            have d_17 := Int32.not_le.mp c_15
            have b_18 : j0_h0_f10.toInt ≤ h0_f9.toInt + (-1) := by have := Int32.lt_iff_toInt_lt.mp d_17; omega
            refine lv_aload_n hx hb dX12_look_54 rfl (lv_at hl 0 rfl) ?_
            as_aux_lemma =>
            refine va_get (D := (dC, dI)) (ci := 12) (v := .ref h0_5) (C := RX12) (T := TX12) (N := 54) hx hb hts iw_c_X12_look_X12 hown hK hP 0 rfl rfl 5 (by decide +kernel) (hts (.fieldLink RX12 23 "BuoyVoteModel" "text" "[B") (List.mem_of_getElem? (i := 3) rfl)) (fun _ h9 => h9) rfl dX12_look_55 ?_
            refine lv_aload_n hx hb dX12_look_58 rfl (lv_at hl 0 rfl) ?_
            refine va_get (D := (dC, dI)) (ci := 12) (v := .int h0_f8) (C := RX12) (T := TX12) (N := 54) hx hb hts iw_c_X12_look_X12 hown hK hP 0 rfl rfl 8 (by decide +kernel) (hts (.fieldLink RX12 140 "BuoyVoteModel" "begins" "I") (List.mem_of_getElem? (i := 4) rfl)) (fun _ h9 => h9) rfl dX12_look_59 ?_
            refine lv_aload_n hx hb dX12_look_62 rfl (lv_at hl 0 rfl) ?_
            refine va_get (D := (dC, dI)) (ci := 12) (v := .int j0_h0_f10) (C := RX12) (T := TX12) (N := 54) hx hb hts iw_c_X12_look_X12 hown hK hP 0 rfl rfl 10 (by decide +kernel) (hts (.fieldLink RX12 134 "BuoyVoteModel" "at" "I") (List.mem_of_getElem? (i := 1) rfl)) (fun _ h9 => h9) rfl dX12_look_63 ?_
            refine lv_iadd hx hb dX12_look_66 ?_
            refine lv_topi (fun x_19 ex_19 => ?_)
            obtain rfl : x_11 = x_19 := ex_11.trans ex_19.symm
            refine va_bald hx hb hK hP 1 0 rfl rfl (vp_in_iff.mpr ⟨by have := (g_12).1; omega, by have := eq_add2 ex_11 g_h0_f8 g_9 (by decide +kernel); have := htN; have := (g_9).2; omega⟩) dX12_look_67 ?_
            refine lv_topi (fun x_20 ex_20 => ?_)
            obtain rfl : x_13 = x_20 := (ex_20.trans ex_13.symm).symm
            refine lv_sipush (v := 255) hx hb dX12_look_68 kc_sipush_255 ?_
            refine lv_iand hx hb dX12_look_71 ?_
            refine lv_topi (fun x_21 ex_21 => ?_)
            as_aux_lemma =>
            replace hEX := hEX.trans (exl_eq ex_21)
            have g_22 : RG x_21 0 255 := RG_andr ex_21 (RG_k 255 255 rfl) (by decide +kernel)
            refine lv_goto (tgt := 76) hx hb dX12_look_72 rfl ?_
            have hK9 := hK.sub (tys' := []) [] rfl
            exact W.iret (v := x_21) hx hb hr (fun t ht hW => ⟨⟨x_21, j0_h0_f10, rfl, (Or.inr ⟨g_22, g_9, g_10, (by have := r_h0_f10_j0_h0_f10; show h0_f10.toInt + 0 ≤ j0_h0_f10.toInt; omega), (by have := b_18; have := (g_9).2; have := (g_10).1; show j0_h0_f10.toInt ≤ h0_f9.toInt + (-1); omega), ⟨Or.inr (by rw [ex_21, ex_13, ex_11]), Or.inr (by rw [← ex_11, ← ex_13]; exact c_14)⟩, (hR.trans hEX).symm⟩), by rw [ht]; exact hP, va_K.moved hW.alike hK9, hD⟩, hS.F ht⟩) hS.2.2 dX12_look_76
        · replace hEX := hEX.trans (if_pos c_14)
          have g_23 : RG x_13 32 32 := RG_eq1 (RG_any x_13) (RG_k 32 32 rfl) c_14 (by decide +kernel)
          refine lv_aload_n hx hb dX12_look_30 rfl (lv_at hl 0 rfl) ?_
          refine lv_dup hx hb dX12_look_31 rfl ?_
          refine va_get (D := (dC, dI)) (ci := 12) (v := .int j0_h0_f10) (C := RX12) (T := TX12) (N := 54) hx hb hts iw_c_X12_look_X12 hown hK hP 0 rfl rfl 10 (by decide +kernel) (hts (.fieldLink RX12 134 "BuoyVoteModel" "at" "I") (List.mem_of_getElem? (i := 1) rfl)) (fun _ h9 => h9) rfl dX12_look_32 ?_
          refine lv_iconst (v := 1) hx hb dX12_look_35 kc_iconst_1 ?_
          refine lv_iadd hx hb dX12_look_36 ?_
          refine lv_topi (fun x_24 ex_24 => ?_)
          replace hEX := hEX.trans (exl_eq ex_24)
          have g_25 : RG x_24 1 240 := RG_add ex_24 g_9 (RG_k 1 1 rfl) (by decide +kernel)
          have q_26 : x_24.toInt = j0_h0_f10.toInt + 1 := eq_add ex_24 g_9 (q := 1) rfl (by decide +kernel)
          refine va_put (D := (dC, dI)) (ci := 12) (v := .int x_24) (ty := .int) (C := RX12) (T := TX12) (N := 54) hx hb hts iw_c_X12_look_X12 tyX12 tyX12_ok nmX12 hown hK hP hD hS 0 rfl rfl 10 (by decide +kernel) (hts (.fieldLink RX12 134 "BuoyVoteModel" "at" "I") (List.mem_of_getElem? (i := 1) rfl)) (fun _ h9 => h9) rfl (by decide +kernel) rfl rfl (Nat.le_of_ble_eq_true rfl) dX12_look_37 (fun H locs hP hD hS => ?_)
          as_aux_lemma =>
          have hP : va_P (dC, dI) vwCl (wd_c_X12_look h0 h0_f0 h0_1 h0_2 h0_3 h0_4 h0_5 h0_f6 h0_f7 h0_f8 h0_f9 x_24 (-1) h0_f12 h0_f13 h0_f14 h0_15 h0_16 h0_f17 h0_18 h0_19 h0_20 h0_21 h0_22 h0_23 h0_24 h0_25 h0_f26 h0_f27 h0_f28 h0_f29 h0_f30 h0_f31 h0_32 h0_33 h0_f34 h0_35 h0_36 h0_37 h0_38 h0_39 h0_40 h0_f41 h0_f42 h0_f43 h0_f44 h0_45 h0_46 h0_47 h0_48 h0_49 h0_50 h0_f51 h0_52 h0_f53 h0_5 h0_5k tN h0_5c) H := hP
          have hD : va_D A (wd_c_X12_look h0 h0_f0 h0_1 h0_2 h0_3 h0_4 h0_5 h0_f6 h0_f7 h0_f8 h0_f9 x_24 (-1) h0_f12 h0_f13 h0_f14 h0_15 h0_16 h0_f17 h0_18 h0_19 h0_20 h0_21 h0_22 h0_23 h0_24 h0_25 h0_f26 h0_f27 h0_f28 h0_f29 h0_f30 h0_f31 h0_32 h0_33 h0_f34 h0_35 h0_36 h0_37 h0_38 h0_39 h0_40 h0_f41 h0_f42 h0_f43 h0_f44 h0_45 h0_46 h0_47 h0_48 h0_49 h0_50 h0_f51 h0_52 h0_f53 h0_5 h0_5k tN h0_5c) := hD
          refine lv_goto (tgt := 0) hx hb dX12_look_40 rfl ?_
          exact hU _ _ _ (ih0 x_24 (mu_s (MU_add ex_24 g_9 (q := 1) rfl (by decide +kernel)) hM0) g_h0_f10 g_h0_f17 g_h0_f26 g_h0_f27 g_h0_f28 g_h0_f29 g_h0_f30 g_h0_f31 g_h0_f34 g_h0_f41 g_h0_f51 g_h0_f53 g_h0_f6 g_h0_f7 g_h0_f8 (RG_w g_10 (by decide +kernel)) (RG_w g_25 (by decide +kernel)) (by have := r_h0_f10_j0_h0_f10; have := q_26; omega) hEX _ _ _ hP hD hS (lv_sub hl [0] rfl))
  refine hG _ _ _ ?_
  exact hU _ _ _ (J0 exF h0_f10 MU_F g_h0_f10 g_h0_f17 g_h0_f26 g_h0_f27 g_h0_f28 g_h0_f29 g_h0_f30 g_h0_f31 g_h0_f34 g_h0_f41 g_h0_f51 g_h0_f53 g_h0_f6 g_h0_f7 g_h0_f8 g_h0_f9 g_h0_f10 (by omega) hEX _ _ _ hP hD hS (lv_sub hl [0] rfl))
noncomputable def wf_c_J0_coder_7d493_6 : List Cond := .code yJ0_coder_7d493 cJ0_coder_7d493 1 (some .byte) :: ([.fieldLink RJ0 38 "java/lang/String" "COMPACT_STRINGS" "Z", .fieldLink RJ0 15 "java/lang/String" "coder" "B"])
set_option maxHeartbeats 4000000 in
set_option maxRecDepth 100000 in
theorem c_J0_coder_7d493_6 (l : Launch) (dC : Nat → ClassId) (dI : Nat → Nat → Nat) (sz : Nat) (ts10 : Nat) : Met l yJ0_coder_7d493 wf_c_J0_coder_7d493_6 ({ frames := 0, cells := 0, slots := 0, locals := 0 }) (va_Pc [.ref ts10] (fun U => U.heap.size = sz ∧ va_P (dC, dI) vwCl [] U.heap ∧ va_K (dC, dI) vwCl [] U ∧ va_D (fun _ => True) [] ∧ va_Z "java/lang/String" "COMPACT_STRINGS" "Z" (.int 1) (va_A [] sz) U U.heap ∧ va_OF "java/lang/String" "coder" "B" (.int 0) ts10 (va_A [] sz) U U.heap)) (va_Qi (fun (r : Int32) (u : Unit) => (r = 0 ∧ r = fx_c_J0_coder_7d493_6)) (fun (u : Unit) t => va_P (dC, dI) vwCl [] t.heap ∧ va_K (dC, dI) vwCl [] t ∧ va_D (va_A [] sz) []) (va_A [] sz)) 0 0 (va_A [] sz) := by
  refine Met.ofW (cc := cJ0_coder_7d493) (maxL := 1) (ret := (some .byte)) (by decide +kernel) rfl ?_
  intro p e s m args below meth c s₁ B hml hv
  obtain ⟨rfl, hsz, hP, hK, hD0, hE_10, hE_64⟩ := hv
  have hx := B.exec
  have hb := B.bytes
  have hr := B.returns
  have hts := atoms_spec (ws := wf_c_J0_coder_7d493_6) B.pre
  have hown : s.vm.findClass RJ0 = some m.cls := findClass_of_methodNamed B.named
  have hlocks := B.notSynchronized
  subst hsz
  have hD := hD0.self (sz := s.heap.size)
  generalize hAe : va_A [] s.heap.size = A at hD hE_10 hE_64 ⊢
  have hA : ∀ q : Nat, s.heap.size ≤ q → A q := fun q h => by rw [← hAe]; exact Or.inr h
  have hP : va_P (dC, dI) vwCl [] s.heap := hP
  have hl := lv_entry ([.ref ts10]) (n := 1) (Nat.le_of_ble_eq_true rfl)
  rw [lg_entry_eq]
  generalize (lg_sl ([.ref ts10]) ++ List.replicate (1 - (lg_sl ([.ref ts10])).length) Slot.unset).toArray = ls at hl ⊢
  have hl : lv_has ls 1 [(0, .ref ts10)] := hl
  obtain ⟨H, hHe⟩ : ∃ H : Heap, s.heap = H := ⟨_, rfl⟩
  have hS : va_S A s.heap H [] := by rw [hHe]; exact va_S.rf
  have hP : va_P (dC, dI) vwCl [] H := by rw [← hHe]; exact hP
  rw [hHe]
  obtain ⟨RES, hR⟩ : ∃ z, fx_c_J0_coder_7d493_6 = z := ⟨_, rfl⟩
  have hEX : RES = fx_c_J0_coder_7d493_6 := hR.symm
  refine va_gets hx hb hE_10 hS hown (hts (.fieldLink RJ0 38 "java/lang/String" "COMPACT_STRINGS" "Z") (List.mem_of_getElem? (i := 1) rfl)) (fun _ h9 => h9) dJ0_coder_7d493_0 ?_
  as_aux_lemma =>
  refine lv_if_eq (tgt := 13) hx hb dJ0_coder_7d493_3 rfl (fun c_1 => absurd c_1 (by decide +kernel)) (fun c_1 => ?_)
  refine lv_aload_n hx hb dJ0_coder_7d493_6 rfl (lv_at hl 0 rfl) ?_
  refine vk_getf hx hb hE_64 hS hown (hts (.fieldLink RJ0 15 "java/lang/String" "coder" "B") (List.mem_of_getElem? (i := 2) rfl)) (fun _ h9 => h9) dJ0_coder_7d493_7 ?_
  refine lv_goto (tgt := 14) hx hb dJ0_coder_7d493_10 rfl ?_
  have hK9 := hK.sub (tys' := []) [] rfl
  exact W.zret (v := 0) hx hb hr rfl (fun t ht hW => ⟨⟨0, (), rfl, ⟨rfl, (hR.trans hEX).symm⟩, by rw [ht]; exact hP, va_K.moved hW.alike hK9, hD⟩, hS.F ht⟩) hS.2.2 dJ0_coder_7d493_14
noncomputable def wf_c_J0_length_8abf5_6 : List Cond := .code yJ0_length_8abf5 cJ0_length_8abf5 1 (some .int) :: ([.fieldLink RJ0 9 "java/lang/String" "value" "[B", .methodLink RJ0 335 yJ0_coder_7d493, .instanceMethod yJ0_coder_7d493, .selects RJ0 yJ0_coder_7d493 yJ0_coder_7d493, .initialized RJ0, .code yJ0_coder_7d493 cJ0_coder_7d493 1 (some .byte), .fieldLink RJ0 38 "java/lang/String" "COMPACT_STRINGS" "Z", .fieldLink RJ0 15 "java/lang/String" "coder" "B"])
set_option maxRecDepth 20000 in
theorem gf_c_J0_length_8abf5_6_c_J0_coder_7d493_6 : GoodIn wf_c_J0_length_8abf5_6 (wsV RJ0 335 RJ0 yJ0_coder_7d493 wf_c_J0_coder_7d493_6) := goodIn_app (gi_l [2, 3, 4, 5] rfl rfl) (gi_cons (j := 6) rfl rfl (gi_l [7, 8] rfl rfl))
set_option maxHeartbeats 4000000 in
set_option maxRecDepth 100000 in
theorem c_J0_length_8abf5_6 (l : Launch) (dC : Nat → ClassId) (dI : Nat → Nat → Nat) (sz : Nat) (ts10 : Nat) (tv10 : Nat) : Met l yJ0_length_8abf5 wf_c_J0_length_8abf5_6 ({ frames := 1, cells := 0, slots := 0, locals := 20 }) (va_Pc [.ref ts10] (fun U => U.heap.size = sz ∧ va_P (dC, dI) vwCl [] U.heap ∧ va_K (dC, dI) vwCl [] U ∧ va_D (fun _ => True) [] ∧ va_OF "java/lang/String" "value" "[B" (.ref tv10) ts10 (va_A [] sz) U U.heap ∧ va_T .byte tv10 4 (fun j => .int ([120, 121, 115, 118].getD j 0)) (va_A [] sz) U U.heap ∧ va_Z "java/lang/String" "COMPACT_STRINGS" "Z" (.int 1) (va_A [] sz) U U.heap ∧ va_OF "java/lang/String" "coder" "B" (.int 0) ts10 (va_A [] sz) U U.heap ∧ va_O "java/lang/String" ts10 (va_A [] sz) U U.heap)) (va_Qi (fun (r : Int32) (u : Unit) => (r = 4 ∧ r = fx_c_J0_length_8abf5_6)) (fun (u : Unit) t => va_P (dC, dI) vwCl [] t.heap ∧ va_K (dC, dI) vwCl [] t ∧ va_D (va_A [] sz) []) (va_A [] sz)) 0 0 (va_A [] sz) := by
  refine Met.ofW (cc := cJ0_length_8abf5) (maxL := 1) (ret := (some .int)) (by decide +kernel) rfl ?_
  intro p e s m args below meth c s₁ B hml hv
  obtain ⟨rfl, hsz, hP, hK, hD0, hE_65, hE_66, hE_10, hE_64, hE_63⟩ := hv
  have hx := B.exec
  have hb := B.bytes
  have hr := B.returns
  have hts := atoms_spec (ws := wf_c_J0_length_8abf5_6) B.pre
  have hown : s.vm.findClass RJ0 = some m.cls := findClass_of_methodNamed B.named
  have hlocks := B.notSynchronized
  subst hsz
  have hD := hD0.self (sz := s.heap.size)
  generalize hAe : va_A [] s.heap.size = A at hD hE_65 hE_66 hE_10 hE_64 hE_63 ⊢
  have hA : ∀ q : Nat, s.heap.size ≤ q → A q := fun q h => by rw [← hAe]; exact Or.inr h
  have hP : va_P (dC, dI) vwCl [] s.heap := hP
  have hl := lv_entry ([.ref ts10]) (n := 1) (Nat.le_of_ble_eq_true rfl)
  rw [lg_entry_eq]
  generalize (lg_sl ([.ref ts10]) ++ List.replicate (1 - (lg_sl ([.ref ts10])).length) Slot.unset).toArray = ls at hl ⊢
  have hl : lv_has ls 1 [(0, .ref ts10)] := hl
  obtain ⟨H, hHe⟩ : ∃ H : Heap, s.heap = H := ⟨_, rfl⟩
  have hS : va_S A s.heap H [] := by rw [hHe]; exact va_S.rf
  have hP : va_P (dC, dI) vwCl [] H := by rw [← hHe]; exact hP
  rw [hHe]
  obtain ⟨RES, hR⟩ : ∃ z, fx_c_J0_length_8abf5_6 = z := ⟨_, rfl⟩
  have hEX : RES = fx_c_J0_length_8abf5_6 := hR.symm
  refine lv_aload_n hx hb dJ0_length_8abf5_0 rfl (lv_at hl 0 rfl) ?_
  as_aux_lemma =>
  refine vk_getf hx hb hE_65 hS hown (hts (.fieldLink RJ0 9 "java/lang/String" "value" "[B") (List.mem_of_getElem? (i := 1) rfl)) (fun _ h9 => h9) dJ0_length_8abf5_1 ?_
  refine va_tlen (v := 4) hx hb hE_66 hS rfl dJ0_length_8abf5_4 ?_
  refine lv_aload_n hx hb dJ0_length_8abf5_5 rfl (lv_at hl 0 rfl) ?_
  obtain ⟨hPc, hDc, hFc, hqc⟩ := cl_cut (wc := []) hP hD hS hA [] (by decide +kernel) rfl
  have hKc := hK.sub (tys' := []) [] rfl
  have hrv := bv_Orecv hE_63 hS
  refine va_calli (va_runV (As := []) (rest := [.int 4]) ⟨hx, hb, hml, hown, hts⟩ (c_J0_coder_7d493_6 l dC dI H.size ts10) (cwV 0 hts gf_c_J0_length_8abf5_6_c_J0_coder_7d493_6 rfl rfl rfl mdV_J0_coder_7d493 ⟨Nat.le_of_ble_eq_true rfl, Nat.le_of_ble_eq_true rfl⟩) ⟨fun a U g mk q => by obtain ⟨q0, q1, qP, qK, qD, qE0, qE1⟩ := q; exact ⟨q0, q1, qP, va_K.moved (u := U) (U := U.calling g mk a) (Vm.Alike.refl U.vm) qK, qD, va_Z.moved (u := U) (U := U.calling g mk a) (Vm.Alike.refl U.vm) qE0, va_OF.moved (u := U) (U := U.calling g mk a) (Vm.Alike.refl U.vm) qE1⟩, hrv, fun U hU hW => ⟨rfl, by rw [hU], by rw [hU]; exact hPc, va_K.moved hW.alike hKc, hDc.weaken (fun _ _ _ _ => trivial), va_Z.moved hW.alike (by rw [hU]; exact (hE_10.kept hS.2.1).narrow hFc), va_OF.moved hW.alike (by rw [hU]; exact (hE_64.kept hS.2.1).narrow hFc)⟩⟩ rfl rfl hl.1 rfl (lv_room (Nat.le_of_ble_eq_true rfl)) dJ0_length_8abf5_6 ⟨Nat.le_of_ble_eq_true rfl, Nat.le_of_ble_eq_true rfl⟩) hS (fun q _ h => hFc q h) hFc (fun r_1 u t H1 locs ht hvm hw hB hz1 hk1 hS => ?_)
  obtain ⟨hP1, hK1, hD1⟩ := hB
  rw [ht] at hP1
  have hP := bv_still hP hk1
  generalize H1 = H at hP hS ⊢
  as_aux_lemma =>
  rcases hw with ⟨h_2, h_3⟩
  have h_3 : r_1 = _ := h_3
  replace hEX := hEX.trans (exc1_eq h_3)
  rw [h_2]
  refine lv_ishr hx hb dJ0_length_8abf5_9 ?_
  refine lv_topi (fun x_4 ex_4 => ?_)
  obtain rfl : x_4 = 4 := ex_4.trans (by decide +kernel)
  have hK9 := hK.sub (tys' := []) [] rfl
  exact W.iret (v := 4) hx hb hr (fun t ht hW => ⟨⟨4, (), rfl, ⟨rfl, (hR.trans hEX).symm⟩, by rw [ht]; exact hP, va_K.moved hW.alike hK9, hD⟩, hS.F ht⟩) hS.2.2 dJ0_length_8abf5_10
noncomputable def wf_c_X12_usual_4 : List Cond := .code yX12_usual cX12_usual 2 (some .int) :: ([])
set_option maxHeartbeats 4000000 in
set_option maxRecDepth 100000 in
theorem c_X12_usual_4 (l : Launch) (dC : Nat → ClassId) (dI : Nat → Nat → Nat) (sz : Nat) (p0 : Int32) (p1 : Int32) (g_p0 : RG p0 99 99) (g_p1 : RG p1 0 0) : Met l yX12_usual wf_c_X12_usual_4 ({ frames := 0, cells := 0, slots := 0, locals := 0 }) (va_Pc [.int p0, .int p1] (fun U => U.heap.size = sz ∧ va_P (dC, dI) vwCl [] U.heap ∧ va_K (dC, dI) vwCl [] U ∧ va_D (fun _ => True) [])) (va_Qi (fun (r : Int32) (u : Unit) => (r = 0 ∧ r = fx_c_X12_usual_4 p0 p1)) (fun (u : Unit) t => va_P (dC, dI) vwCl [] t.heap ∧ va_K (dC, dI) vwCl [] t ∧ va_D (va_A [] sz) []) (va_A [] sz)) 0 0 (va_A [] sz) := by
  refine Met.ofW (cc := cX12_usual) (maxL := 2) (ret := (some .int)) (by decide +kernel) rfl ?_
  intro p e s m args below meth c s₁ B hml hv
  obtain ⟨rfl, hsz, hP, hK, hD0⟩ := hv
  have hx := B.exec
  have hb := B.bytes
  have hr := B.returns
  have hts := atoms_spec (ws := wf_c_X12_usual_4) B.pre
  have hown : s.vm.findClass RX12 = some m.cls := findClass_of_methodNamed B.named
  have hlocks := B.notSynchronized
  subst hsz
  have hD := hD0.self (sz := s.heap.size)
  generalize hAe : va_A [] s.heap.size = A at hD ⊢
  have hA : ∀ q : Nat, s.heap.size ≤ q → A q := fun q h => by rw [← hAe]; exact Or.inr h
  have hP : va_P (dC, dI) vwCl [] s.heap := hP
  have hl := lv_entry ([.int p0, .int p1]) (n := 2) (Nat.le_of_ble_eq_true rfl)
  rw [lg_entry_eq]
  generalize (lg_sl ([.int p0, .int p1]) ++ List.replicate (2 - (lg_sl ([.int p0, .int p1])).length) Slot.unset).toArray = ls at hl ⊢
  have hl : lv_has ls 2 [(0, .int p0), (1, .int p1)] := hl
  obtain ⟨H, hHe⟩ : ∃ H : Heap, s.heap = H := ⟨_, rfl⟩
  have hS : va_S A s.heap H [] := by rw [hHe]; exact va_S.rf
  have hP : va_P (dC, dI) vwCl [] H := by rw [← hHe]; exact hP
  rw [hHe]
  obtain ⟨RES, hR⟩ : ∃ z, fx_c_X12_usual_4 p0 p1 = z := ⟨_, rfl⟩
  have hEX : RES = fx_c_X12_usual_4 p0 p1 := hR.symm
  refine lv_iload_n hx hb dX12_usual_0 rfl (lv_at hl 0 rfl) ?_
  as_aux_lemma =>
  refine lv_bipush (v := 115) hx hb dX12_usual_1 kc_bipush_115 ?_
  refine lv_icmp_ne (tgt := 36) hx hb dX12_usual_3 rfl (fun c_1 => ?_) (fun c_1 => ?_)
  · replace hEX := hEX.trans (if_neg c_1)
    refine lv_iload_n hx hb dX12_usual_36 rfl (lv_at hl 0 rfl) ?_
    refine lv_bipush (v := 99) hx hb dX12_usual_37 kc_bipush_99 ?_
    refine lv_icmp_ne (tgt := 62) hx hb dX12_usual_39 rfl (fun c_2 => ?_) (fun c_2 => ?_)
    · replace hEX := hEX.trans (if_neg c_2)
      exact RG_dead (RG_ne1 g_p0 (q := 99) rfl c_2 (a' := 100) (b' := 99) (by decide +kernel)) (by decide +kernel)
    · replace hEX := hEX.trans (if_pos c_2)
      refine lv_iload_n hx hb dX12_usual_42 rfl (lv_at hl 1 rfl) ?_
      refine lv_iconst (v := 2) hx hb dX12_usual_43 kc_iconst_2 ?_
      refine lv_icmp_ne (tgt := 51) hx hb dX12_usual_44 rfl (fun c_3 => ?_) (fun c_3 => ?_)
      · replace hEX := hEX.trans (if_neg c_3)
        refine lv_iload_n hx hb dX12_usual_51 rfl (lv_at hl 1 rfl) ?_
        as_aux_lemma =>
        refine lv_iconst (v := 3) hx hb dX12_usual_52 kc_iconst_3 ?_
        refine lv_icmp_ne (tgt := 60) hx hb dX12_usual_53 rfl (fun c_4 => ?_) (fun c_4 => ?_)
        · replace hEX := hEX.trans (if_neg c_4)
          refine lv_iconst (v := 0) hx hb dX12_usual_60 kc_iconst_0 ?_
          have hK9 := hK.sub (tys' := []) [] rfl
          exact W.iret (v := 0) hx hb hr (fun t ht hW => ⟨⟨0, (), rfl, ⟨rfl, (hR.trans hEX).symm⟩, by rw [ht]; exact hP, va_K.moved hW.alike hK9, hD⟩, hS.F ht⟩) hS.2.2 dX12_usual_61
        · replace hEX := hEX.trans (if_pos c_4)
          exact RG_dead (RG_eq1 g_p1 (RG_k 3 3 rfl) c_4 (a' := 3) (b' := 0) (by decide +kernel)) (by decide +kernel)
      · replace hEX := hEX.trans (if_pos c_3)
        exact RG_dead (RG_eq1 g_p1 (RG_k 2 2 rfl) c_3 (a' := 2) (b' := 0) (by decide +kernel)) (by decide +kernel)
  · replace hEX := hEX.trans (if_pos c_1)
    exact RG_dead (RG_eq1 g_p0 (RG_k 115 115 rfl) c_1 (a' := 115) (b' := 99) (by decide +kernel)) (by decide +kernel)
noncomputable def wf_c_X12_usual_5 : List Cond := .code yX12_usual cX12_usual 2 (some .int) :: ([])
set_option maxHeartbeats 4000000 in
set_option maxRecDepth 100000 in
theorem c_X12_usual_5 (l : Launch) (dC : Nat → ClassId) (dI : Nat → Nat → Nat) (sz : Nat) (p0 : Int32) (p1 : Int32) (g_p0 : RG p0 99 99) (g_p1 : RG p1 0 1) : Met l yX12_usual wf_c_X12_usual_5 ({ frames := 0, cells := 0, slots := 0, locals := 0 }) (va_Pc [.int p0, .int p1] (fun U => U.heap.size = sz ∧ va_P (dC, dI) vwCl [] U.heap ∧ va_K (dC, dI) vwCl [] U ∧ va_D (fun _ => True) [])) (va_Qi (fun (r : Int32) (u : Unit) => (r = 0 ∧ r = fx_c_X12_usual_5 p0 p1)) (fun (u : Unit) t => va_P (dC, dI) vwCl [] t.heap ∧ va_K (dC, dI) vwCl [] t ∧ va_D (va_A [] sz) []) (va_A [] sz)) 0 0 (va_A [] sz) := by
  refine Met.ofW (cc := cX12_usual) (maxL := 2) (ret := (some .int)) (by decide +kernel) rfl ?_
  intro p e s m args below meth c s₁ B hml hv
  obtain ⟨rfl, hsz, hP, hK, hD0⟩ := hv
  have hx := B.exec
  have hb := B.bytes
  have hr := B.returns
  have hts := atoms_spec (ws := wf_c_X12_usual_5) B.pre
  have hown : s.vm.findClass RX12 = some m.cls := findClass_of_methodNamed B.named
  have hlocks := B.notSynchronized
  subst hsz
  have hD := hD0.self (sz := s.heap.size)
  generalize hAe : va_A [] s.heap.size = A at hD ⊢
  have hA : ∀ q : Nat, s.heap.size ≤ q → A q := fun q h => by rw [← hAe]; exact Or.inr h
  have hP : va_P (dC, dI) vwCl [] s.heap := hP
  have hl := lv_entry ([.int p0, .int p1]) (n := 2) (Nat.le_of_ble_eq_true rfl)
  rw [lg_entry_eq]
  generalize (lg_sl ([.int p0, .int p1]) ++ List.replicate (2 - (lg_sl ([.int p0, .int p1])).length) Slot.unset).toArray = ls at hl ⊢
  have hl : lv_has ls 2 [(0, .int p0), (1, .int p1)] := hl
  obtain ⟨H, hHe⟩ : ∃ H : Heap, s.heap = H := ⟨_, rfl⟩
  have hS : va_S A s.heap H [] := by rw [hHe]; exact va_S.rf
  have hP : va_P (dC, dI) vwCl [] H := by rw [← hHe]; exact hP
  rw [hHe]
  obtain ⟨RES, hR⟩ : ∃ z, fx_c_X12_usual_5 p0 p1 = z := ⟨_, rfl⟩
  have hEX : RES = fx_c_X12_usual_5 p0 p1 := hR.symm
  refine lv_iload_n hx hb dX12_usual_0 rfl (lv_at hl 0 rfl) ?_
  as_aux_lemma =>
  refine lv_bipush (v := 115) hx hb dX12_usual_1 kc_bipush_115 ?_
  refine lv_icmp_ne (tgt := 36) hx hb dX12_usual_3 rfl (fun c_1 => ?_) (fun c_1 => ?_)
  · replace hEX := hEX.trans (if_neg c_1)
    refine lv_iload_n hx hb dX12_usual_36 rfl (lv_at hl 0 rfl) ?_
    refine lv_bipush (v := 99) hx hb dX12_usual_37 kc_bipush_99 ?_
    refine lv_icmp_ne (tgt := 62) hx hb dX12_usual_39 rfl (fun c_2 => ?_) (fun c_2 => ?_)
    · replace hEX := hEX.trans (if_neg c_2)
      exact RG_dead (RG_ne1 g_p0 (q := 99) rfl c_2 (a' := 100) (b' := 99) (by decide +kernel)) (by decide +kernel)
    · replace hEX := hEX.trans (if_pos c_2)
      refine lv_iload_n hx hb dX12_usual_42 rfl (lv_at hl 1 rfl) ?_
      refine lv_iconst (v := 2) hx hb dX12_usual_43 kc_iconst_2 ?_
      refine lv_icmp_ne (tgt := 51) hx hb dX12_usual_44 rfl (fun c_3 => ?_) (fun c_3 => ?_)
      · replace hEX := hEX.trans (if_neg c_3)
        refine lv_iload_n hx hb dX12_usual_51 rfl (lv_at hl 1 rfl) ?_
        as_aux_lemma =>
        refine lv_iconst (v := 3) hx hb dX12_usual_52 kc_iconst_3 ?_
        refine lv_icmp_ne (tgt := 60) hx hb dX12_usual_53 rfl (fun c_4 => ?_) (fun c_4 => ?_)
        · replace hEX := hEX.trans (if_neg c_4)
          refine lv_iconst (v := 0) hx hb dX12_usual_60 kc_iconst_0 ?_
          have hK9 := hK.sub (tys' := []) [] rfl
          exact W.iret (v := 0) hx hb hr (fun t ht hW => ⟨⟨0, (), rfl, ⟨rfl, (hR.trans hEX).symm⟩, by rw [ht]; exact hP, va_K.moved hW.alike hK9, hD⟩, hS.F ht⟩) hS.2.2 dX12_usual_61
        · replace hEX := hEX.trans (if_pos c_4)
          exact RG_dead (RG_eq1 g_p1 (RG_k 3 3 rfl) c_4 (a' := 3) (b' := 1) (by decide +kernel)) (by decide +kernel)
      · replace hEX := hEX.trans (if_pos c_3)
        exact RG_dead (RG_eq1 g_p1 (RG_k 2 2 rfl) c_3 (a' := 2) (b' := 1) (by decide +kernel)) (by decide +kernel)
  · replace hEX := hEX.trans (if_pos c_1)
    exact RG_dead (RG_eq1 g_p0 (RG_k 115 115 rfl) c_1 (a' := 115) (b' := 99) (by decide +kernel)) (by decide +kernel)
noncomputable def wf_c_X12_usual_6 : List Cond := .code yX12_usual cX12_usual 2 (some .int) :: ([])
set_option maxHeartbeats 4000000 in
set_option maxRecDepth 100000 in
theorem c_X12_usual_6 (l : Launch) (dC : Nat → ClassId) (dI : Nat → Nat → Nat) (sz : Nat) (p0 : Int32) (p1 : Int32) (g_p0 : RG p0 99 99) (g_p1 : RG p1 0 2) : Met l yX12_usual wf_c_X12_usual_6 ({ frames := 0, cells := 0, slots := 0, locals := 0 }) (va_Pc [.int p0, .int p1] (fun U => U.heap.size = sz ∧ va_P (dC, dI) vwCl [] U.heap ∧ va_K (dC, dI) vwCl [] U ∧ va_D (fun _ => True) [])) (va_Qi (fun (r : Int32) (u : Unit) => (r = 0 ∧ RG p1 0 1 ∧ r = fx_c_X12_usual_6 p0 p1) ∨ (r = 2 ∧ RG p1 2 2 ∧ r = fx_c_X12_usual_6 p0 p1)) (fun (u : Unit) t => va_P (dC, dI) vwCl [] t.heap ∧ va_K (dC, dI) vwCl [] t ∧ va_D (va_A [] sz) []) (va_A [] sz)) 0 0 (va_A [] sz) := by
  refine Met.ofW (cc := cX12_usual) (maxL := 2) (ret := (some .int)) (by decide +kernel) rfl ?_
  intro p e s m args below meth c s₁ B hml hv
  obtain ⟨rfl, hsz, hP, hK, hD0⟩ := hv
  have hx := B.exec
  have hb := B.bytes
  have hr := B.returns
  have hts := atoms_spec (ws := wf_c_X12_usual_6) B.pre
  have hown : s.vm.findClass RX12 = some m.cls := findClass_of_methodNamed B.named
  have hlocks := B.notSynchronized
  subst hsz
  have hD := hD0.self (sz := s.heap.size)
  generalize hAe : va_A [] s.heap.size = A at hD ⊢
  have hA : ∀ q : Nat, s.heap.size ≤ q → A q := fun q h => by rw [← hAe]; exact Or.inr h
  have hP : va_P (dC, dI) vwCl [] s.heap := hP
  have hl := lv_entry ([.int p0, .int p1]) (n := 2) (Nat.le_of_ble_eq_true rfl)
  rw [lg_entry_eq]
  generalize (lg_sl ([.int p0, .int p1]) ++ List.replicate (2 - (lg_sl ([.int p0, .int p1])).length) Slot.unset).toArray = ls at hl ⊢
  have hl : lv_has ls 2 [(0, .int p0), (1, .int p1)] := hl
  obtain ⟨H, hHe⟩ : ∃ H : Heap, s.heap = H := ⟨_, rfl⟩
  have hS : va_S A s.heap H [] := by rw [hHe]; exact va_S.rf
  have hP : va_P (dC, dI) vwCl [] H := by rw [← hHe]; exact hP
  rw [hHe]
  obtain ⟨RES, hR⟩ : ∃ z, fx_c_X12_usual_6 p0 p1 = z := ⟨_, rfl⟩
  have hEX : RES = fx_c_X12_usual_6 p0 p1 := hR.symm
  refine lv_iload_n hx hb dX12_usual_0 rfl (lv_at hl 0 rfl) ?_
  as_aux_lemma =>
  refine lv_bipush (v := 115) hx hb dX12_usual_1 kc_bipush_115 ?_
  refine lv_icmp_ne (tgt := 36) hx hb dX12_usual_3 rfl (fun c_1 => ?_) (fun c_1 => ?_)
  · replace hEX := hEX.trans (if_neg c_1)
    refine lv_iload_n hx hb dX12_usual_36 rfl (lv_at hl 0 rfl) ?_
    refine lv_bipush (v := 99) hx hb dX12_usual_37 kc_bipush_99 ?_
    refine lv_icmp_ne (tgt := 62) hx hb dX12_usual_39 rfl (fun c_2 => ?_) (fun c_2 => ?_)
    · replace hEX := hEX.trans (if_neg c_2)
      exact RG_dead (RG_ne1 g_p0 (q := 99) rfl c_2 (a' := 100) (b' := 99) (by decide +kernel)) (by decide +kernel)
    · replace hEX := hEX.trans (if_pos c_2)
      refine lv_iload_n hx hb dX12_usual_42 rfl (lv_at hl 1 rfl) ?_
      refine lv_iconst (v := 2) hx hb dX12_usual_43 kc_iconst_2 ?_
      refine lv_icmp_ne (tgt := 51) hx hb dX12_usual_44 rfl (fun c_3 => ?_) (fun c_3 => ?_)
      · replace hEX := hEX.trans (if_neg c_3)
        have g_4 : RG p1 0 1 := RG_ne1 g_p1 (q := 2) rfl c_3 (by decide +kernel)
        refine lv_iload_n hx hb dX12_usual_51 rfl (lv_at hl 1 rfl) ?_
        as_aux_lemma =>
        refine lv_iconst (v := 3) hx hb dX12_usual_52 kc_iconst_3 ?_
        refine lv_icmp_ne (tgt := 60) hx hb dX12_usual_53 rfl (fun c_5 => ?_) (fun c_5 => ?_)
        · replace hEX := hEX.trans (if_neg c_5)
          refine lv_iconst (v := 0) hx hb dX12_usual_60 kc_iconst_0 ?_
          have hK9 := hK.sub (tys' := []) [] rfl
          exact W.iret (v := 0) hx hb hr (fun t ht hW => ⟨⟨0, (), rfl, (Or.inl ⟨rfl, g_4, (hR.trans hEX).symm⟩), by rw [ht]; exact hP, va_K.moved hW.alike hK9, hD⟩, hS.F ht⟩) hS.2.2 dX12_usual_61
        · replace hEX := hEX.trans (if_pos c_5)
          exact RG_dead (RG_eq1 g_4 (RG_k 3 3 rfl) c_5 (a' := 3) (b' := 1) (by decide +kernel)) (by decide +kernel)
      · replace hEX := hEX.trans (if_pos c_3)
        have g_6 : RG p1 2 2 := RG_eq1 g_p1 (RG_k 2 2 rfl) c_3 (by decide +kernel)
        refine lv_iconst (v := 2) hx hb dX12_usual_47 kc_iconst_2 ?_
        refine lv_goto (tgt := 61) hx hb dX12_usual_48 rfl ?_
        have hK9 := hK.sub (tys' := []) [] rfl
        exact W.iret (v := 2) hx hb hr (fun t ht hW => ⟨⟨2, (), rfl, (Or.inr ⟨rfl, g_6, (hR.trans hEX).symm⟩), by rw [ht]; exact hP, va_K.moved hW.alike hK9, hD⟩, hS.F ht⟩) hS.2.2 dX12_usual_61
  · replace hEX := hEX.trans (if_pos c_1)
    exact RG_dead (RG_eq1 g_p0 (RG_k 115 115 rfl) c_1 (a' := 115) (b' := 99) (by decide +kernel)) (by decide +kernel)
noncomputable def wf_c_X12_usual_7 : List Cond := .code yX12_usual cX12_usual 2 (some .int) :: ([])
set_option maxHeartbeats 4000000 in
set_option maxRecDepth 100000 in
theorem c_X12_usual_7 (l : Launch) (dC : Nat → ClassId) (dI : Nat → Nat → Nat) (sz : Nat) (p0 : Int32) (p1 : Int32) (g_p0 : RG p0 99 99) (g_p1 : RG p1 0 3) : Met l yX12_usual wf_c_X12_usual_7 ({ frames := 0, cells := 0, slots := 0, locals := 0 }) (va_Pc [.int p0, .int p1] (fun U => U.heap.size = sz ∧ va_P (dC, dI) vwCl [] U.heap ∧ va_K (dC, dI) vwCl [] U ∧ va_D (fun _ => True) [])) (va_Qi (fun (r : Int32) (u : Unit) => (r = 0 ∧ RG p1 0 2 ∧ r = fx_c_X12_usual_7 p0 p1) ∨ (r = 3 ∧ RG p1 3 3 ∧ r = fx_c_X12_usual_7 p0 p1) ∨ (r = 2 ∧ RG p1 2 2 ∧ r = fx_c_X12_usual_7 p0 p1)) (fun (u : Unit) t => va_P (dC, dI) vwCl [] t.heap ∧ va_K (dC, dI) vwCl [] t ∧ va_D (va_A [] sz) []) (va_A [] sz)) 0 0 (va_A [] sz) := by
  refine Met.ofW (cc := cX12_usual) (maxL := 2) (ret := (some .int)) (by decide +kernel) rfl ?_
  intro p e s m args below meth c s₁ B hml hv
  obtain ⟨rfl, hsz, hP, hK, hD0⟩ := hv
  have hx := B.exec
  have hb := B.bytes
  have hr := B.returns
  have hts := atoms_spec (ws := wf_c_X12_usual_7) B.pre
  have hown : s.vm.findClass RX12 = some m.cls := findClass_of_methodNamed B.named
  have hlocks := B.notSynchronized
  subst hsz
  have hD := hD0.self (sz := s.heap.size)
  generalize hAe : va_A [] s.heap.size = A at hD ⊢
  have hA : ∀ q : Nat, s.heap.size ≤ q → A q := fun q h => by rw [← hAe]; exact Or.inr h
  have hP : va_P (dC, dI) vwCl [] s.heap := hP
  have hl := lv_entry ([.int p0, .int p1]) (n := 2) (Nat.le_of_ble_eq_true rfl)
  rw [lg_entry_eq]
  generalize (lg_sl ([.int p0, .int p1]) ++ List.replicate (2 - (lg_sl ([.int p0, .int p1])).length) Slot.unset).toArray = ls at hl ⊢
  have hl : lv_has ls 2 [(0, .int p0), (1, .int p1)] := hl
  obtain ⟨H, hHe⟩ : ∃ H : Heap, s.heap = H := ⟨_, rfl⟩
  have hS : va_S A s.heap H [] := by rw [hHe]; exact va_S.rf
  have hP : va_P (dC, dI) vwCl [] H := by rw [← hHe]; exact hP
  rw [hHe]
  obtain ⟨RES, hR⟩ : ∃ z, fx_c_X12_usual_7 p0 p1 = z := ⟨_, rfl⟩
  have hEX : RES = fx_c_X12_usual_7 p0 p1 := hR.symm
  refine lv_iload_n hx hb dX12_usual_0 rfl (lv_at hl 0 rfl) ?_
  as_aux_lemma =>
  refine lv_bipush (v := 115) hx hb dX12_usual_1 kc_bipush_115 ?_
  refine lv_icmp_ne (tgt := 36) hx hb dX12_usual_3 rfl (fun c_1 => ?_) (fun c_1 => ?_)
  · replace hEX := hEX.trans (if_neg c_1)
    refine lv_iload_n hx hb dX12_usual_36 rfl (lv_at hl 0 rfl) ?_
    refine lv_bipush (v := 99) hx hb dX12_usual_37 kc_bipush_99 ?_
    refine lv_icmp_ne (tgt := 62) hx hb dX12_usual_39 rfl (fun c_2 => ?_) (fun c_2 => ?_)
    · replace hEX := hEX.trans (if_neg c_2)
      exact RG_dead (RG_ne1 g_p0 (q := 99) rfl c_2 (a' := 100) (b' := 99) (by decide +kernel)) (by decide +kernel)
    · replace hEX := hEX.trans (if_pos c_2)
      refine lv_iload_n hx hb dX12_usual_42 rfl (lv_at hl 1 rfl) ?_
      refine lv_iconst (v := 2) hx hb dX12_usual_43 kc_iconst_2 ?_
      refine lv_icmp_ne (tgt := 51) hx hb dX12_usual_44 rfl (fun c_3 => ?_) (fun c_3 => ?_)
      · replace hEX := hEX.trans (if_neg c_3)
        refine lv_iload_n hx hb dX12_usual_51 rfl (lv_at hl 1 rfl) ?_
        as_aux_lemma =>
        refine lv_iconst (v := 3) hx hb dX12_usual_52 kc_iconst_3 ?_
        refine lv_icmp_ne (tgt := 60) hx hb dX12_usual_53 rfl (fun c_4 => ?_) (fun c_4 => ?_)
        · replace hEX := hEX.trans (if_neg c_4)
          have g_5 : RG p1 0 2 := RG_ne1 g_p1 (q := 3) rfl c_4 (by decide +kernel)
          refine lv_iconst (v := 0) hx hb dX12_usual_60 kc_iconst_0 ?_
          have hK9 := hK.sub (tys' := []) [] rfl
          exact W.iret (v := 0) hx hb hr (fun t ht hW => ⟨⟨0, (), rfl, (Or.inl ⟨rfl, g_5, (hR.trans hEX).symm⟩), by rw [ht]; exact hP, va_K.moved hW.alike hK9, hD⟩, hS.F ht⟩) hS.2.2 dX12_usual_61
        · replace hEX := hEX.trans (if_pos c_4)
          have g_6 : RG p1 3 3 := RG_eq1 g_p1 (RG_k 3 3 rfl) c_4 (by decide +kernel)
          refine lv_iconst (v := 3) hx hb dX12_usual_56 kc_iconst_3 ?_
          refine lv_goto (tgt := 61) hx hb dX12_usual_57 rfl ?_
          have hK9 := hK.sub (tys' := []) [] rfl
          exact W.iret (v := 3) hx hb hr (fun t ht hW => ⟨⟨3, (), rfl, (Or.inr (Or.inl ⟨rfl, g_6, (hR.trans hEX).symm⟩)), by rw [ht]; exact hP, va_K.moved hW.alike hK9, hD⟩, hS.F ht⟩) hS.2.2 dX12_usual_61
      · replace hEX := hEX.trans (if_pos c_3)
        have g_7 : RG p1 2 2 := RG_eq1 g_p1 (RG_k 2 2 rfl) c_3 (by decide +kernel)
        refine lv_iconst (v := 2) hx hb dX12_usual_47 kc_iconst_2 ?_
        as_aux_lemma =>
        refine lv_goto (tgt := 61) hx hb dX12_usual_48 rfl ?_
        have hK9 := hK.sub (tys' := []) [] rfl
        exact W.iret (v := 2) hx hb hr (fun t ht hW => ⟨⟨2, (), rfl, (Or.inr (Or.inr ⟨rfl, g_7, (hR.trans hEX).symm⟩)), by rw [ht]; exact hP, va_K.moved hW.alike hK9, hD⟩, hS.F ht⟩) hS.2.2 dX12_usual_61
  · replace hEX := hEX.trans (if_pos c_1)
    exact RG_dead (RG_eq1 g_p0 (RG_k 115 115 rfl) c_1 (a' := 115) (b' := 99) (by decide +kernel)) (by decide +kernel)
noncomputable def wf_c_J0_isLatin1_aae02_6 : List Cond := .code yJ0_isLatin1_aae02 cJ0_isLatin1_aae02 1 (some .boolean) :: ([.fieldLink RJ0 38 "java/lang/String" "COMPACT_STRINGS" "Z", .fieldLink RJ0 15 "java/lang/String" "coder" "B"])
set_option maxHeartbeats 4000000 in
set_option maxRecDepth 100000 in
theorem c_J0_isLatin1_aae02_6 (l : Launch) (dC : Nat → ClassId) (dI : Nat → Nat → Nat) (sz : Nat) (ts10 : Nat) : Met l yJ0_isLatin1_aae02 wf_c_J0_isLatin1_aae02_6 ({ frames := 0, cells := 0, slots := 0, locals := 0 }) (va_Pc [.ref ts10] (fun U => U.heap.size = sz ∧ va_P (dC, dI) vwCl [] U.heap ∧ va_K (dC, dI) vwCl [] U ∧ va_D (fun _ => True) [] ∧ va_Z "java/lang/String" "COMPACT_STRINGS" "Z" (.int 1) (va_A [] sz) U U.heap ∧ va_OF "java/lang/String" "coder" "B" (.int 0) ts10 (va_A [] sz) U U.heap)) (va_Qi (fun (r : Int32) (u : Unit) => (r = 1 ∧ r = fx_c_J0_isLatin1_aae02_6)) (fun (u : Unit) t => va_P (dC, dI) vwCl [] t.heap ∧ va_K (dC, dI) vwCl [] t ∧ va_D (va_A [] sz) []) (va_A [] sz)) 0 0 (va_A [] sz) := by
  refine Met.ofW (cc := cJ0_isLatin1_aae02) (maxL := 1) (ret := (some .boolean)) (by decide +kernel) rfl ?_
  intro p e s m args below meth c s₁ B hml hv
  obtain ⟨rfl, hsz, hP, hK, hD0, hE_10, hE_64⟩ := hv
  have hx := B.exec
  have hb := B.bytes
  have hr := B.returns
  have hts := atoms_spec (ws := wf_c_J0_isLatin1_aae02_6) B.pre
  have hown : s.vm.findClass RJ0 = some m.cls := findClass_of_methodNamed B.named
  have hlocks := B.notSynchronized
  subst hsz
  have hD := hD0.self (sz := s.heap.size)
  generalize hAe : va_A [] s.heap.size = A at hD hE_10 hE_64 ⊢
  have hA : ∀ q : Nat, s.heap.size ≤ q → A q := fun q h => by rw [← hAe]; exact Or.inr h
  have hP : va_P (dC, dI) vwCl [] s.heap := hP
  have hl := lv_entry ([.ref ts10]) (n := 1) (Nat.le_of_ble_eq_true rfl)
  rw [lg_entry_eq]
  generalize (lg_sl ([.ref ts10]) ++ List.replicate (1 - (lg_sl ([.ref ts10])).length) Slot.unset).toArray = ls at hl ⊢
  have hl : lv_has ls 1 [(0, .ref ts10)] := hl
  obtain ⟨H, hHe⟩ : ∃ H : Heap, s.heap = H := ⟨_, rfl⟩
  have hS : va_S A s.heap H [] := by rw [hHe]; exact va_S.rf
  have hP : va_P (dC, dI) vwCl [] H := by rw [← hHe]; exact hP
  rw [hHe]
  obtain ⟨RES, hR⟩ : ∃ z, fx_c_J0_isLatin1_aae02_6 = z := ⟨_, rfl⟩
  have hEX : RES = fx_c_J0_isLatin1_aae02_6 := hR.symm
  refine va_gets hx hb hE_10 hS hown (hts (.fieldLink RJ0 38 "java/lang/String" "COMPACT_STRINGS" "Z") (List.mem_of_getElem? (i := 1) rfl)) (fun _ h9 => h9) dJ0_isLatin1_aae02_0 ?_
  as_aux_lemma =>
  refine lv_if_eq (tgt := 17) hx hb dJ0_isLatin1_aae02_3 rfl (fun c_1 => absurd c_1 (by decide +kernel)) (fun c_1 => ?_)
  refine lv_aload_n hx hb dJ0_isLatin1_aae02_6 rfl (lv_at hl 0 rfl) ?_
  refine vk_getf hx hb hE_64 hS hown (hts (.fieldLink RJ0 15 "java/lang/String" "coder" "B") (List.mem_of_getElem? (i := 2) rfl)) (fun _ h9 => h9) dJ0_isLatin1_aae02_7 ?_
  refine lv_if_ne (tgt := 17) hx hb dJ0_isLatin1_aae02_10 rfl (fun c_2 => absurd c_2 (by decide +kernel)) (fun c_2 => ?_)
  refine lv_iconst (v := 1) hx hb dJ0_isLatin1_aae02_13 kc_iconst_1 ?_
  refine lv_goto (tgt := 18) hx hb dJ0_isLatin1_aae02_14 rfl ?_
  have hK9 := hK.sub (tys' := []) [] rfl
  exact W.zret (v := 1) hx hb hr rfl (fun t ht hW => ⟨⟨1, (), rfl, ⟨rfl, (hR.trans hEX).symm⟩, by rw [ht]; exact hP, va_K.moved hW.alike hK9, hD⟩, hS.F ht⟩) hS.2.2 dJ0_isLatin1_aae02_18
noncomputable def wf_c_J3_checkIndex_8e157 : List Cond := .code yJ3_checkIndex_8e157 cJ3_checkIndex_8e157 3 (some .int) :: ([])
set_option maxHeartbeats 4000000 in
set_option maxRecDepth 100000 in
theorem c_J3_checkIndex_8e157 (l : Launch) (dC : Nat → ClassId) (dI : Nat → Nat → Nat) (sz : Nat) : Met l yJ3_checkIndex_8e157 wf_c_J3_checkIndex_8e157 ({ frames := 0, cells := 0, slots := 0, locals := 0 }) (va_Pc [.int 0, .int 4, .null] (fun U => U.heap.size = sz ∧ va_P (dC, dI) vwCl [] U.heap ∧ va_K (dC, dI) vwCl [] U ∧ va_D (fun _ => True) [])) (va_Qi (fun (r : Int32) (u : Unit) => (r = 0 ∧ r = fx_c_J3_checkIndex_8e157)) (fun (u : Unit) t => va_P (dC, dI) vwCl [] t.heap ∧ va_K (dC, dI) vwCl [] t ∧ va_D (va_A [] sz) []) (va_A [] sz)) 0 0 (va_A [] sz) := by
  refine Met.ofW (cc := cJ3_checkIndex_8e157) (maxL := 3) (ret := (some .int)) (by decide +kernel) rfl ?_
  intro p e s m args below meth c s₁ B hml hv
  obtain ⟨rfl, hsz, hP, hK, hD0⟩ := hv
  have hx := B.exec
  have hb := B.bytes
  have hr := B.returns
  have hts := atoms_spec (ws := wf_c_J3_checkIndex_8e157) B.pre
  have hown : s.vm.findClass RJ3 = some m.cls := findClass_of_methodNamed B.named
  have hlocks := B.notSynchronized
  subst hsz
  have hD := hD0.self (sz := s.heap.size)
  generalize hAe : va_A [] s.heap.size = A at hD ⊢
  have hA : ∀ q : Nat, s.heap.size ≤ q → A q := fun q h => by rw [← hAe]; exact Or.inr h
  have hP : va_P (dC, dI) vwCl [] s.heap := hP
  have hl := lv_entry ([.int 0, .int 4, .null]) (n := 3) (Nat.le_of_ble_eq_true rfl)
  rw [lg_entry_eq]
  generalize (lg_sl ([.int 0, .int 4, .null]) ++ List.replicate (3 - (lg_sl ([.int 0, .int 4, .null])).length) Slot.unset).toArray = ls at hl ⊢
  have hl : lv_has ls 3 [(0, .int 0), (1, .int 4), (2, .null)] := hl
  obtain ⟨H, hHe⟩ : ∃ H : Heap, s.heap = H := ⟨_, rfl⟩
  have hS : va_S A s.heap H [] := by rw [hHe]; exact va_S.rf
  have hP : va_P (dC, dI) vwCl [] H := by rw [← hHe]; exact hP
  rw [hHe]
  obtain ⟨RES, hR⟩ : ∃ z, fx_c_J3_checkIndex_8e157 = z := ⟨_, rfl⟩
  have hEX : RES = fx_c_J3_checkIndex_8e157 := hR.symm
  refine lv_iload_n hx hb dJ3_checkIndex_8e157_0 rfl (lv_at hl 0 rfl) ?_
  as_aux_lemma =>
  refine lv_if_lt (tgt := 9) hx hb dJ3_checkIndex_8e157_1 rfl (fun c_1 => absurd c_1 (by decide +kernel)) (fun c_1 => ?_)
  refine lv_iload_n hx hb dJ3_checkIndex_8e157_4 rfl (lv_at hl 0 rfl) ?_
  refine lv_iload_n hx hb dJ3_checkIndex_8e157_5 rfl (lv_at hl 1 rfl) ?_
  refine lv_icmp_lt (tgt := 16) hx hb dJ3_checkIndex_8e157_6 rfl (fun c_2 => ?_) (fun c_2 => absurd c_2 (by decide +kernel))
  refine lv_iload_n hx hb dJ3_checkIndex_8e157_16 rfl (lv_at hl 0 rfl) ?_
  have hK9 := hK.sub (tys' := []) [] rfl
  exact W.iret (v := 0) hx hb hr (fun t ht hW => ⟨⟨0, (), rfl, ⟨rfl, (hR.trans hEX).symm⟩, by rw [ht]; exact hP, va_K.moved hW.alike hK9, hD⟩, hS.F ht⟩) hS.2.2 dJ3_checkIndex_8e157_17
noncomputable def wf_c_J3_checkIndex_8e157_1 : List Cond := .code yJ3_checkIndex_8e157 cJ3_checkIndex_8e157 3 (some .int) :: ([])
set_option maxHeartbeats 4000000 in
set_option maxRecDepth 100000 in
theorem c_J3_checkIndex_8e157_1 (l : Launch) (dC : Nat → ClassId) (dI : Nat → Nat → Nat) (sz : Nat) (h2 : Nat) : Met l yJ3_checkIndex_8e157 wf_c_J3_checkIndex_8e157_1 ({ frames := 0, cells := 0, slots := 0, locals := 0 }) (va_Pc [.int 0, .int 4, .ref h2] (fun U => U.heap.size = sz ∧ va_P (dC, dI) vwCl [] U.heap ∧ va_K (dC, dI) vwCl [] U ∧ va_D (fun _ => True) [])) (va_Qi (fun (r : Int32) (u : Unit) => (r = 0 ∧ r = fx_c_J3_checkIndex_8e157_1)) (fun (u : Unit) t => va_P (dC, dI) vwCl [] t.heap ∧ va_K (dC, dI) vwCl [] t ∧ va_D (va_A [] sz) []) (va_A [] sz)) 0 0 (va_A [] sz) := by
  refine Met.ofW (cc := cJ3_checkIndex_8e157) (maxL := 3) (ret := (some .int)) (by decide +kernel) rfl ?_
  intro p e s m args below meth c s₁ B hml hv
  obtain ⟨rfl, hsz, hP, hK, hD0⟩ := hv
  have hx := B.exec
  have hb := B.bytes
  have hr := B.returns
  have hts := atoms_spec (ws := wf_c_J3_checkIndex_8e157_1) B.pre
  have hown : s.vm.findClass RJ3 = some m.cls := findClass_of_methodNamed B.named
  have hlocks := B.notSynchronized
  subst hsz
  have hD := hD0.self (sz := s.heap.size)
  generalize hAe : va_A [] s.heap.size = A at hD ⊢
  have hA : ∀ q : Nat, s.heap.size ≤ q → A q := fun q h => by rw [← hAe]; exact Or.inr h
  have hP : va_P (dC, dI) vwCl [] s.heap := hP
  have hl := lv_entry ([.int 0, .int 4, .ref h2]) (n := 3) (Nat.le_of_ble_eq_true rfl)
  rw [lg_entry_eq]
  generalize (lg_sl ([.int 0, .int 4, .ref h2]) ++ List.replicate (3 - (lg_sl ([.int 0, .int 4, .ref h2])).length) Slot.unset).toArray = ls at hl ⊢
  have hl : lv_has ls 3 [(0, .int 0), (1, .int 4), (2, .ref h2)] := hl
  obtain ⟨H, hHe⟩ : ∃ H : Heap, s.heap = H := ⟨_, rfl⟩
  have hS : va_S A s.heap H [] := by rw [hHe]; exact va_S.rf
  have hP : va_P (dC, dI) vwCl [] H := by rw [← hHe]; exact hP
  rw [hHe]
  obtain ⟨RES, hR⟩ : ∃ z, fx_c_J3_checkIndex_8e157_1 = z := ⟨_, rfl⟩
  have hEX : RES = fx_c_J3_checkIndex_8e157_1 := hR.symm
  refine lv_iload_n hx hb dJ3_checkIndex_8e157_0 rfl (lv_at hl 0 rfl) ?_
  as_aux_lemma =>
  refine lv_if_lt (tgt := 9) hx hb dJ3_checkIndex_8e157_1 rfl (fun c_1 => absurd c_1 (by decide +kernel)) (fun c_1 => ?_)
  refine lv_iload_n hx hb dJ3_checkIndex_8e157_4 rfl (lv_at hl 0 rfl) ?_
  refine lv_iload_n hx hb dJ3_checkIndex_8e157_5 rfl (lv_at hl 1 rfl) ?_
  refine lv_icmp_lt (tgt := 16) hx hb dJ3_checkIndex_8e157_6 rfl (fun c_2 => ?_) (fun c_2 => absurd c_2 (by decide +kernel))
  refine lv_iload_n hx hb dJ3_checkIndex_8e157_16 rfl (lv_at hl 0 rfl) ?_
  have hK9 := hK.sub (tys' := []) [] rfl
  exact W.iret (v := 0) hx hb hr (fun t ht hW => ⟨⟨0, (), rfl, ⟨rfl, (hR.trans hEX).symm⟩, by rw [ht]; exact hP, va_K.moved hW.alike hK9, hD⟩, hS.F ht⟩) hS.2.2 dJ3_checkIndex_8e157_17
noncomputable def wf_c_J0_checkIndex_df160 : List Cond := .code yJ0_checkIndex_df160 cJ0_checkIndex_df160 2 none :: ([.fieldLink RJ0 1053 "jdk/internal/util/Preconditions" "SIOOBE_FORMATTER" "Ljava/util/function/BiFunction;", .methodLink RJ0 1059 yJ3_checkIndex_8e157, .static yJ3_checkIndex_8e157, .initialized RJ3, .code yJ3_checkIndex_8e157 cJ3_checkIndex_8e157 3 (some .int)])
set_option maxRecDepth 20000 in
theorem gf_c_J0_checkIndex_df160_c_J3_checkIndex_8e157 : GoodIn wf_c_J0_checkIndex_df160 (va_wsS RJ0 1059 yJ3_checkIndex_8e157 wf_c_J3_checkIndex_8e157) := goodIn_app (gi_l [2, 3, 4] rfl rfl) (gi_cons (j := 5) rfl rfl gi_nil)
set_option maxRecDepth 20000 in
theorem gf_c_J0_checkIndex_df160_c_J3_checkIndex_8e157_1 : GoodIn wf_c_J0_checkIndex_df160 (va_wsS RJ0 1059 yJ3_checkIndex_8e157 wf_c_J3_checkIndex_8e157_1) := goodIn_app (gi_l [2, 3, 4] rfl rfl) (gi_cons (j := 5) rfl rfl gi_nil)
set_option maxHeartbeats 4000000 in
set_option maxRecDepth 100000 in
theorem c_J0_checkIndex_df160 (l : Launch) (dC : Nat → ClassId) (dI : Nat → Nat → Nat) (sz : Nat) : Met l yJ0_checkIndex_df160 wf_c_J0_checkIndex_df160 ({ frames := 1, cells := 0, slots := 0, locals := 22 }) (va_Pc [.int 0, .int 4] (fun U => U.heap.size = sz ∧ va_P (dC, dI) vwCl [] U.heap ∧ va_K (dC, dI) vwCl [] U ∧ va_D (fun _ => True) [] ∧ va_Zq "jdk/internal/util/Preconditions" "SIOOBE_FORMATTER" "Ljava/util/function/BiFunction;" (va_A [] sz) U U.heap)) (va_Qv (fun (u : Unit) => (True)) (fun (u : Unit) t => va_P (dC, dI) vwCl [] t.heap ∧ va_K (dC, dI) vwCl [] t ∧ va_D (va_A [] sz) []) (va_A [] sz)) 0 0 (va_A [] sz) := by
  refine Met.ofW (cc := cJ0_checkIndex_df160) (maxL := 2) (ret := none) (by decide +kernel) rfl ?_
  intro p e s m args below meth c s₁ B hml hv
  obtain ⟨rfl, hsz, hP, hK, hD0, hE_11⟩ := hv
  have hx := B.exec
  have hb := B.bytes
  have hr := B.returns
  have hts := atoms_spec (ws := wf_c_J0_checkIndex_df160) B.pre
  have hown : s.vm.findClass RJ0 = some m.cls := findClass_of_methodNamed B.named
  have hlocks := B.notSynchronized
  subst hsz
  have hD := hD0.self (sz := s.heap.size)
  generalize hAe : va_A [] s.heap.size = A at hD hE_11 ⊢
  have hA : ∀ q : Nat, s.heap.size ≤ q → A q := fun q h => by rw [← hAe]; exact Or.inr h
  have hP : va_P (dC, dI) vwCl [] s.heap := hP
  have hl := lv_entry ([.int 0, .int 4]) (n := 2) (Nat.le_of_ble_eq_true rfl)
  rw [lg_entry_eq]
  generalize (lg_sl ([.int 0, .int 4]) ++ List.replicate (2 - (lg_sl ([.int 0, .int 4])).length) Slot.unset).toArray = ls at hl ⊢
  have hl : lv_has ls 2 [(0, .int 0), (1, .int 4)] := hl
  obtain ⟨H, hHe⟩ : ∃ H : Heap, s.heap = H := ⟨_, rfl⟩
  have hS : va_S A s.heap H [] := by rw [hHe]; exact va_S.rf
  have hP : va_P (dC, dI) vwCl [] H := by rw [← hHe]; exact hP
  rw [hHe]
  refine lv_iload_n hx hb dJ0_checkIndex_df160_0 rfl (lv_at hl 0 rfl) ?_
  as_aux_lemma =>
  refine lv_iload_n hx hb dJ0_checkIndex_df160_1 rfl (lv_at hl 1 rfl) ?_
  rcases hE_11 with hZ | ⟨tz_1, hZ⟩
  · refine va_gets hx hb hZ hS hown (hts (.fieldLink RJ0 1053 "jdk/internal/util/Preconditions" "SIOOBE_FORMATTER" "Ljava/util/function/BiFunction;") (List.mem_of_getElem? (i := 1) rfl)) (fun _ h9 => h9) dJ0_checkIndex_df160_2 ?_
    obtain ⟨hPc, hDc, hFc, hqc⟩ := cl_cut (wc := []) hP hD hS hA [] (by decide +kernel) rfl
    have hKc := hK.sub (tys' := []) [] rfl
    refine va_calli (va_runS (As := [.int 0, .int 4, .null]) (rest := []) ⟨hx, hb, hml, hown, hts⟩ (c_J3_checkIndex_8e157 l dC dI H.size) (va_cwS 3 hts gf_c_J0_checkIndex_df160_c_J3_checkIndex_8e157 rfl rfl rfl md_J3_checkIndex_8e157 ⟨Nat.le_of_ble_eq_true rfl, Nat.le_of_ble_eq_true rfl⟩) ⟨fun a U g mk q => by obtain ⟨q0, q1, qP, qK, qD⟩ := q; exact ⟨q0, q1, qP, va_K.moved (u := U) (U := U.calling g mk a) (Vm.Alike.refl U.vm) qK, qD⟩, fun U hU hW => ⟨rfl, by rw [hU], by rw [hU]; exact hPc, va_K.moved hW.alike hKc, hDc.weaken (fun _ _ _ _ => trivial)⟩⟩ rfl rfl hl.1 rfl (lv_room (Nat.le_of_ble_eq_true rfl)) dJ0_checkIndex_df160_5 ⟨Nat.le_of_ble_eq_true rfl, Nat.le_of_ble_eq_true rfl⟩) hS (fun q _ h => hFc q h) hFc (fun r_2 u t H1 locs ht hvm hw hB hz1 hk1 hS => ?_)
    obtain ⟨hP1, hK1, hD1⟩ := hB
    rw [ht] at hP1
    have hP := bv_still hP hk1
    generalize H1 = H at hP hS ⊢
    as_aux_lemma =>
    rcases hw with ⟨h_3, h_4⟩
    rw [h_3]
    refine lv_pop hx hb dJ0_checkIndex_df160_8 rfl ?_
    have hK9 := hK.sub (tys' := []) [] rfl
    exact W.vret hx hb hr (fun t ht hW => ⟨⟨(), rfl, trivial, by rw [ht]; exact hP, va_K.moved hW.alike hK9, hD⟩, hS.F ht⟩) hS.2.2 dJ0_checkIndex_df160_9
  · refine va_gets hx hb hZ hS hown (hts (.fieldLink RJ0 1053 "jdk/internal/util/Preconditions" "SIOOBE_FORMATTER" "Ljava/util/function/BiFunction;") (List.mem_of_getElem? (i := 1) rfl)) (fun _ h9 => h9) dJ0_checkIndex_df160_2 ?_
    obtain ⟨hPc, hDc, hFc, hqc⟩ := cl_cut (wc := []) hP hD hS hA [] (by decide +kernel) rfl
    have hKc := hK.sub (tys' := []) [] rfl
    refine va_calli (va_runS (As := [.int 0, .int 4, .ref tz_1]) (rest := []) ⟨hx, hb, hml, hown, hts⟩ (c_J3_checkIndex_8e157_1 l dC dI H.size tz_1) (va_cwS 3 hts gf_c_J0_checkIndex_df160_c_J3_checkIndex_8e157_1 rfl rfl rfl md_J3_checkIndex_8e157 ⟨Nat.le_of_ble_eq_true rfl, Nat.le_of_ble_eq_true rfl⟩) ⟨fun a U g mk q => by obtain ⟨q0, q1, qP, qK, qD⟩ := q; exact ⟨q0, q1, qP, va_K.moved (u := U) (U := U.calling g mk a) (Vm.Alike.refl U.vm) qK, qD⟩, fun U hU hW => ⟨rfl, by rw [hU], by rw [hU]; exact hPc, va_K.moved hW.alike hKc, hDc.weaken (fun _ _ _ _ => trivial)⟩⟩ rfl rfl hl.1 rfl (lv_room (Nat.le_of_ble_eq_true rfl)) dJ0_checkIndex_df160_5 ⟨Nat.le_of_ble_eq_true rfl, Nat.le_of_ble_eq_true rfl⟩) hS (fun q _ h => hFc q h) hFc (fun r_5 u t H1 locs ht hvm hw hB hz1 hk1 hS => ?_)
    obtain ⟨hP1, hK1, hD1⟩ := hB
    rw [ht] at hP1
    have hP := bv_still hP hk1
    generalize H1 = H at hP hS ⊢
    as_aux_lemma =>
    rcases hw with ⟨h_6, h_7⟩
    rw [h_6]
    refine lv_pop hx hb dJ0_checkIndex_df160_8 rfl ?_
    have hK9 := hK.sub (tys' := []) [] rfl
    exact W.vret hx hb hr (fun t ht hW => ⟨⟨(), rfl, trivial, by rw [ht]; exact hP, va_K.moved hW.alike hK9, hD⟩, hS.F ht⟩) hS.2.2 dJ0_checkIndex_df160_9
noncomputable def wf_c_J1_charAt_3b067 : List Cond := .code yJ1_charAt_3b067 cJ1_charAt_3b067 2 (some .char) :: ([.methodLink RJ1 9 yJ0_checkIndex_df160, .static yJ0_checkIndex_df160, .initialized RJ0, .code yJ0_checkIndex_df160 cJ0_checkIndex_df160 2 none, .fieldLink RJ0 1053 "jdk/internal/util/Preconditions" "SIOOBE_FORMATTER" "Ljava/util/function/BiFunction;", .methodLink RJ0 1059 yJ3_checkIndex_8e157, .static yJ3_checkIndex_8e157, .initialized RJ3, .code yJ3_checkIndex_8e157 cJ3_checkIndex_8e157 3 (some .int)])
set_option maxRecDepth 20000 in
theorem gf_c_J1_charAt_3b067_c_J0_checkIndex_df160 : GoodIn wf_c_J1_charAt_3b067 (va_wsS RJ1 9 yJ0_checkIndex_df160 wf_c_J0_checkIndex_df160) := goodIn_app (gi_l [1, 2, 3] rfl rfl) (gi_cons (j := 4) rfl rfl (gi_l [5, 6, 7, 8, 9] rfl rfl))
set_option maxHeartbeats 4000000 in
set_option maxRecDepth 100000 in
theorem c_J1_charAt_3b067 (l : Launch) (dC : Nat → ClassId) (dI : Nat → Nat → Nat) (sz : Nat) (tv10 : Nat) : Met l yJ1_charAt_3b067 wf_c_J1_charAt_3b067 ({ frames := 2, cells := 0, slots := 0, locals := 43 }) (va_Pc [.ref tv10, .int 0] (fun U => U.heap.size = sz ∧ va_P (dC, dI) vwCl [] U.heap ∧ va_K (dC, dI) vwCl [] U ∧ va_D (fun _ => True) [] ∧ va_T .byte tv10 4 (fun j => .int ([120, 121, 115, 118].getD j 0)) (va_A [] sz) U U.heap ∧ va_Zq "jdk/internal/util/Preconditions" "SIOOBE_FORMATTER" "Ljava/util/function/BiFunction;" (va_A [] sz) U U.heap)) (va_Qi (fun (r : Int32) (u : Unit) => (r = 120 ∧ r = fx_c_J1_charAt_3b067)) (fun (u : Unit) t => va_P (dC, dI) vwCl [] t.heap ∧ va_K (dC, dI) vwCl [] t ∧ va_D (va_A [] sz) []) (va_A [] sz)) 0 0 (va_A [] sz) := by
  refine Met.ofW (cc := cJ1_charAt_3b067) (maxL := 2) (ret := (some .char)) (by decide +kernel) rfl ?_
  intro p e s m args below meth c s₁ B hml hv
  obtain ⟨rfl, hsz, hP, hK, hD0, hE_66, hE_11⟩ := hv
  have hx := B.exec
  have hb := B.bytes
  have hr := B.returns
  have hts := atoms_spec (ws := wf_c_J1_charAt_3b067) B.pre
  have hown : s.vm.findClass RJ1 = some m.cls := findClass_of_methodNamed B.named
  have hlocks := B.notSynchronized
  subst hsz
  have hD := hD0.self (sz := s.heap.size)
  generalize hAe : va_A [] s.heap.size = A at hD hE_66 hE_11 ⊢
  have hA : ∀ q : Nat, s.heap.size ≤ q → A q := fun q h => by rw [← hAe]; exact Or.inr h
  have hP : va_P (dC, dI) vwCl [] s.heap := hP
  have hl := lv_entry ([.ref tv10, .int 0]) (n := 2) (Nat.le_of_ble_eq_true rfl)
  rw [lg_entry_eq]
  generalize (lg_sl ([.ref tv10, .int 0]) ++ List.replicate (2 - (lg_sl ([.ref tv10, .int 0])).length) Slot.unset).toArray = ls at hl ⊢
  have hl : lv_has ls 2 [(0, .ref tv10), (1, .int 0)] := hl
  obtain ⟨H, hHe⟩ : ∃ H : Heap, s.heap = H := ⟨_, rfl⟩
  have hS : va_S A s.heap H [] := by rw [hHe]; exact va_S.rf
  have hP : va_P (dC, dI) vwCl [] H := by rw [← hHe]; exact hP
  rw [hHe]
  obtain ⟨RES, hR⟩ : ∃ z, fx_c_J1_charAt_3b067 = z := ⟨_, rfl⟩
  have hEX : RES = fx_c_J1_charAt_3b067 := hR.symm
  refine lv_iload_n hx hb dJ1_charAt_3b067_0 rfl (lv_at hl 1 rfl) ?_
  as_aux_lemma =>
  refine lv_aload_n hx hb dJ1_charAt_3b067_1 rfl (lv_at hl 0 rfl) ?_
  refine va_tlen (v := 4) hx hb hE_66 hS rfl dJ1_charAt_3b067_2 ?_
  obtain ⟨hPc, hDc, hFc, hqc⟩ := cl_cut (wc := []) hP hD hS hA [] (by decide +kernel) rfl
  have hKc := hK.sub (tys' := []) [] rfl
  refine va_callv (va_runS (As := [.int 0, .int 4]) (rest := []) ⟨hx, hb, hml, hown, hts⟩ (c_J0_checkIndex_df160 l dC dI H.size) (va_cwS 2 hts gf_c_J1_charAt_3b067_c_J0_checkIndex_df160 rfl rfl rfl md_J0_checkIndex_df160 ⟨Nat.le_of_ble_eq_true rfl, Nat.le_of_ble_eq_true rfl⟩) ⟨fun a U g mk q => by obtain ⟨q0, q1, qP, qK, qD, qE0⟩ := q; exact ⟨q0, q1, qP, va_K.moved (u := U) (U := U.calling g mk a) (Vm.Alike.refl U.vm) qK, qD, va_Zq.moved (u := U) (U := U.calling g mk a) (Vm.Alike.refl U.vm) qE0⟩, fun U hU hW => ⟨rfl, by rw [hU], by rw [hU]; exact hPc, va_K.moved hW.alike hKc, hDc.weaken (fun _ _ _ _ => trivial), va_Zq.moved hW.alike (by rw [hU]; exact (hE_11.kept hS.2.1).narrow hFc)⟩⟩ rfl rfl hl.1 rfl (lv_room (Nat.le_of_ble_eq_true rfl)) dJ1_charAt_3b067_3 ⟨Nat.le_of_ble_eq_true rfl, Nat.le_of_ble_eq_true rfl⟩) hS (fun q _ h => hFc q h) hFc (fun u t H1 locs ht hvm hw hB hz1 hk1 hS => ?_)
  obtain ⟨hP1, hK1, hD1⟩ := hB
  rw [ht] at hP1
  have hP := bv_still hP hk1
  generalize H1 = H at hP hS ⊢
  as_aux_lemma =>
  have h_2 := hw
  refine lv_aload_n hx hb dJ1_charAt_3b067_6 rfl (lv_at hl 0 rfl) ?_
  refine lv_iload_n hx hb dJ1_charAt_3b067_7 rfl (lv_at hl 1 rfl) ?_
  refine va_tb (v := .int 120) hx hb hE_66 hS (by unfold vp_in; decide) rfl dJ1_charAt_3b067_8 ?_
  refine lv_sipush (v := 255) hx hb dJ1_charAt_3b067_9 kc_sipush_255 ?_
  refine lv_iand hx hb dJ1_charAt_3b067_12 ?_
  refine lv_topi (fun x_3 ex_3 => ?_)
  obtain rfl : x_3 = 120 := ex_3.trans (by decide +kernel)
  refine lv_i2c (v := 120) hx hb dJ1_charAt_3b067_13 (by decide +kernel) ?_
  have hK9 := hK.sub (tys' := []) [] rfl
  exact W.zret (v := 120) hx hb hr rfl (fun t ht hW => ⟨⟨120, (), rfl, ⟨rfl, (hR.trans hEX).symm⟩, by rw [ht]; exact hP, va_K.moved hW.alike hK9, hD⟩, hS.F ht⟩) hS.2.2 dJ1_charAt_3b067_14
noncomputable def wf_c_J0_charAt_5068e : List Cond := .code yJ0_charAt_5068e cJ0_charAt_5068e 2 (some .char) :: ([.methodLink RJ0 492 yJ0_isLatin1_aae02, .instanceMethod yJ0_isLatin1_aae02, .selects RJ0 yJ0_isLatin1_aae02 yJ0_isLatin1_aae02, .initialized RJ0, .code yJ0_isLatin1_aae02 cJ0_isLatin1_aae02 1 (some .boolean), .fieldLink RJ0 38 "java/lang/String" "COMPACT_STRINGS" "Z", .fieldLink RJ0 15 "java/lang/String" "coder" "B", .fieldLink RJ0 9 "java/lang/String" "value" "[B", .methodLink RJ0 495 yJ1_charAt_3b067, .static yJ1_charAt_3b067, .initialized RJ1, .code yJ1_charAt_3b067 cJ1_charAt_3b067 2 (some .char), .methodLink RJ1 9 yJ0_checkIndex_df160, .static yJ0_checkIndex_df160, .code yJ0_checkIndex_df160 cJ0_checkIndex_df160 2 none, .fieldLink RJ0 1053 "jdk/internal/util/Preconditions" "SIOOBE_FORMATTER" "Ljava/util/function/BiFunction;", .methodLink RJ0 1059 yJ3_checkIndex_8e157, .static yJ3_checkIndex_8e157, .initialized RJ3, .code yJ3_checkIndex_8e157 cJ3_checkIndex_8e157 3 (some .int)])
set_option maxRecDepth 20000 in
theorem gf_c_J0_charAt_5068e_c_J0_isLatin1_aae02_6 : GoodIn wf_c_J0_charAt_5068e (wsV RJ0 492 RJ0 yJ0_isLatin1_aae02 wf_c_J0_isLatin1_aae02_6) := goodIn_app (gi_l [1, 2, 3, 4] rfl rfl) (gi_cons (j := 5) rfl rfl (gi_l [6, 7] rfl rfl))
set_option maxRecDepth 20000 in
theorem gf_c_J0_charAt_5068e_c_J1_charAt_3b067 : GoodIn wf_c_J0_charAt_5068e (va_wsS RJ0 495 yJ1_charAt_3b067 wf_c_J1_charAt_3b067) := goodIn_app (gi_l [9, 10, 11] rfl rfl) (gi_cons (j := 12) rfl rfl (gi_l [13, 14, 4, 15, 16, 17, 18, 19, 20] rfl rfl))
set_option maxHeartbeats 4000000 in
set_option maxRecDepth 100000 in
theorem c_J0_charAt_5068e (l : Launch) (dC : Nat → ClassId) (dI : Nat → Nat → Nat) (sz : Nat) (ts10 : Nat) (tv10 : Nat) : Met l yJ0_charAt_5068e wf_c_J0_charAt_5068e ({ frames := 3, cells := 0, slots := 0, locals := 64 }) (va_Pc [.ref ts10, .int 0] (fun U => U.heap.size = sz ∧ va_P (dC, dI) vwCl [] U.heap ∧ va_K (dC, dI) vwCl [] U ∧ va_D (fun _ => True) [] ∧ va_Z "java/lang/String" "COMPACT_STRINGS" "Z" (.int 1) (va_A [] sz) U U.heap ∧ va_OF "java/lang/String" "coder" "B" (.int 0) ts10 (va_A [] sz) U U.heap ∧ va_O "java/lang/String" ts10 (va_A [] sz) U U.heap ∧ va_OF "java/lang/String" "value" "[B" (.ref tv10) ts10 (va_A [] sz) U U.heap ∧ va_T .byte tv10 4 (fun j => .int ([120, 121, 115, 118].getD j 0)) (va_A [] sz) U U.heap ∧ va_Zq "jdk/internal/util/Preconditions" "SIOOBE_FORMATTER" "Ljava/util/function/BiFunction;" (va_A [] sz) U U.heap)) (va_Qi (fun (r : Int32) (u : Unit) => (r = 120 ∧ r = fx_c_J0_charAt_5068e)) (fun (u : Unit) t => va_P (dC, dI) vwCl [] t.heap ∧ va_K (dC, dI) vwCl [] t ∧ va_D (va_A [] sz) []) (va_A [] sz)) 0 0 (va_A [] sz) := by
  refine Met.ofW (cc := cJ0_charAt_5068e) (maxL := 2) (ret := (some .char)) (by decide +kernel) rfl ?_
  intro p e s m args below meth c s₁ B hml hv
  obtain ⟨rfl, hsz, hP, hK, hD0, hE_10, hE_64, hE_63, hE_65, hE_66, hE_11⟩ := hv
  have hx := B.exec
  have hb := B.bytes
  have hr := B.returns
  have hts := atoms_spec (ws := wf_c_J0_charAt_5068e) B.pre
  have hown : s.vm.findClass RJ0 = some m.cls := findClass_of_methodNamed B.named
  have hlocks := B.notSynchronized
  subst hsz
  have hD := hD0.self (sz := s.heap.size)
  generalize hAe : va_A [] s.heap.size = A at hD hE_10 hE_64 hE_63 hE_65 hE_66 hE_11 ⊢
  have hA : ∀ q : Nat, s.heap.size ≤ q → A q := fun q h => by rw [← hAe]; exact Or.inr h
  have hP : va_P (dC, dI) vwCl [] s.heap := hP
  have hl := lv_entry ([.ref ts10, .int 0]) (n := 2) (Nat.le_of_ble_eq_true rfl)
  rw [lg_entry_eq]
  generalize (lg_sl ([.ref ts10, .int 0]) ++ List.replicate (2 - (lg_sl ([.ref ts10, .int 0])).length) Slot.unset).toArray = ls at hl ⊢
  have hl : lv_has ls 2 [(0, .ref ts10), (1, .int 0)] := hl
  obtain ⟨H, hHe⟩ : ∃ H : Heap, s.heap = H := ⟨_, rfl⟩
  have hS : va_S A s.heap H [] := by rw [hHe]; exact va_S.rf
  have hP : va_P (dC, dI) vwCl [] H := by rw [← hHe]; exact hP
  rw [hHe]
  obtain ⟨RES, hR⟩ : ∃ z, fx_c_J0_charAt_5068e = z := ⟨_, rfl⟩
  have hEX : RES = fx_c_J0_charAt_5068e := hR.symm
  refine lv_aload_n hx hb dJ0_charAt_5068e_0 rfl (lv_at hl 0 rfl) ?_
  as_aux_lemma =>
  obtain ⟨hPc, hDc, hFc, hqc⟩ := cl_cut (wc := []) hP hD hS hA [] (by decide +kernel) rfl
  have hKc := hK.sub (tys' := []) [] rfl
  have hrv := bv_Orecv hE_63 hS
  refine va_calli (va_runV (As := []) (rest := []) ⟨hx, hb, hml, hown, hts⟩ (c_J0_isLatin1_aae02_6 l dC dI H.size ts10) (cwV 0 hts gf_c_J0_charAt_5068e_c_J0_isLatin1_aae02_6 rfl rfl rfl mdV_J0_isLatin1_aae02 ⟨Nat.le_of_ble_eq_true rfl, Nat.le_of_ble_eq_true rfl⟩) ⟨fun a U g mk q => by obtain ⟨q0, q1, qP, qK, qD, qE0, qE1⟩ := q; exact ⟨q0, q1, qP, va_K.moved (u := U) (U := U.calling g mk a) (Vm.Alike.refl U.vm) qK, qD, va_Z.moved (u := U) (U := U.calling g mk a) (Vm.Alike.refl U.vm) qE0, va_OF.moved (u := U) (U := U.calling g mk a) (Vm.Alike.refl U.vm) qE1⟩, hrv, fun U hU hW => ⟨rfl, by rw [hU], by rw [hU]; exact hPc, va_K.moved hW.alike hKc, hDc.weaken (fun _ _ _ _ => trivial), va_Z.moved hW.alike (by rw [hU]; exact (hE_10.kept hS.2.1).narrow hFc), va_OF.moved hW.alike (by rw [hU]; exact (hE_64.kept hS.2.1).narrow hFc)⟩⟩ rfl rfl hl.1 rfl (lv_room (Nat.le_of_ble_eq_true rfl)) dJ0_charAt_5068e_1 ⟨Nat.le_of_ble_eq_true rfl, Nat.le_of_ble_eq_true rfl⟩) hS (fun q _ h => hFc q h) hFc (fun r_1 u t H1 locs ht hvm hw hB hz1 hk1 hS => ?_)
  obtain ⟨hP1, hK1, hD1⟩ := hB
  rw [ht] at hP1
  have hP := bv_still hP hk1
  generalize H1 = H at hP hS ⊢
  as_aux_lemma =>
  rcases hw with ⟨h_2, h_3⟩
  have h_3 : r_1 = _ := h_3
  replace hEX := hEX.trans (exc1_eq h_3)
  rw [h_2]
  refine lv_if_eq (tgt := 16) hx hb dJ0_charAt_5068e_4 rfl (fun c_4 => absurd c_4 (by decide +kernel)) (fun c_4 => ?_)
  refine lv_aload_n hx hb dJ0_charAt_5068e_7 rfl (lv_at hl 0 rfl) ?_
  refine vk_getf hx hb hE_65 hS hown (hts (.fieldLink RJ0 9 "java/lang/String" "value" "[B") (List.mem_of_getElem? (i := 8) rfl)) (fun _ h9 => h9) dJ0_charAt_5068e_8 ?_
  refine lv_iload_n hx hb dJ0_charAt_5068e_11 rfl (lv_at hl 1 rfl) ?_
  obtain ⟨hPc, hDc, hFc, hqc⟩ := cl_cut (wc := []) hP hD hS hA [] (by decide +kernel) rfl
  have hKc := hK.sub (tys' := []) [] rfl
  refine va_calli (va_runS (As := [.ref tv10, .int 0]) (rest := []) ⟨hx, hb, hml, hown, hts⟩ (c_J1_charAt_3b067 l dC dI H.size tv10) (va_cwS 2 hts gf_c_J0_charAt_5068e_c_J1_charAt_3b067 rfl rfl rfl md_J1_charAt_3b067 ⟨Nat.le_of_ble_eq_true rfl, Nat.le_of_ble_eq_true rfl⟩) ⟨fun a U g mk q => by obtain ⟨q0, q1, qP, qK, qD, qE0, qE1⟩ := q; exact ⟨q0, q1, qP, va_K.moved (u := U) (U := U.calling g mk a) (Vm.Alike.refl U.vm) qK, qD, va_T.moved (u := U) (U := U.calling g mk a) (Vm.Alike.refl U.vm) qE0, va_Zq.moved (u := U) (U := U.calling g mk a) (Vm.Alike.refl U.vm) qE1⟩, fun U hU hW => ⟨rfl, by rw [hU], by rw [hU]; exact hPc, va_K.moved hW.alike hKc, hDc.weaken (fun _ _ _ _ => trivial), va_T.moved hW.alike (by rw [hU]; exact (hE_66.kept hS.2.1).narrow hFc), va_Zq.moved hW.alike (by rw [hU]; exact (hE_11.kept hS.2.1).narrow hFc)⟩⟩ rfl rfl hl.1 rfl (lv_room (Nat.le_of_ble_eq_true rfl)) dJ0_charAt_5068e_12 ⟨Nat.le_of_ble_eq_true rfl, Nat.le_of_ble_eq_true rfl⟩) hS (fun q _ h => hFc q h) hFc (fun r_5 u t H1 locs ht hvm hw hB hz1 hk1 hS => ?_)
  obtain ⟨hP1, hK1, hD1⟩ := hB
  rw [ht] at hP1
  have hP := bv_still hP hk1
  generalize H1 = H at hP hS ⊢
  as_aux_lemma =>
  rcases hw with ⟨h_6, h_7⟩
  have h_7 : r_5 = _ := h_7
  replace hEX := hEX.trans (exc1_eq h_7)
  rw [h_6]
  have hK9 := hK.sub (tys' := []) [] rfl
  exact W.zret (v := 120) hx hb hr rfl (fun t ht hW => ⟨⟨120, (), rfl, ⟨rfl, (hR.trans hEX).symm⟩, by rw [ht]; exact hP, va_K.moved hW.alike hK9, hD⟩, hS.F ht⟩) hS.2.2 dJ0_charAt_5068e_15
noncomputable def wf_c_J3_checkIndex_8e157_2 : List Cond := .code yJ3_checkIndex_8e157 cJ3_checkIndex_8e157 3 (some .int) :: ([])
set_option maxHeartbeats 4000000 in
set_option maxRecDepth 100000 in
theorem c_J3_checkIndex_8e157_2 (l : Launch) (dC : Nat → ClassId) (dI : Nat → Nat → Nat) (sz : Nat) : Met l yJ3_checkIndex_8e157 wf_c_J3_checkIndex_8e157_2 ({ frames := 0, cells := 0, slots := 0, locals := 0 }) (va_Pc [.int 1, .int 4, .null] (fun U => U.heap.size = sz ∧ va_P (dC, dI) vwCl [] U.heap ∧ va_K (dC, dI) vwCl [] U ∧ va_D (fun _ => True) [])) (va_Qi (fun (r : Int32) (u : Unit) => (r = 1 ∧ r = fx_c_J3_checkIndex_8e157_2)) (fun (u : Unit) t => va_P (dC, dI) vwCl [] t.heap ∧ va_K (dC, dI) vwCl [] t ∧ va_D (va_A [] sz) []) (va_A [] sz)) 0 0 (va_A [] sz) := by
  refine Met.ofW (cc := cJ3_checkIndex_8e157) (maxL := 3) (ret := (some .int)) (by decide +kernel) rfl ?_
  intro p e s m args below meth c s₁ B hml hv
  obtain ⟨rfl, hsz, hP, hK, hD0⟩ := hv
  have hx := B.exec
  have hb := B.bytes
  have hr := B.returns
  have hts := atoms_spec (ws := wf_c_J3_checkIndex_8e157_2) B.pre
  have hown : s.vm.findClass RJ3 = some m.cls := findClass_of_methodNamed B.named
  have hlocks := B.notSynchronized
  subst hsz
  have hD := hD0.self (sz := s.heap.size)
  generalize hAe : va_A [] s.heap.size = A at hD ⊢
  have hA : ∀ q : Nat, s.heap.size ≤ q → A q := fun q h => by rw [← hAe]; exact Or.inr h
  have hP : va_P (dC, dI) vwCl [] s.heap := hP
  have hl := lv_entry ([.int 1, .int 4, .null]) (n := 3) (Nat.le_of_ble_eq_true rfl)
  rw [lg_entry_eq]
  generalize (lg_sl ([.int 1, .int 4, .null]) ++ List.replicate (3 - (lg_sl ([.int 1, .int 4, .null])).length) Slot.unset).toArray = ls at hl ⊢
  have hl : lv_has ls 3 [(0, .int 1), (1, .int 4), (2, .null)] := hl
  obtain ⟨H, hHe⟩ : ∃ H : Heap, s.heap = H := ⟨_, rfl⟩
  have hS : va_S A s.heap H [] := by rw [hHe]; exact va_S.rf
  have hP : va_P (dC, dI) vwCl [] H := by rw [← hHe]; exact hP
  rw [hHe]
  obtain ⟨RES, hR⟩ : ∃ z, fx_c_J3_checkIndex_8e157_2 = z := ⟨_, rfl⟩
  have hEX : RES = fx_c_J3_checkIndex_8e157_2 := hR.symm
  refine lv_iload_n hx hb dJ3_checkIndex_8e157_0 rfl (lv_at hl 0 rfl) ?_
  as_aux_lemma =>
  refine lv_if_lt (tgt := 9) hx hb dJ3_checkIndex_8e157_1 rfl (fun c_1 => absurd c_1 (by decide +kernel)) (fun c_1 => ?_)
  refine lv_iload_n hx hb dJ3_checkIndex_8e157_4 rfl (lv_at hl 0 rfl) ?_
  refine lv_iload_n hx hb dJ3_checkIndex_8e157_5 rfl (lv_at hl 1 rfl) ?_
  refine lv_icmp_lt (tgt := 16) hx hb dJ3_checkIndex_8e157_6 rfl (fun c_2 => ?_) (fun c_2 => absurd c_2 (by decide +kernel))
  refine lv_iload_n hx hb dJ3_checkIndex_8e157_16 rfl (lv_at hl 0 rfl) ?_
  have hK9 := hK.sub (tys' := []) [] rfl
  exact W.iret (v := 1) hx hb hr (fun t ht hW => ⟨⟨1, (), rfl, ⟨rfl, (hR.trans hEX).symm⟩, by rw [ht]; exact hP, va_K.moved hW.alike hK9, hD⟩, hS.F ht⟩) hS.2.2 dJ3_checkIndex_8e157_17
noncomputable def wf_c_J3_checkIndex_8e157_3 : List Cond := .code yJ3_checkIndex_8e157 cJ3_checkIndex_8e157 3 (some .int) :: ([])
set_option maxHeartbeats 4000000 in
set_option maxRecDepth 100000 in
theorem c_J3_checkIndex_8e157_3 (l : Launch) (dC : Nat → ClassId) (dI : Nat → Nat → Nat) (sz : Nat) (h2 : Nat) : Met l yJ3_checkIndex_8e157 wf_c_J3_checkIndex_8e157_3 ({ frames := 0, cells := 0, slots := 0, locals := 0 }) (va_Pc [.int 1, .int 4, .ref h2] (fun U => U.heap.size = sz ∧ va_P (dC, dI) vwCl [] U.heap ∧ va_K (dC, dI) vwCl [] U ∧ va_D (fun _ => True) [])) (va_Qi (fun (r : Int32) (u : Unit) => (r = 1 ∧ r = fx_c_J3_checkIndex_8e157_3)) (fun (u : Unit) t => va_P (dC, dI) vwCl [] t.heap ∧ va_K (dC, dI) vwCl [] t ∧ va_D (va_A [] sz) []) (va_A [] sz)) 0 0 (va_A [] sz) := by
  refine Met.ofW (cc := cJ3_checkIndex_8e157) (maxL := 3) (ret := (some .int)) (by decide +kernel) rfl ?_
  intro p e s m args below meth c s₁ B hml hv
  obtain ⟨rfl, hsz, hP, hK, hD0⟩ := hv
  have hx := B.exec
  have hb := B.bytes
  have hr := B.returns
  have hts := atoms_spec (ws := wf_c_J3_checkIndex_8e157_3) B.pre
  have hown : s.vm.findClass RJ3 = some m.cls := findClass_of_methodNamed B.named
  have hlocks := B.notSynchronized
  subst hsz
  have hD := hD0.self (sz := s.heap.size)
  generalize hAe : va_A [] s.heap.size = A at hD ⊢
  have hA : ∀ q : Nat, s.heap.size ≤ q → A q := fun q h => by rw [← hAe]; exact Or.inr h
  have hP : va_P (dC, dI) vwCl [] s.heap := hP
  have hl := lv_entry ([.int 1, .int 4, .ref h2]) (n := 3) (Nat.le_of_ble_eq_true rfl)
  rw [lg_entry_eq]
  generalize (lg_sl ([.int 1, .int 4, .ref h2]) ++ List.replicate (3 - (lg_sl ([.int 1, .int 4, .ref h2])).length) Slot.unset).toArray = ls at hl ⊢
  have hl : lv_has ls 3 [(0, .int 1), (1, .int 4), (2, .ref h2)] := hl
  obtain ⟨H, hHe⟩ : ∃ H : Heap, s.heap = H := ⟨_, rfl⟩
  have hS : va_S A s.heap H [] := by rw [hHe]; exact va_S.rf
  have hP : va_P (dC, dI) vwCl [] H := by rw [← hHe]; exact hP
  rw [hHe]
  obtain ⟨RES, hR⟩ : ∃ z, fx_c_J3_checkIndex_8e157_3 = z := ⟨_, rfl⟩
  have hEX : RES = fx_c_J3_checkIndex_8e157_3 := hR.symm
  refine lv_iload_n hx hb dJ3_checkIndex_8e157_0 rfl (lv_at hl 0 rfl) ?_
  as_aux_lemma =>
  refine lv_if_lt (tgt := 9) hx hb dJ3_checkIndex_8e157_1 rfl (fun c_1 => absurd c_1 (by decide +kernel)) (fun c_1 => ?_)
  refine lv_iload_n hx hb dJ3_checkIndex_8e157_4 rfl (lv_at hl 0 rfl) ?_
  refine lv_iload_n hx hb dJ3_checkIndex_8e157_5 rfl (lv_at hl 1 rfl) ?_
  refine lv_icmp_lt (tgt := 16) hx hb dJ3_checkIndex_8e157_6 rfl (fun c_2 => ?_) (fun c_2 => absurd c_2 (by decide +kernel))
  refine lv_iload_n hx hb dJ3_checkIndex_8e157_16 rfl (lv_at hl 0 rfl) ?_
  have hK9 := hK.sub (tys' := []) [] rfl
  exact W.iret (v := 1) hx hb hr (fun t ht hW => ⟨⟨1, (), rfl, ⟨rfl, (hR.trans hEX).symm⟩, by rw [ht]; exact hP, va_K.moved hW.alike hK9, hD⟩, hS.F ht⟩) hS.2.2 dJ3_checkIndex_8e157_17
noncomputable def wf_c_J0_checkIndex_df160_1 : List Cond := .code yJ0_checkIndex_df160 cJ0_checkIndex_df160 2 none :: ([.fieldLink RJ0 1053 "jdk/internal/util/Preconditions" "SIOOBE_FORMATTER" "Ljava/util/function/BiFunction;", .methodLink RJ0 1059 yJ3_checkIndex_8e157, .static yJ3_checkIndex_8e157, .initialized RJ3, .code yJ3_checkIndex_8e157 cJ3_checkIndex_8e157 3 (some .int)])
set_option maxRecDepth 20000 in
theorem gf_c_J0_checkIndex_df160_1_c_J3_checkIndex_8e157_2 : GoodIn wf_c_J0_checkIndex_df160_1 (va_wsS RJ0 1059 yJ3_checkIndex_8e157 wf_c_J3_checkIndex_8e157_2) := goodIn_app (gi_l [2, 3, 4] rfl rfl) (gi_cons (j := 5) rfl rfl gi_nil)
set_option maxRecDepth 20000 in
theorem gf_c_J0_checkIndex_df160_1_c_J3_checkIndex_8e157_3 : GoodIn wf_c_J0_checkIndex_df160_1 (va_wsS RJ0 1059 yJ3_checkIndex_8e157 wf_c_J3_checkIndex_8e157_3) := goodIn_app (gi_l [2, 3, 4] rfl rfl) (gi_cons (j := 5) rfl rfl gi_nil)
set_option maxHeartbeats 4000000 in
set_option maxRecDepth 100000 in
theorem c_J0_checkIndex_df160_1 (l : Launch) (dC : Nat → ClassId) (dI : Nat → Nat → Nat) (sz : Nat) : Met l yJ0_checkIndex_df160 wf_c_J0_checkIndex_df160_1 ({ frames := 1, cells := 0, slots := 0, locals := 22 }) (va_Pc [.int 1, .int 4] (fun U => U.heap.size = sz ∧ va_P (dC, dI) vwCl [] U.heap ∧ va_K (dC, dI) vwCl [] U ∧ va_D (fun _ => True) [] ∧ va_Zq "jdk/internal/util/Preconditions" "SIOOBE_FORMATTER" "Ljava/util/function/BiFunction;" (va_A [] sz) U U.heap)) (va_Qv (fun (u : Unit) => (True)) (fun (u : Unit) t => va_P (dC, dI) vwCl [] t.heap ∧ va_K (dC, dI) vwCl [] t ∧ va_D (va_A [] sz) []) (va_A [] sz)) 0 0 (va_A [] sz) := by
  refine Met.ofW (cc := cJ0_checkIndex_df160) (maxL := 2) (ret := none) (by decide +kernel) rfl ?_
  intro p e s m args below meth c s₁ B hml hv
  obtain ⟨rfl, hsz, hP, hK, hD0, hE_11⟩ := hv
  have hx := B.exec
  have hb := B.bytes
  have hr := B.returns
  have hts := atoms_spec (ws := wf_c_J0_checkIndex_df160_1) B.pre
  have hown : s.vm.findClass RJ0 = some m.cls := findClass_of_methodNamed B.named
  have hlocks := B.notSynchronized
  subst hsz
  have hD := hD0.self (sz := s.heap.size)
  generalize hAe : va_A [] s.heap.size = A at hD hE_11 ⊢
  have hA : ∀ q : Nat, s.heap.size ≤ q → A q := fun q h => by rw [← hAe]; exact Or.inr h
  have hP : va_P (dC, dI) vwCl [] s.heap := hP
  have hl := lv_entry ([.int 1, .int 4]) (n := 2) (Nat.le_of_ble_eq_true rfl)
  rw [lg_entry_eq]
  generalize (lg_sl ([.int 1, .int 4]) ++ List.replicate (2 - (lg_sl ([.int 1, .int 4])).length) Slot.unset).toArray = ls at hl ⊢
  have hl : lv_has ls 2 [(0, .int 1), (1, .int 4)] := hl
  obtain ⟨H, hHe⟩ : ∃ H : Heap, s.heap = H := ⟨_, rfl⟩
  have hS : va_S A s.heap H [] := by rw [hHe]; exact va_S.rf
  have hP : va_P (dC, dI) vwCl [] H := by rw [← hHe]; exact hP
  rw [hHe]
  refine lv_iload_n hx hb dJ0_checkIndex_df160_0 rfl (lv_at hl 0 rfl) ?_
  as_aux_lemma =>
  refine lv_iload_n hx hb dJ0_checkIndex_df160_1 rfl (lv_at hl 1 rfl) ?_
  rcases hE_11 with hZ | ⟨tz_1, hZ⟩
  · refine va_gets hx hb hZ hS hown (hts (.fieldLink RJ0 1053 "jdk/internal/util/Preconditions" "SIOOBE_FORMATTER" "Ljava/util/function/BiFunction;") (List.mem_of_getElem? (i := 1) rfl)) (fun _ h9 => h9) dJ0_checkIndex_df160_2 ?_
    obtain ⟨hPc, hDc, hFc, hqc⟩ := cl_cut (wc := []) hP hD hS hA [] (by decide +kernel) rfl
    have hKc := hK.sub (tys' := []) [] rfl
    refine va_calli (va_runS (As := [.int 1, .int 4, .null]) (rest := []) ⟨hx, hb, hml, hown, hts⟩ (c_J3_checkIndex_8e157_2 l dC dI H.size) (va_cwS 3 hts gf_c_J0_checkIndex_df160_1_c_J3_checkIndex_8e157_2 rfl rfl rfl md_J3_checkIndex_8e157 ⟨Nat.le_of_ble_eq_true rfl, Nat.le_of_ble_eq_true rfl⟩) ⟨fun a U g mk q => by obtain ⟨q0, q1, qP, qK, qD⟩ := q; exact ⟨q0, q1, qP, va_K.moved (u := U) (U := U.calling g mk a) (Vm.Alike.refl U.vm) qK, qD⟩, fun U hU hW => ⟨rfl, by rw [hU], by rw [hU]; exact hPc, va_K.moved hW.alike hKc, hDc.weaken (fun _ _ _ _ => trivial)⟩⟩ rfl rfl hl.1 rfl (lv_room (Nat.le_of_ble_eq_true rfl)) dJ0_checkIndex_df160_5 ⟨Nat.le_of_ble_eq_true rfl, Nat.le_of_ble_eq_true rfl⟩) hS (fun q _ h => hFc q h) hFc (fun r_2 u t H1 locs ht hvm hw hB hz1 hk1 hS => ?_)
    obtain ⟨hP1, hK1, hD1⟩ := hB
    rw [ht] at hP1
    have hP := bv_still hP hk1
    generalize H1 = H at hP hS ⊢
    as_aux_lemma =>
    rcases hw with ⟨h_3, h_4⟩
    rw [h_3]
    refine lv_pop hx hb dJ0_checkIndex_df160_8 rfl ?_
    have hK9 := hK.sub (tys' := []) [] rfl
    exact W.vret hx hb hr (fun t ht hW => ⟨⟨(), rfl, trivial, by rw [ht]; exact hP, va_K.moved hW.alike hK9, hD⟩, hS.F ht⟩) hS.2.2 dJ0_checkIndex_df160_9
  · refine va_gets hx hb hZ hS hown (hts (.fieldLink RJ0 1053 "jdk/internal/util/Preconditions" "SIOOBE_FORMATTER" "Ljava/util/function/BiFunction;") (List.mem_of_getElem? (i := 1) rfl)) (fun _ h9 => h9) dJ0_checkIndex_df160_2 ?_
    obtain ⟨hPc, hDc, hFc, hqc⟩ := cl_cut (wc := []) hP hD hS hA [] (by decide +kernel) rfl
    have hKc := hK.sub (tys' := []) [] rfl
    refine va_calli (va_runS (As := [.int 1, .int 4, .ref tz_1]) (rest := []) ⟨hx, hb, hml, hown, hts⟩ (c_J3_checkIndex_8e157_3 l dC dI H.size tz_1) (va_cwS 3 hts gf_c_J0_checkIndex_df160_1_c_J3_checkIndex_8e157_3 rfl rfl rfl md_J3_checkIndex_8e157 ⟨Nat.le_of_ble_eq_true rfl, Nat.le_of_ble_eq_true rfl⟩) ⟨fun a U g mk q => by obtain ⟨q0, q1, qP, qK, qD⟩ := q; exact ⟨q0, q1, qP, va_K.moved (u := U) (U := U.calling g mk a) (Vm.Alike.refl U.vm) qK, qD⟩, fun U hU hW => ⟨rfl, by rw [hU], by rw [hU]; exact hPc, va_K.moved hW.alike hKc, hDc.weaken (fun _ _ _ _ => trivial)⟩⟩ rfl rfl hl.1 rfl (lv_room (Nat.le_of_ble_eq_true rfl)) dJ0_checkIndex_df160_5 ⟨Nat.le_of_ble_eq_true rfl, Nat.le_of_ble_eq_true rfl⟩) hS (fun q _ h => hFc q h) hFc (fun r_5 u t H1 locs ht hvm hw hB hz1 hk1 hS => ?_)
    obtain ⟨hP1, hK1, hD1⟩ := hB
    rw [ht] at hP1
    have hP := bv_still hP hk1
    generalize H1 = H at hP hS ⊢
    as_aux_lemma =>
    rcases hw with ⟨h_6, h_7⟩
    rw [h_6]
    refine lv_pop hx hb dJ0_checkIndex_df160_8 rfl ?_
    have hK9 := hK.sub (tys' := []) [] rfl
    exact W.vret hx hb hr (fun t ht hW => ⟨⟨(), rfl, trivial, by rw [ht]; exact hP, va_K.moved hW.alike hK9, hD⟩, hS.F ht⟩) hS.2.2 dJ0_checkIndex_df160_9
noncomputable def wf_c_J1_charAt_3b067_1 : List Cond := .code yJ1_charAt_3b067 cJ1_charAt_3b067 2 (some .char) :: ([.methodLink RJ1 9 yJ0_checkIndex_df160, .static yJ0_checkIndex_df160, .initialized RJ0, .code yJ0_checkIndex_df160 cJ0_checkIndex_df160 2 none, .fieldLink RJ0 1053 "jdk/internal/util/Preconditions" "SIOOBE_FORMATTER" "Ljava/util/function/BiFunction;", .methodLink RJ0 1059 yJ3_checkIndex_8e157, .static yJ3_checkIndex_8e157, .initialized RJ3, .code yJ3_checkIndex_8e157 cJ3_checkIndex_8e157 3 (some .int)])
set_option maxRecDepth 20000 in
theorem gf_c_J1_charAt_3b067_1_c_J0_checkIndex_df160_1 : GoodIn wf_c_J1_charAt_3b067_1 (va_wsS RJ1 9 yJ0_checkIndex_df160 wf_c_J0_checkIndex_df160_1) := goodIn_app (gi_l [1, 2, 3] rfl rfl) (gi_cons (j := 4) rfl rfl (gi_l [5, 6, 7, 8, 9] rfl rfl))
set_option maxHeartbeats 4000000 in
set_option maxRecDepth 100000 in
theorem c_J1_charAt_3b067_1 (l : Launch) (dC : Nat → ClassId) (dI : Nat → Nat → Nat) (sz : Nat) (tv10 : Nat) : Met l yJ1_charAt_3b067 wf_c_J1_charAt_3b067_1 ({ frames := 2, cells := 0, slots := 0, locals := 43 }) (va_Pc [.ref tv10, .int 1] (fun U => U.heap.size = sz ∧ va_P (dC, dI) vwCl [] U.heap ∧ va_K (dC, dI) vwCl [] U ∧ va_D (fun _ => True) [] ∧ va_T .byte tv10 4 (fun j => .int ([120, 121, 115, 118].getD j 0)) (va_A [] sz) U U.heap ∧ va_Zq "jdk/internal/util/Preconditions" "SIOOBE_FORMATTER" "Ljava/util/function/BiFunction;" (va_A [] sz) U U.heap)) (va_Qi (fun (r : Int32) (u : Unit) => (r = 121 ∧ r = fx_c_J1_charAt_3b067_1)) (fun (u : Unit) t => va_P (dC, dI) vwCl [] t.heap ∧ va_K (dC, dI) vwCl [] t ∧ va_D (va_A [] sz) []) (va_A [] sz)) 0 0 (va_A [] sz) := by
  refine Met.ofW (cc := cJ1_charAt_3b067) (maxL := 2) (ret := (some .char)) (by decide +kernel) rfl ?_
  intro p e s m args below meth c s₁ B hml hv
  obtain ⟨rfl, hsz, hP, hK, hD0, hE_66, hE_11⟩ := hv
  have hx := B.exec
  have hb := B.bytes
  have hr := B.returns
  have hts := atoms_spec (ws := wf_c_J1_charAt_3b067_1) B.pre
  have hown : s.vm.findClass RJ1 = some m.cls := findClass_of_methodNamed B.named
  have hlocks := B.notSynchronized
  subst hsz
  have hD := hD0.self (sz := s.heap.size)
  generalize hAe : va_A [] s.heap.size = A at hD hE_66 hE_11 ⊢
  have hA : ∀ q : Nat, s.heap.size ≤ q → A q := fun q h => by rw [← hAe]; exact Or.inr h
  have hP : va_P (dC, dI) vwCl [] s.heap := hP
  have hl := lv_entry ([.ref tv10, .int 1]) (n := 2) (Nat.le_of_ble_eq_true rfl)
  rw [lg_entry_eq]
  generalize (lg_sl ([.ref tv10, .int 1]) ++ List.replicate (2 - (lg_sl ([.ref tv10, .int 1])).length) Slot.unset).toArray = ls at hl ⊢
  have hl : lv_has ls 2 [(0, .ref tv10), (1, .int 1)] := hl
  obtain ⟨H, hHe⟩ : ∃ H : Heap, s.heap = H := ⟨_, rfl⟩
  have hS : va_S A s.heap H [] := by rw [hHe]; exact va_S.rf
  have hP : va_P (dC, dI) vwCl [] H := by rw [← hHe]; exact hP
  rw [hHe]
  obtain ⟨RES, hR⟩ : ∃ z, fx_c_J1_charAt_3b067_1 = z := ⟨_, rfl⟩
  have hEX : RES = fx_c_J1_charAt_3b067_1 := hR.symm
  refine lv_iload_n hx hb dJ1_charAt_3b067_0 rfl (lv_at hl 1 rfl) ?_
  as_aux_lemma =>
  refine lv_aload_n hx hb dJ1_charAt_3b067_1 rfl (lv_at hl 0 rfl) ?_
  refine va_tlen (v := 4) hx hb hE_66 hS rfl dJ1_charAt_3b067_2 ?_
  obtain ⟨hPc, hDc, hFc, hqc⟩ := cl_cut (wc := []) hP hD hS hA [] (by decide +kernel) rfl
  have hKc := hK.sub (tys' := []) [] rfl
  refine va_callv (va_runS (As := [.int 1, .int 4]) (rest := []) ⟨hx, hb, hml, hown, hts⟩ (c_J0_checkIndex_df160_1 l dC dI H.size) (va_cwS 2 hts gf_c_J1_charAt_3b067_1_c_J0_checkIndex_df160_1 rfl rfl rfl md_J0_checkIndex_df160 ⟨Nat.le_of_ble_eq_true rfl, Nat.le_of_ble_eq_true rfl⟩) ⟨fun a U g mk q => by obtain ⟨q0, q1, qP, qK, qD, qE0⟩ := q; exact ⟨q0, q1, qP, va_K.moved (u := U) (U := U.calling g mk a) (Vm.Alike.refl U.vm) qK, qD, va_Zq.moved (u := U) (U := U.calling g mk a) (Vm.Alike.refl U.vm) qE0⟩, fun U hU hW => ⟨rfl, by rw [hU], by rw [hU]; exact hPc, va_K.moved hW.alike hKc, hDc.weaken (fun _ _ _ _ => trivial), va_Zq.moved hW.alike (by rw [hU]; exact (hE_11.kept hS.2.1).narrow hFc)⟩⟩ rfl rfl hl.1 rfl (lv_room (Nat.le_of_ble_eq_true rfl)) dJ1_charAt_3b067_3 ⟨Nat.le_of_ble_eq_true rfl, Nat.le_of_ble_eq_true rfl⟩) hS (fun q _ h => hFc q h) hFc (fun u t H1 locs ht hvm hw hB hz1 hk1 hS => ?_)
  obtain ⟨hP1, hK1, hD1⟩ := hB
  rw [ht] at hP1
  have hP := bv_still hP hk1
  generalize H1 = H at hP hS ⊢
  as_aux_lemma =>
  have h_2 := hw
  refine lv_aload_n hx hb dJ1_charAt_3b067_6 rfl (lv_at hl 0 rfl) ?_
  refine lv_iload_n hx hb dJ1_charAt_3b067_7 rfl (lv_at hl 1 rfl) ?_
  refine va_tb (v := .int 121) hx hb hE_66 hS (by unfold vp_in; decide) rfl dJ1_charAt_3b067_8 ?_
  refine lv_sipush (v := 255) hx hb dJ1_charAt_3b067_9 kc_sipush_255 ?_
  refine lv_iand hx hb dJ1_charAt_3b067_12 ?_
  refine lv_topi (fun x_3 ex_3 => ?_)
  obtain rfl : x_3 = 121 := ex_3.trans (by decide +kernel)
  refine lv_i2c (v := 121) hx hb dJ1_charAt_3b067_13 (by decide +kernel) ?_
  have hK9 := hK.sub (tys' := []) [] rfl
  exact W.zret (v := 121) hx hb hr rfl (fun t ht hW => ⟨⟨121, (), rfl, ⟨rfl, (hR.trans hEX).symm⟩, by rw [ht]; exact hP, va_K.moved hW.alike hK9, hD⟩, hS.F ht⟩) hS.2.2 dJ1_charAt_3b067_14
noncomputable def wf_c_J0_charAt_5068e_1 : List Cond := .code yJ0_charAt_5068e cJ0_charAt_5068e 2 (some .char) :: ([.methodLink RJ0 492 yJ0_isLatin1_aae02, .instanceMethod yJ0_isLatin1_aae02, .selects RJ0 yJ0_isLatin1_aae02 yJ0_isLatin1_aae02, .initialized RJ0, .code yJ0_isLatin1_aae02 cJ0_isLatin1_aae02 1 (some .boolean), .fieldLink RJ0 38 "java/lang/String" "COMPACT_STRINGS" "Z", .fieldLink RJ0 15 "java/lang/String" "coder" "B", .fieldLink RJ0 9 "java/lang/String" "value" "[B", .methodLink RJ0 495 yJ1_charAt_3b067, .static yJ1_charAt_3b067, .initialized RJ1, .code yJ1_charAt_3b067 cJ1_charAt_3b067 2 (some .char), .methodLink RJ1 9 yJ0_checkIndex_df160, .static yJ0_checkIndex_df160, .code yJ0_checkIndex_df160 cJ0_checkIndex_df160 2 none, .fieldLink RJ0 1053 "jdk/internal/util/Preconditions" "SIOOBE_FORMATTER" "Ljava/util/function/BiFunction;", .methodLink RJ0 1059 yJ3_checkIndex_8e157, .static yJ3_checkIndex_8e157, .initialized RJ3, .code yJ3_checkIndex_8e157 cJ3_checkIndex_8e157 3 (some .int)])
set_option maxRecDepth 20000 in
theorem gf_c_J0_charAt_5068e_1_c_J0_isLatin1_aae02_6 : GoodIn wf_c_J0_charAt_5068e_1 (wsV RJ0 492 RJ0 yJ0_isLatin1_aae02 wf_c_J0_isLatin1_aae02_6) := goodIn_app (gi_l [1, 2, 3, 4] rfl rfl) (gi_cons (j := 5) rfl rfl (gi_l [6, 7] rfl rfl))
set_option maxRecDepth 20000 in
theorem gf_c_J0_charAt_5068e_1_c_J1_charAt_3b067_1 : GoodIn wf_c_J0_charAt_5068e_1 (va_wsS RJ0 495 yJ1_charAt_3b067 wf_c_J1_charAt_3b067_1) := goodIn_app (gi_l [9, 10, 11] rfl rfl) (gi_cons (j := 12) rfl rfl (gi_l [13, 14, 4, 15, 16, 17, 18, 19, 20] rfl rfl))
set_option maxHeartbeats 4000000 in
set_option maxRecDepth 100000 in
theorem c_J0_charAt_5068e_1 (l : Launch) (dC : Nat → ClassId) (dI : Nat → Nat → Nat) (sz : Nat) (ts10 : Nat) (tv10 : Nat) : Met l yJ0_charAt_5068e wf_c_J0_charAt_5068e_1 ({ frames := 3, cells := 0, slots := 0, locals := 64 }) (va_Pc [.ref ts10, .int 1] (fun U => U.heap.size = sz ∧ va_P (dC, dI) vwCl [] U.heap ∧ va_K (dC, dI) vwCl [] U ∧ va_D (fun _ => True) [] ∧ va_Z "java/lang/String" "COMPACT_STRINGS" "Z" (.int 1) (va_A [] sz) U U.heap ∧ va_OF "java/lang/String" "coder" "B" (.int 0) ts10 (va_A [] sz) U U.heap ∧ va_O "java/lang/String" ts10 (va_A [] sz) U U.heap ∧ va_OF "java/lang/String" "value" "[B" (.ref tv10) ts10 (va_A [] sz) U U.heap ∧ va_T .byte tv10 4 (fun j => .int ([120, 121, 115, 118].getD j 0)) (va_A [] sz) U U.heap ∧ va_Zq "jdk/internal/util/Preconditions" "SIOOBE_FORMATTER" "Ljava/util/function/BiFunction;" (va_A [] sz) U U.heap)) (va_Qi (fun (r : Int32) (u : Unit) => (r = 121 ∧ r = fx_c_J0_charAt_5068e_1)) (fun (u : Unit) t => va_P (dC, dI) vwCl [] t.heap ∧ va_K (dC, dI) vwCl [] t ∧ va_D (va_A [] sz) []) (va_A [] sz)) 0 0 (va_A [] sz) := by
  refine Met.ofW (cc := cJ0_charAt_5068e) (maxL := 2) (ret := (some .char)) (by decide +kernel) rfl ?_
  intro p e s m args below meth c s₁ B hml hv
  obtain ⟨rfl, hsz, hP, hK, hD0, hE_10, hE_64, hE_63, hE_65, hE_66, hE_11⟩ := hv
  have hx := B.exec
  have hb := B.bytes
  have hr := B.returns
  have hts := atoms_spec (ws := wf_c_J0_charAt_5068e_1) B.pre
  have hown : s.vm.findClass RJ0 = some m.cls := findClass_of_methodNamed B.named
  have hlocks := B.notSynchronized
  subst hsz
  have hD := hD0.self (sz := s.heap.size)
  generalize hAe : va_A [] s.heap.size = A at hD hE_10 hE_64 hE_63 hE_65 hE_66 hE_11 ⊢
  have hA : ∀ q : Nat, s.heap.size ≤ q → A q := fun q h => by rw [← hAe]; exact Or.inr h
  have hP : va_P (dC, dI) vwCl [] s.heap := hP
  have hl := lv_entry ([.ref ts10, .int 1]) (n := 2) (Nat.le_of_ble_eq_true rfl)
  rw [lg_entry_eq]
  generalize (lg_sl ([.ref ts10, .int 1]) ++ List.replicate (2 - (lg_sl ([.ref ts10, .int 1])).length) Slot.unset).toArray = ls at hl ⊢
  have hl : lv_has ls 2 [(0, .ref ts10), (1, .int 1)] := hl
  obtain ⟨H, hHe⟩ : ∃ H : Heap, s.heap = H := ⟨_, rfl⟩
  have hS : va_S A s.heap H [] := by rw [hHe]; exact va_S.rf
  have hP : va_P (dC, dI) vwCl [] H := by rw [← hHe]; exact hP
  rw [hHe]
  obtain ⟨RES, hR⟩ : ∃ z, fx_c_J0_charAt_5068e_1 = z := ⟨_, rfl⟩
  have hEX : RES = fx_c_J0_charAt_5068e_1 := hR.symm
  refine lv_aload_n hx hb dJ0_charAt_5068e_0 rfl (lv_at hl 0 rfl) ?_
  as_aux_lemma =>
  obtain ⟨hPc, hDc, hFc, hqc⟩ := cl_cut (wc := []) hP hD hS hA [] (by decide +kernel) rfl
  have hKc := hK.sub (tys' := []) [] rfl
  have hrv := bv_Orecv hE_63 hS
  refine va_calli (va_runV (As := []) (rest := []) ⟨hx, hb, hml, hown, hts⟩ (c_J0_isLatin1_aae02_6 l dC dI H.size ts10) (cwV 0 hts gf_c_J0_charAt_5068e_1_c_J0_isLatin1_aae02_6 rfl rfl rfl mdV_J0_isLatin1_aae02 ⟨Nat.le_of_ble_eq_true rfl, Nat.le_of_ble_eq_true rfl⟩) ⟨fun a U g mk q => by obtain ⟨q0, q1, qP, qK, qD, qE0, qE1⟩ := q; exact ⟨q0, q1, qP, va_K.moved (u := U) (U := U.calling g mk a) (Vm.Alike.refl U.vm) qK, qD, va_Z.moved (u := U) (U := U.calling g mk a) (Vm.Alike.refl U.vm) qE0, va_OF.moved (u := U) (U := U.calling g mk a) (Vm.Alike.refl U.vm) qE1⟩, hrv, fun U hU hW => ⟨rfl, by rw [hU], by rw [hU]; exact hPc, va_K.moved hW.alike hKc, hDc.weaken (fun _ _ _ _ => trivial), va_Z.moved hW.alike (by rw [hU]; exact (hE_10.kept hS.2.1).narrow hFc), va_OF.moved hW.alike (by rw [hU]; exact (hE_64.kept hS.2.1).narrow hFc)⟩⟩ rfl rfl hl.1 rfl (lv_room (Nat.le_of_ble_eq_true rfl)) dJ0_charAt_5068e_1 ⟨Nat.le_of_ble_eq_true rfl, Nat.le_of_ble_eq_true rfl⟩) hS (fun q _ h => hFc q h) hFc (fun r_1 u t H1 locs ht hvm hw hB hz1 hk1 hS => ?_)
  obtain ⟨hP1, hK1, hD1⟩ := hB
  rw [ht] at hP1
  have hP := bv_still hP hk1
  generalize H1 = H at hP hS ⊢
  as_aux_lemma =>
  rcases hw with ⟨h_2, h_3⟩
  have h_3 : r_1 = _ := h_3
  replace hEX := hEX.trans (exc1_eq h_3)
  rw [h_2]
  refine lv_if_eq (tgt := 16) hx hb dJ0_charAt_5068e_4 rfl (fun c_4 => absurd c_4 (by decide +kernel)) (fun c_4 => ?_)
  refine lv_aload_n hx hb dJ0_charAt_5068e_7 rfl (lv_at hl 0 rfl) ?_
  refine vk_getf hx hb hE_65 hS hown (hts (.fieldLink RJ0 9 "java/lang/String" "value" "[B") (List.mem_of_getElem? (i := 8) rfl)) (fun _ h9 => h9) dJ0_charAt_5068e_8 ?_
  refine lv_iload_n hx hb dJ0_charAt_5068e_11 rfl (lv_at hl 1 rfl) ?_
  obtain ⟨hPc, hDc, hFc, hqc⟩ := cl_cut (wc := []) hP hD hS hA [] (by decide +kernel) rfl
  have hKc := hK.sub (tys' := []) [] rfl
  refine va_calli (va_runS (As := [.ref tv10, .int 1]) (rest := []) ⟨hx, hb, hml, hown, hts⟩ (c_J1_charAt_3b067_1 l dC dI H.size tv10) (va_cwS 2 hts gf_c_J0_charAt_5068e_1_c_J1_charAt_3b067_1 rfl rfl rfl md_J1_charAt_3b067 ⟨Nat.le_of_ble_eq_true rfl, Nat.le_of_ble_eq_true rfl⟩) ⟨fun a U g mk q => by obtain ⟨q0, q1, qP, qK, qD, qE0, qE1⟩ := q; exact ⟨q0, q1, qP, va_K.moved (u := U) (U := U.calling g mk a) (Vm.Alike.refl U.vm) qK, qD, va_T.moved (u := U) (U := U.calling g mk a) (Vm.Alike.refl U.vm) qE0, va_Zq.moved (u := U) (U := U.calling g mk a) (Vm.Alike.refl U.vm) qE1⟩, fun U hU hW => ⟨rfl, by rw [hU], by rw [hU]; exact hPc, va_K.moved hW.alike hKc, hDc.weaken (fun _ _ _ _ => trivial), va_T.moved hW.alike (by rw [hU]; exact (hE_66.kept hS.2.1).narrow hFc), va_Zq.moved hW.alike (by rw [hU]; exact (hE_11.kept hS.2.1).narrow hFc)⟩⟩ rfl rfl hl.1 rfl (lv_room (Nat.le_of_ble_eq_true rfl)) dJ0_charAt_5068e_12 ⟨Nat.le_of_ble_eq_true rfl, Nat.le_of_ble_eq_true rfl⟩) hS (fun q _ h => hFc q h) hFc (fun r_5 u t H1 locs ht hvm hw hB hz1 hk1 hS => ?_)
  obtain ⟨hP1, hK1, hD1⟩ := hB
  rw [ht] at hP1
  have hP := bv_still hP hk1
  generalize H1 = H at hP hS ⊢
  as_aux_lemma =>
  rcases hw with ⟨h_6, h_7⟩
  have h_7 : r_5 = _ := h_7
  replace hEX := hEX.trans (exc1_eq h_7)
  rw [h_6]
  have hK9 := hK.sub (tys' := []) [] rfl
  exact W.zret (v := 121) hx hb hr rfl (fun t ht hW => ⟨⟨121, (), rfl, ⟨rfl, (hR.trans hEX).symm⟩, by rw [ht]; exact hP, va_K.moved hW.alike hK9, hD⟩, hS.F ht⟩) hS.2.2 dJ0_charAt_5068e_15
noncomputable def wf_c_J3_checkIndex_8e157_4 : List Cond := .code yJ3_checkIndex_8e157 cJ3_checkIndex_8e157 3 (some .int) :: ([])
set_option maxHeartbeats 4000000 in
set_option maxRecDepth 100000 in
theorem c_J3_checkIndex_8e157_4 (l : Launch) (dC : Nat → ClassId) (dI : Nat → Nat → Nat) (sz : Nat) : Met l yJ3_checkIndex_8e157 wf_c_J3_checkIndex_8e157_4 ({ frames := 0, cells := 0, slots := 0, locals := 0 }) (va_Pc [.int 2, .int 4, .null] (fun U => U.heap.size = sz ∧ va_P (dC, dI) vwCl [] U.heap ∧ va_K (dC, dI) vwCl [] U ∧ va_D (fun _ => True) [])) (va_Qi (fun (r : Int32) (u : Unit) => (r = 2 ∧ r = fx_c_J3_checkIndex_8e157_4)) (fun (u : Unit) t => va_P (dC, dI) vwCl [] t.heap ∧ va_K (dC, dI) vwCl [] t ∧ va_D (va_A [] sz) []) (va_A [] sz)) 0 0 (va_A [] sz) := by
  refine Met.ofW (cc := cJ3_checkIndex_8e157) (maxL := 3) (ret := (some .int)) (by decide +kernel) rfl ?_
  intro p e s m args below meth c s₁ B hml hv
  obtain ⟨rfl, hsz, hP, hK, hD0⟩ := hv
  have hx := B.exec
  have hb := B.bytes
  have hr := B.returns
  have hts := atoms_spec (ws := wf_c_J3_checkIndex_8e157_4) B.pre
  have hown : s.vm.findClass RJ3 = some m.cls := findClass_of_methodNamed B.named
  have hlocks := B.notSynchronized
  subst hsz
  have hD := hD0.self (sz := s.heap.size)
  generalize hAe : va_A [] s.heap.size = A at hD ⊢
  have hA : ∀ q : Nat, s.heap.size ≤ q → A q := fun q h => by rw [← hAe]; exact Or.inr h
  have hP : va_P (dC, dI) vwCl [] s.heap := hP
  have hl := lv_entry ([.int 2, .int 4, .null]) (n := 3) (Nat.le_of_ble_eq_true rfl)
  rw [lg_entry_eq]
  generalize (lg_sl ([.int 2, .int 4, .null]) ++ List.replicate (3 - (lg_sl ([.int 2, .int 4, .null])).length) Slot.unset).toArray = ls at hl ⊢
  have hl : lv_has ls 3 [(0, .int 2), (1, .int 4), (2, .null)] := hl
  obtain ⟨H, hHe⟩ : ∃ H : Heap, s.heap = H := ⟨_, rfl⟩
  have hS : va_S A s.heap H [] := by rw [hHe]; exact va_S.rf
  have hP : va_P (dC, dI) vwCl [] H := by rw [← hHe]; exact hP
  rw [hHe]
  obtain ⟨RES, hR⟩ : ∃ z, fx_c_J3_checkIndex_8e157_4 = z := ⟨_, rfl⟩
  have hEX : RES = fx_c_J3_checkIndex_8e157_4 := hR.symm
  refine lv_iload_n hx hb dJ3_checkIndex_8e157_0 rfl (lv_at hl 0 rfl) ?_
  as_aux_lemma =>
  refine lv_if_lt (tgt := 9) hx hb dJ3_checkIndex_8e157_1 rfl (fun c_1 => absurd c_1 (by decide +kernel)) (fun c_1 => ?_)
  refine lv_iload_n hx hb dJ3_checkIndex_8e157_4 rfl (lv_at hl 0 rfl) ?_
  refine lv_iload_n hx hb dJ3_checkIndex_8e157_5 rfl (lv_at hl 1 rfl) ?_
  refine lv_icmp_lt (tgt := 16) hx hb dJ3_checkIndex_8e157_6 rfl (fun c_2 => ?_) (fun c_2 => absurd c_2 (by decide +kernel))
  refine lv_iload_n hx hb dJ3_checkIndex_8e157_16 rfl (lv_at hl 0 rfl) ?_
  have hK9 := hK.sub (tys' := []) [] rfl
  exact W.iret (v := 2) hx hb hr (fun t ht hW => ⟨⟨2, (), rfl, ⟨rfl, (hR.trans hEX).symm⟩, by rw [ht]; exact hP, va_K.moved hW.alike hK9, hD⟩, hS.F ht⟩) hS.2.2 dJ3_checkIndex_8e157_17
noncomputable def wf_c_J3_checkIndex_8e157_5 : List Cond := .code yJ3_checkIndex_8e157 cJ3_checkIndex_8e157 3 (some .int) :: ([])
set_option maxHeartbeats 4000000 in
set_option maxRecDepth 100000 in
theorem c_J3_checkIndex_8e157_5 (l : Launch) (dC : Nat → ClassId) (dI : Nat → Nat → Nat) (sz : Nat) (h2 : Nat) : Met l yJ3_checkIndex_8e157 wf_c_J3_checkIndex_8e157_5 ({ frames := 0, cells := 0, slots := 0, locals := 0 }) (va_Pc [.int 2, .int 4, .ref h2] (fun U => U.heap.size = sz ∧ va_P (dC, dI) vwCl [] U.heap ∧ va_K (dC, dI) vwCl [] U ∧ va_D (fun _ => True) [])) (va_Qi (fun (r : Int32) (u : Unit) => (r = 2 ∧ r = fx_c_J3_checkIndex_8e157_5)) (fun (u : Unit) t => va_P (dC, dI) vwCl [] t.heap ∧ va_K (dC, dI) vwCl [] t ∧ va_D (va_A [] sz) []) (va_A [] sz)) 0 0 (va_A [] sz) := by
  refine Met.ofW (cc := cJ3_checkIndex_8e157) (maxL := 3) (ret := (some .int)) (by decide +kernel) rfl ?_
  intro p e s m args below meth c s₁ B hml hv
  obtain ⟨rfl, hsz, hP, hK, hD0⟩ := hv
  have hx := B.exec
  have hb := B.bytes
  have hr := B.returns
  have hts := atoms_spec (ws := wf_c_J3_checkIndex_8e157_5) B.pre
  have hown : s.vm.findClass RJ3 = some m.cls := findClass_of_methodNamed B.named
  have hlocks := B.notSynchronized
  subst hsz
  have hD := hD0.self (sz := s.heap.size)
  generalize hAe : va_A [] s.heap.size = A at hD ⊢
  have hA : ∀ q : Nat, s.heap.size ≤ q → A q := fun q h => by rw [← hAe]; exact Or.inr h
  have hP : va_P (dC, dI) vwCl [] s.heap := hP
  have hl := lv_entry ([.int 2, .int 4, .ref h2]) (n := 3) (Nat.le_of_ble_eq_true rfl)
  rw [lg_entry_eq]
  generalize (lg_sl ([.int 2, .int 4, .ref h2]) ++ List.replicate (3 - (lg_sl ([.int 2, .int 4, .ref h2])).length) Slot.unset).toArray = ls at hl ⊢
  have hl : lv_has ls 3 [(0, .int 2), (1, .int 4), (2, .ref h2)] := hl
  obtain ⟨H, hHe⟩ : ∃ H : Heap, s.heap = H := ⟨_, rfl⟩
  have hS : va_S A s.heap H [] := by rw [hHe]; exact va_S.rf
  have hP : va_P (dC, dI) vwCl [] H := by rw [← hHe]; exact hP
  rw [hHe]
  obtain ⟨RES, hR⟩ : ∃ z, fx_c_J3_checkIndex_8e157_5 = z := ⟨_, rfl⟩
  have hEX : RES = fx_c_J3_checkIndex_8e157_5 := hR.symm
  refine lv_iload_n hx hb dJ3_checkIndex_8e157_0 rfl (lv_at hl 0 rfl) ?_
  as_aux_lemma =>
  refine lv_if_lt (tgt := 9) hx hb dJ3_checkIndex_8e157_1 rfl (fun c_1 => absurd c_1 (by decide +kernel)) (fun c_1 => ?_)
  refine lv_iload_n hx hb dJ3_checkIndex_8e157_4 rfl (lv_at hl 0 rfl) ?_
  refine lv_iload_n hx hb dJ3_checkIndex_8e157_5 rfl (lv_at hl 1 rfl) ?_
  refine lv_icmp_lt (tgt := 16) hx hb dJ3_checkIndex_8e157_6 rfl (fun c_2 => ?_) (fun c_2 => absurd c_2 (by decide +kernel))
  refine lv_iload_n hx hb dJ3_checkIndex_8e157_16 rfl (lv_at hl 0 rfl) ?_
  have hK9 := hK.sub (tys' := []) [] rfl
  exact W.iret (v := 2) hx hb hr (fun t ht hW => ⟨⟨2, (), rfl, ⟨rfl, (hR.trans hEX).symm⟩, by rw [ht]; exact hP, va_K.moved hW.alike hK9, hD⟩, hS.F ht⟩) hS.2.2 dJ3_checkIndex_8e157_17
noncomputable def wf_c_J0_checkIndex_df160_2 : List Cond := .code yJ0_checkIndex_df160 cJ0_checkIndex_df160 2 none :: ([.fieldLink RJ0 1053 "jdk/internal/util/Preconditions" "SIOOBE_FORMATTER" "Ljava/util/function/BiFunction;", .methodLink RJ0 1059 yJ3_checkIndex_8e157, .static yJ3_checkIndex_8e157, .initialized RJ3, .code yJ3_checkIndex_8e157 cJ3_checkIndex_8e157 3 (some .int)])
set_option maxRecDepth 20000 in
theorem gf_c_J0_checkIndex_df160_2_c_J3_checkIndex_8e157_4 : GoodIn wf_c_J0_checkIndex_df160_2 (va_wsS RJ0 1059 yJ3_checkIndex_8e157 wf_c_J3_checkIndex_8e157_4) := goodIn_app (gi_l [2, 3, 4] rfl rfl) (gi_cons (j := 5) rfl rfl gi_nil)
set_option maxRecDepth 20000 in
theorem gf_c_J0_checkIndex_df160_2_c_J3_checkIndex_8e157_5 : GoodIn wf_c_J0_checkIndex_df160_2 (va_wsS RJ0 1059 yJ3_checkIndex_8e157 wf_c_J3_checkIndex_8e157_5) := goodIn_app (gi_l [2, 3, 4] rfl rfl) (gi_cons (j := 5) rfl rfl gi_nil)
set_option maxHeartbeats 4000000 in
set_option maxRecDepth 100000 in
theorem c_J0_checkIndex_df160_2 (l : Launch) (dC : Nat → ClassId) (dI : Nat → Nat → Nat) (sz : Nat) : Met l yJ0_checkIndex_df160 wf_c_J0_checkIndex_df160_2 ({ frames := 1, cells := 0, slots := 0, locals := 22 }) (va_Pc [.int 2, .int 4] (fun U => U.heap.size = sz ∧ va_P (dC, dI) vwCl [] U.heap ∧ va_K (dC, dI) vwCl [] U ∧ va_D (fun _ => True) [] ∧ va_Zq "jdk/internal/util/Preconditions" "SIOOBE_FORMATTER" "Ljava/util/function/BiFunction;" (va_A [] sz) U U.heap)) (va_Qv (fun (u : Unit) => (True)) (fun (u : Unit) t => va_P (dC, dI) vwCl [] t.heap ∧ va_K (dC, dI) vwCl [] t ∧ va_D (va_A [] sz) []) (va_A [] sz)) 0 0 (va_A [] sz) := by
  refine Met.ofW (cc := cJ0_checkIndex_df160) (maxL := 2) (ret := none) (by decide +kernel) rfl ?_
  intro p e s m args below meth c s₁ B hml hv
  obtain ⟨rfl, hsz, hP, hK, hD0, hE_11⟩ := hv
  have hx := B.exec
  have hb := B.bytes
  have hr := B.returns
  have hts := atoms_spec (ws := wf_c_J0_checkIndex_df160_2) B.pre
  have hown : s.vm.findClass RJ0 = some m.cls := findClass_of_methodNamed B.named
  have hlocks := B.notSynchronized
  subst hsz
  have hD := hD0.self (sz := s.heap.size)
  generalize hAe : va_A [] s.heap.size = A at hD hE_11 ⊢
  have hA : ∀ q : Nat, s.heap.size ≤ q → A q := fun q h => by rw [← hAe]; exact Or.inr h
  have hP : va_P (dC, dI) vwCl [] s.heap := hP
  have hl := lv_entry ([.int 2, .int 4]) (n := 2) (Nat.le_of_ble_eq_true rfl)
  rw [lg_entry_eq]
  generalize (lg_sl ([.int 2, .int 4]) ++ List.replicate (2 - (lg_sl ([.int 2, .int 4])).length) Slot.unset).toArray = ls at hl ⊢
  have hl : lv_has ls 2 [(0, .int 2), (1, .int 4)] := hl
  obtain ⟨H, hHe⟩ : ∃ H : Heap, s.heap = H := ⟨_, rfl⟩
  have hS : va_S A s.heap H [] := by rw [hHe]; exact va_S.rf
  have hP : va_P (dC, dI) vwCl [] H := by rw [← hHe]; exact hP
  rw [hHe]
  refine lv_iload_n hx hb dJ0_checkIndex_df160_0 rfl (lv_at hl 0 rfl) ?_
  as_aux_lemma =>
  refine lv_iload_n hx hb dJ0_checkIndex_df160_1 rfl (lv_at hl 1 rfl) ?_
  rcases hE_11 with hZ | ⟨tz_1, hZ⟩
  · refine va_gets hx hb hZ hS hown (hts (.fieldLink RJ0 1053 "jdk/internal/util/Preconditions" "SIOOBE_FORMATTER" "Ljava/util/function/BiFunction;") (List.mem_of_getElem? (i := 1) rfl)) (fun _ h9 => h9) dJ0_checkIndex_df160_2 ?_
    obtain ⟨hPc, hDc, hFc, hqc⟩ := cl_cut (wc := []) hP hD hS hA [] (by decide +kernel) rfl
    have hKc := hK.sub (tys' := []) [] rfl
    refine va_calli (va_runS (As := [.int 2, .int 4, .null]) (rest := []) ⟨hx, hb, hml, hown, hts⟩ (c_J3_checkIndex_8e157_4 l dC dI H.size) (va_cwS 3 hts gf_c_J0_checkIndex_df160_2_c_J3_checkIndex_8e157_4 rfl rfl rfl md_J3_checkIndex_8e157 ⟨Nat.le_of_ble_eq_true rfl, Nat.le_of_ble_eq_true rfl⟩) ⟨fun a U g mk q => by obtain ⟨q0, q1, qP, qK, qD⟩ := q; exact ⟨q0, q1, qP, va_K.moved (u := U) (U := U.calling g mk a) (Vm.Alike.refl U.vm) qK, qD⟩, fun U hU hW => ⟨rfl, by rw [hU], by rw [hU]; exact hPc, va_K.moved hW.alike hKc, hDc.weaken (fun _ _ _ _ => trivial)⟩⟩ rfl rfl hl.1 rfl (lv_room (Nat.le_of_ble_eq_true rfl)) dJ0_checkIndex_df160_5 ⟨Nat.le_of_ble_eq_true rfl, Nat.le_of_ble_eq_true rfl⟩) hS (fun q _ h => hFc q h) hFc (fun r_2 u t H1 locs ht hvm hw hB hz1 hk1 hS => ?_)
    obtain ⟨hP1, hK1, hD1⟩ := hB
    rw [ht] at hP1
    have hP := bv_still hP hk1
    generalize H1 = H at hP hS ⊢
    as_aux_lemma =>
    rcases hw with ⟨h_3, h_4⟩
    rw [h_3]
    refine lv_pop hx hb dJ0_checkIndex_df160_8 rfl ?_
    have hK9 := hK.sub (tys' := []) [] rfl
    exact W.vret hx hb hr (fun t ht hW => ⟨⟨(), rfl, trivial, by rw [ht]; exact hP, va_K.moved hW.alike hK9, hD⟩, hS.F ht⟩) hS.2.2 dJ0_checkIndex_df160_9
  · refine va_gets hx hb hZ hS hown (hts (.fieldLink RJ0 1053 "jdk/internal/util/Preconditions" "SIOOBE_FORMATTER" "Ljava/util/function/BiFunction;") (List.mem_of_getElem? (i := 1) rfl)) (fun _ h9 => h9) dJ0_checkIndex_df160_2 ?_
    obtain ⟨hPc, hDc, hFc, hqc⟩ := cl_cut (wc := []) hP hD hS hA [] (by decide +kernel) rfl
    have hKc := hK.sub (tys' := []) [] rfl
    refine va_calli (va_runS (As := [.int 2, .int 4, .ref tz_1]) (rest := []) ⟨hx, hb, hml, hown, hts⟩ (c_J3_checkIndex_8e157_5 l dC dI H.size tz_1) (va_cwS 3 hts gf_c_J0_checkIndex_df160_2_c_J3_checkIndex_8e157_5 rfl rfl rfl md_J3_checkIndex_8e157 ⟨Nat.le_of_ble_eq_true rfl, Nat.le_of_ble_eq_true rfl⟩) ⟨fun a U g mk q => by obtain ⟨q0, q1, qP, qK, qD⟩ := q; exact ⟨q0, q1, qP, va_K.moved (u := U) (U := U.calling g mk a) (Vm.Alike.refl U.vm) qK, qD⟩, fun U hU hW => ⟨rfl, by rw [hU], by rw [hU]; exact hPc, va_K.moved hW.alike hKc, hDc.weaken (fun _ _ _ _ => trivial)⟩⟩ rfl rfl hl.1 rfl (lv_room (Nat.le_of_ble_eq_true rfl)) dJ0_checkIndex_df160_5 ⟨Nat.le_of_ble_eq_true rfl, Nat.le_of_ble_eq_true rfl⟩) hS (fun q _ h => hFc q h) hFc (fun r_5 u t H1 locs ht hvm hw hB hz1 hk1 hS => ?_)
    obtain ⟨hP1, hK1, hD1⟩ := hB
    rw [ht] at hP1
    have hP := bv_still hP hk1
    generalize H1 = H at hP hS ⊢
    as_aux_lemma =>
    rcases hw with ⟨h_6, h_7⟩
    rw [h_6]
    refine lv_pop hx hb dJ0_checkIndex_df160_8 rfl ?_
    have hK9 := hK.sub (tys' := []) [] rfl
    exact W.vret hx hb hr (fun t ht hW => ⟨⟨(), rfl, trivial, by rw [ht]; exact hP, va_K.moved hW.alike hK9, hD⟩, hS.F ht⟩) hS.2.2 dJ0_checkIndex_df160_9
noncomputable def wf_c_J1_charAt_3b067_2 : List Cond := .code yJ1_charAt_3b067 cJ1_charAt_3b067 2 (some .char) :: ([.methodLink RJ1 9 yJ0_checkIndex_df160, .static yJ0_checkIndex_df160, .initialized RJ0, .code yJ0_checkIndex_df160 cJ0_checkIndex_df160 2 none, .fieldLink RJ0 1053 "jdk/internal/util/Preconditions" "SIOOBE_FORMATTER" "Ljava/util/function/BiFunction;", .methodLink RJ0 1059 yJ3_checkIndex_8e157, .static yJ3_checkIndex_8e157, .initialized RJ3, .code yJ3_checkIndex_8e157 cJ3_checkIndex_8e157 3 (some .int)])
set_option maxRecDepth 20000 in
theorem gf_c_J1_charAt_3b067_2_c_J0_checkIndex_df160_2 : GoodIn wf_c_J1_charAt_3b067_2 (va_wsS RJ1 9 yJ0_checkIndex_df160 wf_c_J0_checkIndex_df160_2) := goodIn_app (gi_l [1, 2, 3] rfl rfl) (gi_cons (j := 4) rfl rfl (gi_l [5, 6, 7, 8, 9] rfl rfl))
set_option maxHeartbeats 4000000 in
set_option maxRecDepth 100000 in
theorem c_J1_charAt_3b067_2 (l : Launch) (dC : Nat → ClassId) (dI : Nat → Nat → Nat) (sz : Nat) (tv10 : Nat) : Met l yJ1_charAt_3b067 wf_c_J1_charAt_3b067_2 ({ frames := 2, cells := 0, slots := 0, locals := 43 }) (va_Pc [.ref tv10, .int 2] (fun U => U.heap.size = sz ∧ va_P (dC, dI) vwCl [] U.heap ∧ va_K (dC, dI) vwCl [] U ∧ va_D (fun _ => True) [] ∧ va_T .byte tv10 4 (fun j => .int ([120, 121, 115, 118].getD j 0)) (va_A [] sz) U U.heap ∧ va_Zq "jdk/internal/util/Preconditions" "SIOOBE_FORMATTER" "Ljava/util/function/BiFunction;" (va_A [] sz) U U.heap)) (va_Qi (fun (r : Int32) (u : Unit) => (r = 115 ∧ r = fx_c_J1_charAt_3b067_2)) (fun (u : Unit) t => va_P (dC, dI) vwCl [] t.heap ∧ va_K (dC, dI) vwCl [] t ∧ va_D (va_A [] sz) []) (va_A [] sz)) 0 0 (va_A [] sz) := by
  refine Met.ofW (cc := cJ1_charAt_3b067) (maxL := 2) (ret := (some .char)) (by decide +kernel) rfl ?_
  intro p e s m args below meth c s₁ B hml hv
  obtain ⟨rfl, hsz, hP, hK, hD0, hE_66, hE_11⟩ := hv
  have hx := B.exec
  have hb := B.bytes
  have hr := B.returns
  have hts := atoms_spec (ws := wf_c_J1_charAt_3b067_2) B.pre
  have hown : s.vm.findClass RJ1 = some m.cls := findClass_of_methodNamed B.named
  have hlocks := B.notSynchronized
  subst hsz
  have hD := hD0.self (sz := s.heap.size)
  generalize hAe : va_A [] s.heap.size = A at hD hE_66 hE_11 ⊢
  have hA : ∀ q : Nat, s.heap.size ≤ q → A q := fun q h => by rw [← hAe]; exact Or.inr h
  have hP : va_P (dC, dI) vwCl [] s.heap := hP
  have hl := lv_entry ([.ref tv10, .int 2]) (n := 2) (Nat.le_of_ble_eq_true rfl)
  rw [lg_entry_eq]
  generalize (lg_sl ([.ref tv10, .int 2]) ++ List.replicate (2 - (lg_sl ([.ref tv10, .int 2])).length) Slot.unset).toArray = ls at hl ⊢
  have hl : lv_has ls 2 [(0, .ref tv10), (1, .int 2)] := hl
  obtain ⟨H, hHe⟩ : ∃ H : Heap, s.heap = H := ⟨_, rfl⟩
  have hS : va_S A s.heap H [] := by rw [hHe]; exact va_S.rf
  have hP : va_P (dC, dI) vwCl [] H := by rw [← hHe]; exact hP
  rw [hHe]
  obtain ⟨RES, hR⟩ : ∃ z, fx_c_J1_charAt_3b067_2 = z := ⟨_, rfl⟩
  have hEX : RES = fx_c_J1_charAt_3b067_2 := hR.symm
  refine lv_iload_n hx hb dJ1_charAt_3b067_0 rfl (lv_at hl 1 rfl) ?_
  as_aux_lemma =>
  refine lv_aload_n hx hb dJ1_charAt_3b067_1 rfl (lv_at hl 0 rfl) ?_
  refine va_tlen (v := 4) hx hb hE_66 hS rfl dJ1_charAt_3b067_2 ?_
  obtain ⟨hPc, hDc, hFc, hqc⟩ := cl_cut (wc := []) hP hD hS hA [] (by decide +kernel) rfl
  have hKc := hK.sub (tys' := []) [] rfl
  refine va_callv (va_runS (As := [.int 2, .int 4]) (rest := []) ⟨hx, hb, hml, hown, hts⟩ (c_J0_checkIndex_df160_2 l dC dI H.size) (va_cwS 2 hts gf_c_J1_charAt_3b067_2_c_J0_checkIndex_df160_2 rfl rfl rfl md_J0_checkIndex_df160 ⟨Nat.le_of_ble_eq_true rfl, Nat.le_of_ble_eq_true rfl⟩) ⟨fun a U g mk q => by obtain ⟨q0, q1, qP, qK, qD, qE0⟩ := q; exact ⟨q0, q1, qP, va_K.moved (u := U) (U := U.calling g mk a) (Vm.Alike.refl U.vm) qK, qD, va_Zq.moved (u := U) (U := U.calling g mk a) (Vm.Alike.refl U.vm) qE0⟩, fun U hU hW => ⟨rfl, by rw [hU], by rw [hU]; exact hPc, va_K.moved hW.alike hKc, hDc.weaken (fun _ _ _ _ => trivial), va_Zq.moved hW.alike (by rw [hU]; exact (hE_11.kept hS.2.1).narrow hFc)⟩⟩ rfl rfl hl.1 rfl (lv_room (Nat.le_of_ble_eq_true rfl)) dJ1_charAt_3b067_3 ⟨Nat.le_of_ble_eq_true rfl, Nat.le_of_ble_eq_true rfl⟩) hS (fun q _ h => hFc q h) hFc (fun u t H1 locs ht hvm hw hB hz1 hk1 hS => ?_)
  obtain ⟨hP1, hK1, hD1⟩ := hB
  rw [ht] at hP1
  have hP := bv_still hP hk1
  generalize H1 = H at hP hS ⊢
  as_aux_lemma =>
  have h_2 := hw
  refine lv_aload_n hx hb dJ1_charAt_3b067_6 rfl (lv_at hl 0 rfl) ?_
  refine lv_iload_n hx hb dJ1_charAt_3b067_7 rfl (lv_at hl 1 rfl) ?_
  refine va_tb (v := .int 115) hx hb hE_66 hS (by unfold vp_in; decide) rfl dJ1_charAt_3b067_8 ?_
  refine lv_sipush (v := 255) hx hb dJ1_charAt_3b067_9 kc_sipush_255 ?_
  refine lv_iand hx hb dJ1_charAt_3b067_12 ?_
  refine lv_topi (fun x_3 ex_3 => ?_)
  obtain rfl : x_3 = 115 := ex_3.trans (by decide +kernel)
  refine lv_i2c (v := 115) hx hb dJ1_charAt_3b067_13 (by decide +kernel) ?_
  have hK9 := hK.sub (tys' := []) [] rfl
  exact W.zret (v := 115) hx hb hr rfl (fun t ht hW => ⟨⟨115, (), rfl, ⟨rfl, (hR.trans hEX).symm⟩, by rw [ht]; exact hP, va_K.moved hW.alike hK9, hD⟩, hS.F ht⟩) hS.2.2 dJ1_charAt_3b067_14
noncomputable def wf_c_J0_charAt_5068e_2 : List Cond := .code yJ0_charAt_5068e cJ0_charAt_5068e 2 (some .char) :: ([.methodLink RJ0 492 yJ0_isLatin1_aae02, .instanceMethod yJ0_isLatin1_aae02, .selects RJ0 yJ0_isLatin1_aae02 yJ0_isLatin1_aae02, .initialized RJ0, .code yJ0_isLatin1_aae02 cJ0_isLatin1_aae02 1 (some .boolean), .fieldLink RJ0 38 "java/lang/String" "COMPACT_STRINGS" "Z", .fieldLink RJ0 15 "java/lang/String" "coder" "B", .fieldLink RJ0 9 "java/lang/String" "value" "[B", .methodLink RJ0 495 yJ1_charAt_3b067, .static yJ1_charAt_3b067, .initialized RJ1, .code yJ1_charAt_3b067 cJ1_charAt_3b067 2 (some .char), .methodLink RJ1 9 yJ0_checkIndex_df160, .static yJ0_checkIndex_df160, .code yJ0_checkIndex_df160 cJ0_checkIndex_df160 2 none, .fieldLink RJ0 1053 "jdk/internal/util/Preconditions" "SIOOBE_FORMATTER" "Ljava/util/function/BiFunction;", .methodLink RJ0 1059 yJ3_checkIndex_8e157, .static yJ3_checkIndex_8e157, .initialized RJ3, .code yJ3_checkIndex_8e157 cJ3_checkIndex_8e157 3 (some .int)])
set_option maxRecDepth 20000 in
theorem gf_c_J0_charAt_5068e_2_c_J0_isLatin1_aae02_6 : GoodIn wf_c_J0_charAt_5068e_2 (wsV RJ0 492 RJ0 yJ0_isLatin1_aae02 wf_c_J0_isLatin1_aae02_6) := goodIn_app (gi_l [1, 2, 3, 4] rfl rfl) (gi_cons (j := 5) rfl rfl (gi_l [6, 7] rfl rfl))
set_option maxRecDepth 20000 in
theorem gf_c_J0_charAt_5068e_2_c_J1_charAt_3b067_2 : GoodIn wf_c_J0_charAt_5068e_2 (va_wsS RJ0 495 yJ1_charAt_3b067 wf_c_J1_charAt_3b067_2) := goodIn_app (gi_l [9, 10, 11] rfl rfl) (gi_cons (j := 12) rfl rfl (gi_l [13, 14, 4, 15, 16, 17, 18, 19, 20] rfl rfl))
set_option maxHeartbeats 4000000 in
set_option maxRecDepth 100000 in
theorem c_J0_charAt_5068e_2 (l : Launch) (dC : Nat → ClassId) (dI : Nat → Nat → Nat) (sz : Nat) (ts10 : Nat) (tv10 : Nat) : Met l yJ0_charAt_5068e wf_c_J0_charAt_5068e_2 ({ frames := 3, cells := 0, slots := 0, locals := 64 }) (va_Pc [.ref ts10, .int 2] (fun U => U.heap.size = sz ∧ va_P (dC, dI) vwCl [] U.heap ∧ va_K (dC, dI) vwCl [] U ∧ va_D (fun _ => True) [] ∧ va_Z "java/lang/String" "COMPACT_STRINGS" "Z" (.int 1) (va_A [] sz) U U.heap ∧ va_OF "java/lang/String" "coder" "B" (.int 0) ts10 (va_A [] sz) U U.heap ∧ va_O "java/lang/String" ts10 (va_A [] sz) U U.heap ∧ va_OF "java/lang/String" "value" "[B" (.ref tv10) ts10 (va_A [] sz) U U.heap ∧ va_T .byte tv10 4 (fun j => .int ([120, 121, 115, 118].getD j 0)) (va_A [] sz) U U.heap ∧ va_Zq "jdk/internal/util/Preconditions" "SIOOBE_FORMATTER" "Ljava/util/function/BiFunction;" (va_A [] sz) U U.heap)) (va_Qi (fun (r : Int32) (u : Unit) => (r = 115 ∧ r = fx_c_J0_charAt_5068e_2)) (fun (u : Unit) t => va_P (dC, dI) vwCl [] t.heap ∧ va_K (dC, dI) vwCl [] t ∧ va_D (va_A [] sz) []) (va_A [] sz)) 0 0 (va_A [] sz) := by
  refine Met.ofW (cc := cJ0_charAt_5068e) (maxL := 2) (ret := (some .char)) (by decide +kernel) rfl ?_
  intro p e s m args below meth c s₁ B hml hv
  obtain ⟨rfl, hsz, hP, hK, hD0, hE_10, hE_64, hE_63, hE_65, hE_66, hE_11⟩ := hv
  have hx := B.exec
  have hb := B.bytes
  have hr := B.returns
  have hts := atoms_spec (ws := wf_c_J0_charAt_5068e_2) B.pre
  have hown : s.vm.findClass RJ0 = some m.cls := findClass_of_methodNamed B.named
  have hlocks := B.notSynchronized
  subst hsz
  have hD := hD0.self (sz := s.heap.size)
  generalize hAe : va_A [] s.heap.size = A at hD hE_10 hE_64 hE_63 hE_65 hE_66 hE_11 ⊢
  have hA : ∀ q : Nat, s.heap.size ≤ q → A q := fun q h => by rw [← hAe]; exact Or.inr h
  have hP : va_P (dC, dI) vwCl [] s.heap := hP
  have hl := lv_entry ([.ref ts10, .int 2]) (n := 2) (Nat.le_of_ble_eq_true rfl)
  rw [lg_entry_eq]
  generalize (lg_sl ([.ref ts10, .int 2]) ++ List.replicate (2 - (lg_sl ([.ref ts10, .int 2])).length) Slot.unset).toArray = ls at hl ⊢
  have hl : lv_has ls 2 [(0, .ref ts10), (1, .int 2)] := hl
  obtain ⟨H, hHe⟩ : ∃ H : Heap, s.heap = H := ⟨_, rfl⟩
  have hS : va_S A s.heap H [] := by rw [hHe]; exact va_S.rf
  have hP : va_P (dC, dI) vwCl [] H := by rw [← hHe]; exact hP
  rw [hHe]
  obtain ⟨RES, hR⟩ : ∃ z, fx_c_J0_charAt_5068e_2 = z := ⟨_, rfl⟩
  have hEX : RES = fx_c_J0_charAt_5068e_2 := hR.symm
  refine lv_aload_n hx hb dJ0_charAt_5068e_0 rfl (lv_at hl 0 rfl) ?_
  as_aux_lemma =>
  obtain ⟨hPc, hDc, hFc, hqc⟩ := cl_cut (wc := []) hP hD hS hA [] (by decide +kernel) rfl
  have hKc := hK.sub (tys' := []) [] rfl
  have hrv := bv_Orecv hE_63 hS
  refine va_calli (va_runV (As := []) (rest := []) ⟨hx, hb, hml, hown, hts⟩ (c_J0_isLatin1_aae02_6 l dC dI H.size ts10) (cwV 0 hts gf_c_J0_charAt_5068e_2_c_J0_isLatin1_aae02_6 rfl rfl rfl mdV_J0_isLatin1_aae02 ⟨Nat.le_of_ble_eq_true rfl, Nat.le_of_ble_eq_true rfl⟩) ⟨fun a U g mk q => by obtain ⟨q0, q1, qP, qK, qD, qE0, qE1⟩ := q; exact ⟨q0, q1, qP, va_K.moved (u := U) (U := U.calling g mk a) (Vm.Alike.refl U.vm) qK, qD, va_Z.moved (u := U) (U := U.calling g mk a) (Vm.Alike.refl U.vm) qE0, va_OF.moved (u := U) (U := U.calling g mk a) (Vm.Alike.refl U.vm) qE1⟩, hrv, fun U hU hW => ⟨rfl, by rw [hU], by rw [hU]; exact hPc, va_K.moved hW.alike hKc, hDc.weaken (fun _ _ _ _ => trivial), va_Z.moved hW.alike (by rw [hU]; exact (hE_10.kept hS.2.1).narrow hFc), va_OF.moved hW.alike (by rw [hU]; exact (hE_64.kept hS.2.1).narrow hFc)⟩⟩ rfl rfl hl.1 rfl (lv_room (Nat.le_of_ble_eq_true rfl)) dJ0_charAt_5068e_1 ⟨Nat.le_of_ble_eq_true rfl, Nat.le_of_ble_eq_true rfl⟩) hS (fun q _ h => hFc q h) hFc (fun r_1 u t H1 locs ht hvm hw hB hz1 hk1 hS => ?_)
  obtain ⟨hP1, hK1, hD1⟩ := hB
  rw [ht] at hP1
  have hP := bv_still hP hk1
  generalize H1 = H at hP hS ⊢
  as_aux_lemma =>
  rcases hw with ⟨h_2, h_3⟩
  have h_3 : r_1 = _ := h_3
  replace hEX := hEX.trans (exc1_eq h_3)
  rw [h_2]
  refine lv_if_eq (tgt := 16) hx hb dJ0_charAt_5068e_4 rfl (fun c_4 => absurd c_4 (by decide +kernel)) (fun c_4 => ?_)
  refine lv_aload_n hx hb dJ0_charAt_5068e_7 rfl (lv_at hl 0 rfl) ?_
  refine vk_getf hx hb hE_65 hS hown (hts (.fieldLink RJ0 9 "java/lang/String" "value" "[B") (List.mem_of_getElem? (i := 8) rfl)) (fun _ h9 => h9) dJ0_charAt_5068e_8 ?_
  refine lv_iload_n hx hb dJ0_charAt_5068e_11 rfl (lv_at hl 1 rfl) ?_
  obtain ⟨hPc, hDc, hFc, hqc⟩ := cl_cut (wc := []) hP hD hS hA [] (by decide +kernel) rfl
  have hKc := hK.sub (tys' := []) [] rfl
  refine va_calli (va_runS (As := [.ref tv10, .int 2]) (rest := []) ⟨hx, hb, hml, hown, hts⟩ (c_J1_charAt_3b067_2 l dC dI H.size tv10) (va_cwS 2 hts gf_c_J0_charAt_5068e_2_c_J1_charAt_3b067_2 rfl rfl rfl md_J1_charAt_3b067 ⟨Nat.le_of_ble_eq_true rfl, Nat.le_of_ble_eq_true rfl⟩) ⟨fun a U g mk q => by obtain ⟨q0, q1, qP, qK, qD, qE0, qE1⟩ := q; exact ⟨q0, q1, qP, va_K.moved (u := U) (U := U.calling g mk a) (Vm.Alike.refl U.vm) qK, qD, va_T.moved (u := U) (U := U.calling g mk a) (Vm.Alike.refl U.vm) qE0, va_Zq.moved (u := U) (U := U.calling g mk a) (Vm.Alike.refl U.vm) qE1⟩, fun U hU hW => ⟨rfl, by rw [hU], by rw [hU]; exact hPc, va_K.moved hW.alike hKc, hDc.weaken (fun _ _ _ _ => trivial), va_T.moved hW.alike (by rw [hU]; exact (hE_66.kept hS.2.1).narrow hFc), va_Zq.moved hW.alike (by rw [hU]; exact (hE_11.kept hS.2.1).narrow hFc)⟩⟩ rfl rfl hl.1 rfl (lv_room (Nat.le_of_ble_eq_true rfl)) dJ0_charAt_5068e_12 ⟨Nat.le_of_ble_eq_true rfl, Nat.le_of_ble_eq_true rfl⟩) hS (fun q _ h => hFc q h) hFc (fun r_5 u t H1 locs ht hvm hw hB hz1 hk1 hS => ?_)
  obtain ⟨hP1, hK1, hD1⟩ := hB
  rw [ht] at hP1
  have hP := bv_still hP hk1
  generalize H1 = H at hP hS ⊢
  as_aux_lemma =>
  rcases hw with ⟨h_6, h_7⟩
  have h_7 : r_5 = _ := h_7
  replace hEX := hEX.trans (exc1_eq h_7)
  rw [h_6]
  have hK9 := hK.sub (tys' := []) [] rfl
  exact W.zret (v := 115) hx hb hr rfl (fun t ht hW => ⟨⟨115, (), rfl, ⟨rfl, (hR.trans hEX).symm⟩, by rw [ht]; exact hP, va_K.moved hW.alike hK9, hD⟩, hS.F ht⟩) hS.2.2 dJ0_charAt_5068e_15
noncomputable def wf_c_J3_checkIndex_8e157_6 : List Cond := .code yJ3_checkIndex_8e157 cJ3_checkIndex_8e157 3 (some .int) :: ([])
set_option maxHeartbeats 4000000 in
set_option maxRecDepth 100000 in
theorem c_J3_checkIndex_8e157_6 (l : Launch) (dC : Nat → ClassId) (dI : Nat → Nat → Nat) (sz : Nat) : Met l yJ3_checkIndex_8e157 wf_c_J3_checkIndex_8e157_6 ({ frames := 0, cells := 0, slots := 0, locals := 0 }) (va_Pc [.int 3, .int 4, .null] (fun U => U.heap.size = sz ∧ va_P (dC, dI) vwCl [] U.heap ∧ va_K (dC, dI) vwCl [] U ∧ va_D (fun _ => True) [])) (va_Qi (fun (r : Int32) (u : Unit) => (r = 3 ∧ r = fx_c_J3_checkIndex_8e157_6)) (fun (u : Unit) t => va_P (dC, dI) vwCl [] t.heap ∧ va_K (dC, dI) vwCl [] t ∧ va_D (va_A [] sz) []) (va_A [] sz)) 0 0 (va_A [] sz) := by
  refine Met.ofW (cc := cJ3_checkIndex_8e157) (maxL := 3) (ret := (some .int)) (by decide +kernel) rfl ?_
  intro p e s m args below meth c s₁ B hml hv
  obtain ⟨rfl, hsz, hP, hK, hD0⟩ := hv
  have hx := B.exec
  have hb := B.bytes
  have hr := B.returns
  have hts := atoms_spec (ws := wf_c_J3_checkIndex_8e157_6) B.pre
  have hown : s.vm.findClass RJ3 = some m.cls := findClass_of_methodNamed B.named
  have hlocks := B.notSynchronized
  subst hsz
  have hD := hD0.self (sz := s.heap.size)
  generalize hAe : va_A [] s.heap.size = A at hD ⊢
  have hA : ∀ q : Nat, s.heap.size ≤ q → A q := fun q h => by rw [← hAe]; exact Or.inr h
  have hP : va_P (dC, dI) vwCl [] s.heap := hP
  have hl := lv_entry ([.int 3, .int 4, .null]) (n := 3) (Nat.le_of_ble_eq_true rfl)
  rw [lg_entry_eq]
  generalize (lg_sl ([.int 3, .int 4, .null]) ++ List.replicate (3 - (lg_sl ([.int 3, .int 4, .null])).length) Slot.unset).toArray = ls at hl ⊢
  have hl : lv_has ls 3 [(0, .int 3), (1, .int 4), (2, .null)] := hl
  obtain ⟨H, hHe⟩ : ∃ H : Heap, s.heap = H := ⟨_, rfl⟩
  have hS : va_S A s.heap H [] := by rw [hHe]; exact va_S.rf
  have hP : va_P (dC, dI) vwCl [] H := by rw [← hHe]; exact hP
  rw [hHe]
  obtain ⟨RES, hR⟩ : ∃ z, fx_c_J3_checkIndex_8e157_6 = z := ⟨_, rfl⟩
  have hEX : RES = fx_c_J3_checkIndex_8e157_6 := hR.symm
  refine lv_iload_n hx hb dJ3_checkIndex_8e157_0 rfl (lv_at hl 0 rfl) ?_
  as_aux_lemma =>
  refine lv_if_lt (tgt := 9) hx hb dJ3_checkIndex_8e157_1 rfl (fun c_1 => absurd c_1 (by decide +kernel)) (fun c_1 => ?_)
  refine lv_iload_n hx hb dJ3_checkIndex_8e157_4 rfl (lv_at hl 0 rfl) ?_
  refine lv_iload_n hx hb dJ3_checkIndex_8e157_5 rfl (lv_at hl 1 rfl) ?_
  refine lv_icmp_lt (tgt := 16) hx hb dJ3_checkIndex_8e157_6 rfl (fun c_2 => ?_) (fun c_2 => absurd c_2 (by decide +kernel))
  refine lv_iload_n hx hb dJ3_checkIndex_8e157_16 rfl (lv_at hl 0 rfl) ?_
  have hK9 := hK.sub (tys' := []) [] rfl
  exact W.iret (v := 3) hx hb hr (fun t ht hW => ⟨⟨3, (), rfl, ⟨rfl, (hR.trans hEX).symm⟩, by rw [ht]; exact hP, va_K.moved hW.alike hK9, hD⟩, hS.F ht⟩) hS.2.2 dJ3_checkIndex_8e157_17
noncomputable def wf_c_J3_checkIndex_8e157_7 : List Cond := .code yJ3_checkIndex_8e157 cJ3_checkIndex_8e157 3 (some .int) :: ([])
set_option maxHeartbeats 4000000 in
set_option maxRecDepth 100000 in
theorem c_J3_checkIndex_8e157_7 (l : Launch) (dC : Nat → ClassId) (dI : Nat → Nat → Nat) (sz : Nat) (h2 : Nat) : Met l yJ3_checkIndex_8e157 wf_c_J3_checkIndex_8e157_7 ({ frames := 0, cells := 0, slots := 0, locals := 0 }) (va_Pc [.int 3, .int 4, .ref h2] (fun U => U.heap.size = sz ∧ va_P (dC, dI) vwCl [] U.heap ∧ va_K (dC, dI) vwCl [] U ∧ va_D (fun _ => True) [])) (va_Qi (fun (r : Int32) (u : Unit) => (r = 3 ∧ r = fx_c_J3_checkIndex_8e157_7)) (fun (u : Unit) t => va_P (dC, dI) vwCl [] t.heap ∧ va_K (dC, dI) vwCl [] t ∧ va_D (va_A [] sz) []) (va_A [] sz)) 0 0 (va_A [] sz) := by
  refine Met.ofW (cc := cJ3_checkIndex_8e157) (maxL := 3) (ret := (some .int)) (by decide +kernel) rfl ?_
  intro p e s m args below meth c s₁ B hml hv
  obtain ⟨rfl, hsz, hP, hK, hD0⟩ := hv
  have hx := B.exec
  have hb := B.bytes
  have hr := B.returns
  have hts := atoms_spec (ws := wf_c_J3_checkIndex_8e157_7) B.pre
  have hown : s.vm.findClass RJ3 = some m.cls := findClass_of_methodNamed B.named
  have hlocks := B.notSynchronized
  subst hsz
  have hD := hD0.self (sz := s.heap.size)
  generalize hAe : va_A [] s.heap.size = A at hD ⊢
  have hA : ∀ q : Nat, s.heap.size ≤ q → A q := fun q h => by rw [← hAe]; exact Or.inr h
  have hP : va_P (dC, dI) vwCl [] s.heap := hP
  have hl := lv_entry ([.int 3, .int 4, .ref h2]) (n := 3) (Nat.le_of_ble_eq_true rfl)
  rw [lg_entry_eq]
  generalize (lg_sl ([.int 3, .int 4, .ref h2]) ++ List.replicate (3 - (lg_sl ([.int 3, .int 4, .ref h2])).length) Slot.unset).toArray = ls at hl ⊢
  have hl : lv_has ls 3 [(0, .int 3), (1, .int 4), (2, .ref h2)] := hl
  obtain ⟨H, hHe⟩ : ∃ H : Heap, s.heap = H := ⟨_, rfl⟩
  have hS : va_S A s.heap H [] := by rw [hHe]; exact va_S.rf
  have hP : va_P (dC, dI) vwCl [] H := by rw [← hHe]; exact hP
  rw [hHe]
  obtain ⟨RES, hR⟩ : ∃ z, fx_c_J3_checkIndex_8e157_7 = z := ⟨_, rfl⟩
  have hEX : RES = fx_c_J3_checkIndex_8e157_7 := hR.symm
  refine lv_iload_n hx hb dJ3_checkIndex_8e157_0 rfl (lv_at hl 0 rfl) ?_
  as_aux_lemma =>
  refine lv_if_lt (tgt := 9) hx hb dJ3_checkIndex_8e157_1 rfl (fun c_1 => absurd c_1 (by decide +kernel)) (fun c_1 => ?_)
  refine lv_iload_n hx hb dJ3_checkIndex_8e157_4 rfl (lv_at hl 0 rfl) ?_
  refine lv_iload_n hx hb dJ3_checkIndex_8e157_5 rfl (lv_at hl 1 rfl) ?_
  refine lv_icmp_lt (tgt := 16) hx hb dJ3_checkIndex_8e157_6 rfl (fun c_2 => ?_) (fun c_2 => absurd c_2 (by decide +kernel))
  refine lv_iload_n hx hb dJ3_checkIndex_8e157_16 rfl (lv_at hl 0 rfl) ?_
  have hK9 := hK.sub (tys' := []) [] rfl
  exact W.iret (v := 3) hx hb hr (fun t ht hW => ⟨⟨3, (), rfl, ⟨rfl, (hR.trans hEX).symm⟩, by rw [ht]; exact hP, va_K.moved hW.alike hK9, hD⟩, hS.F ht⟩) hS.2.2 dJ3_checkIndex_8e157_17
noncomputable def wf_c_J0_checkIndex_df160_3 : List Cond := .code yJ0_checkIndex_df160 cJ0_checkIndex_df160 2 none :: ([.fieldLink RJ0 1053 "jdk/internal/util/Preconditions" "SIOOBE_FORMATTER" "Ljava/util/function/BiFunction;", .methodLink RJ0 1059 yJ3_checkIndex_8e157, .static yJ3_checkIndex_8e157, .initialized RJ3, .code yJ3_checkIndex_8e157 cJ3_checkIndex_8e157 3 (some .int)])
set_option maxRecDepth 20000 in
theorem gf_c_J0_checkIndex_df160_3_c_J3_checkIndex_8e157_6 : GoodIn wf_c_J0_checkIndex_df160_3 (va_wsS RJ0 1059 yJ3_checkIndex_8e157 wf_c_J3_checkIndex_8e157_6) := goodIn_app (gi_l [2, 3, 4] rfl rfl) (gi_cons (j := 5) rfl rfl gi_nil)
set_option maxRecDepth 20000 in
theorem gf_c_J0_checkIndex_df160_3_c_J3_checkIndex_8e157_7 : GoodIn wf_c_J0_checkIndex_df160_3 (va_wsS RJ0 1059 yJ3_checkIndex_8e157 wf_c_J3_checkIndex_8e157_7) := goodIn_app (gi_l [2, 3, 4] rfl rfl) (gi_cons (j := 5) rfl rfl gi_nil)
set_option maxHeartbeats 4000000 in
set_option maxRecDepth 100000 in
theorem c_J0_checkIndex_df160_3 (l : Launch) (dC : Nat → ClassId) (dI : Nat → Nat → Nat) (sz : Nat) : Met l yJ0_checkIndex_df160 wf_c_J0_checkIndex_df160_3 ({ frames := 1, cells := 0, slots := 0, locals := 22 }) (va_Pc [.int 3, .int 4] (fun U => U.heap.size = sz ∧ va_P (dC, dI) vwCl [] U.heap ∧ va_K (dC, dI) vwCl [] U ∧ va_D (fun _ => True) [] ∧ va_Zq "jdk/internal/util/Preconditions" "SIOOBE_FORMATTER" "Ljava/util/function/BiFunction;" (va_A [] sz) U U.heap)) (va_Qv (fun (u : Unit) => (True)) (fun (u : Unit) t => va_P (dC, dI) vwCl [] t.heap ∧ va_K (dC, dI) vwCl [] t ∧ va_D (va_A [] sz) []) (va_A [] sz)) 0 0 (va_A [] sz) := by
  refine Met.ofW (cc := cJ0_checkIndex_df160) (maxL := 2) (ret := none) (by decide +kernel) rfl ?_
  intro p e s m args below meth c s₁ B hml hv
  obtain ⟨rfl, hsz, hP, hK, hD0, hE_11⟩ := hv
  have hx := B.exec
  have hb := B.bytes
  have hr := B.returns
  have hts := atoms_spec (ws := wf_c_J0_checkIndex_df160_3) B.pre
  have hown : s.vm.findClass RJ0 = some m.cls := findClass_of_methodNamed B.named
  have hlocks := B.notSynchronized
  subst hsz
  have hD := hD0.self (sz := s.heap.size)
  generalize hAe : va_A [] s.heap.size = A at hD hE_11 ⊢
  have hA : ∀ q : Nat, s.heap.size ≤ q → A q := fun q h => by rw [← hAe]; exact Or.inr h
  have hP : va_P (dC, dI) vwCl [] s.heap := hP
  have hl := lv_entry ([.int 3, .int 4]) (n := 2) (Nat.le_of_ble_eq_true rfl)
  rw [lg_entry_eq]
  generalize (lg_sl ([.int 3, .int 4]) ++ List.replicate (2 - (lg_sl ([.int 3, .int 4])).length) Slot.unset).toArray = ls at hl ⊢
  have hl : lv_has ls 2 [(0, .int 3), (1, .int 4)] := hl
  obtain ⟨H, hHe⟩ : ∃ H : Heap, s.heap = H := ⟨_, rfl⟩
  have hS : va_S A s.heap H [] := by rw [hHe]; exact va_S.rf
  have hP : va_P (dC, dI) vwCl [] H := by rw [← hHe]; exact hP
  rw [hHe]
  refine lv_iload_n hx hb dJ0_checkIndex_df160_0 rfl (lv_at hl 0 rfl) ?_
  as_aux_lemma =>
  refine lv_iload_n hx hb dJ0_checkIndex_df160_1 rfl (lv_at hl 1 rfl) ?_
  rcases hE_11 with hZ | ⟨tz_1, hZ⟩
  · refine va_gets hx hb hZ hS hown (hts (.fieldLink RJ0 1053 "jdk/internal/util/Preconditions" "SIOOBE_FORMATTER" "Ljava/util/function/BiFunction;") (List.mem_of_getElem? (i := 1) rfl)) (fun _ h9 => h9) dJ0_checkIndex_df160_2 ?_
    obtain ⟨hPc, hDc, hFc, hqc⟩ := cl_cut (wc := []) hP hD hS hA [] (by decide +kernel) rfl
    have hKc := hK.sub (tys' := []) [] rfl
    refine va_calli (va_runS (As := [.int 3, .int 4, .null]) (rest := []) ⟨hx, hb, hml, hown, hts⟩ (c_J3_checkIndex_8e157_6 l dC dI H.size) (va_cwS 3 hts gf_c_J0_checkIndex_df160_3_c_J3_checkIndex_8e157_6 rfl rfl rfl md_J3_checkIndex_8e157 ⟨Nat.le_of_ble_eq_true rfl, Nat.le_of_ble_eq_true rfl⟩) ⟨fun a U g mk q => by obtain ⟨q0, q1, qP, qK, qD⟩ := q; exact ⟨q0, q1, qP, va_K.moved (u := U) (U := U.calling g mk a) (Vm.Alike.refl U.vm) qK, qD⟩, fun U hU hW => ⟨rfl, by rw [hU], by rw [hU]; exact hPc, va_K.moved hW.alike hKc, hDc.weaken (fun _ _ _ _ => trivial)⟩⟩ rfl rfl hl.1 rfl (lv_room (Nat.le_of_ble_eq_true rfl)) dJ0_checkIndex_df160_5 ⟨Nat.le_of_ble_eq_true rfl, Nat.le_of_ble_eq_true rfl⟩) hS (fun q _ h => hFc q h) hFc (fun r_2 u t H1 locs ht hvm hw hB hz1 hk1 hS => ?_)
    obtain ⟨hP1, hK1, hD1⟩ := hB
    rw [ht] at hP1
    have hP := bv_still hP hk1
    generalize H1 = H at hP hS ⊢
    as_aux_lemma =>
    rcases hw with ⟨h_3, h_4⟩
    rw [h_3]
    refine lv_pop hx hb dJ0_checkIndex_df160_8 rfl ?_
    have hK9 := hK.sub (tys' := []) [] rfl
    exact W.vret hx hb hr (fun t ht hW => ⟨⟨(), rfl, trivial, by rw [ht]; exact hP, va_K.moved hW.alike hK9, hD⟩, hS.F ht⟩) hS.2.2 dJ0_checkIndex_df160_9
  · refine va_gets hx hb hZ hS hown (hts (.fieldLink RJ0 1053 "jdk/internal/util/Preconditions" "SIOOBE_FORMATTER" "Ljava/util/function/BiFunction;") (List.mem_of_getElem? (i := 1) rfl)) (fun _ h9 => h9) dJ0_checkIndex_df160_2 ?_
    obtain ⟨hPc, hDc, hFc, hqc⟩ := cl_cut (wc := []) hP hD hS hA [] (by decide +kernel) rfl
    have hKc := hK.sub (tys' := []) [] rfl
    refine va_calli (va_runS (As := [.int 3, .int 4, .ref tz_1]) (rest := []) ⟨hx, hb, hml, hown, hts⟩ (c_J3_checkIndex_8e157_7 l dC dI H.size tz_1) (va_cwS 3 hts gf_c_J0_checkIndex_df160_3_c_J3_checkIndex_8e157_7 rfl rfl rfl md_J3_checkIndex_8e157 ⟨Nat.le_of_ble_eq_true rfl, Nat.le_of_ble_eq_true rfl⟩) ⟨fun a U g mk q => by obtain ⟨q0, q1, qP, qK, qD⟩ := q; exact ⟨q0, q1, qP, va_K.moved (u := U) (U := U.calling g mk a) (Vm.Alike.refl U.vm) qK, qD⟩, fun U hU hW => ⟨rfl, by rw [hU], by rw [hU]; exact hPc, va_K.moved hW.alike hKc, hDc.weaken (fun _ _ _ _ => trivial)⟩⟩ rfl rfl hl.1 rfl (lv_room (Nat.le_of_ble_eq_true rfl)) dJ0_checkIndex_df160_5 ⟨Nat.le_of_ble_eq_true rfl, Nat.le_of_ble_eq_true rfl⟩) hS (fun q _ h => hFc q h) hFc (fun r_5 u t H1 locs ht hvm hw hB hz1 hk1 hS => ?_)
    obtain ⟨hP1, hK1, hD1⟩ := hB
    rw [ht] at hP1
    have hP := bv_still hP hk1
    generalize H1 = H at hP hS ⊢
    as_aux_lemma =>
    rcases hw with ⟨h_6, h_7⟩
    rw [h_6]
    refine lv_pop hx hb dJ0_checkIndex_df160_8 rfl ?_
    have hK9 := hK.sub (tys' := []) [] rfl
    exact W.vret hx hb hr (fun t ht hW => ⟨⟨(), rfl, trivial, by rw [ht]; exact hP, va_K.moved hW.alike hK9, hD⟩, hS.F ht⟩) hS.2.2 dJ0_checkIndex_df160_9
noncomputable def wf_c_J1_charAt_3b067_3 : List Cond := .code yJ1_charAt_3b067 cJ1_charAt_3b067 2 (some .char) :: ([.methodLink RJ1 9 yJ0_checkIndex_df160, .static yJ0_checkIndex_df160, .initialized RJ0, .code yJ0_checkIndex_df160 cJ0_checkIndex_df160 2 none, .fieldLink RJ0 1053 "jdk/internal/util/Preconditions" "SIOOBE_FORMATTER" "Ljava/util/function/BiFunction;", .methodLink RJ0 1059 yJ3_checkIndex_8e157, .static yJ3_checkIndex_8e157, .initialized RJ3, .code yJ3_checkIndex_8e157 cJ3_checkIndex_8e157 3 (some .int)])
set_option maxRecDepth 20000 in
theorem gf_c_J1_charAt_3b067_3_c_J0_checkIndex_df160_3 : GoodIn wf_c_J1_charAt_3b067_3 (va_wsS RJ1 9 yJ0_checkIndex_df160 wf_c_J0_checkIndex_df160_3) := goodIn_app (gi_l [1, 2, 3] rfl rfl) (gi_cons (j := 4) rfl rfl (gi_l [5, 6, 7, 8, 9] rfl rfl))
set_option maxHeartbeats 4000000 in
set_option maxRecDepth 100000 in
theorem c_J1_charAt_3b067_3 (l : Launch) (dC : Nat → ClassId) (dI : Nat → Nat → Nat) (sz : Nat) (tv10 : Nat) : Met l yJ1_charAt_3b067 wf_c_J1_charAt_3b067_3 ({ frames := 2, cells := 0, slots := 0, locals := 43 }) (va_Pc [.ref tv10, .int 3] (fun U => U.heap.size = sz ∧ va_P (dC, dI) vwCl [] U.heap ∧ va_K (dC, dI) vwCl [] U ∧ va_D (fun _ => True) [] ∧ va_T .byte tv10 4 (fun j => .int ([120, 121, 115, 118].getD j 0)) (va_A [] sz) U U.heap ∧ va_Zq "jdk/internal/util/Preconditions" "SIOOBE_FORMATTER" "Ljava/util/function/BiFunction;" (va_A [] sz) U U.heap)) (va_Qi (fun (r : Int32) (u : Unit) => (r = 118 ∧ r = fx_c_J1_charAt_3b067_3)) (fun (u : Unit) t => va_P (dC, dI) vwCl [] t.heap ∧ va_K (dC, dI) vwCl [] t ∧ va_D (va_A [] sz) []) (va_A [] sz)) 0 0 (va_A [] sz) := by
  refine Met.ofW (cc := cJ1_charAt_3b067) (maxL := 2) (ret := (some .char)) (by decide +kernel) rfl ?_
  intro p e s m args below meth c s₁ B hml hv
  obtain ⟨rfl, hsz, hP, hK, hD0, hE_66, hE_11⟩ := hv
  have hx := B.exec
  have hb := B.bytes
  have hr := B.returns
  have hts := atoms_spec (ws := wf_c_J1_charAt_3b067_3) B.pre
  have hown : s.vm.findClass RJ1 = some m.cls := findClass_of_methodNamed B.named
  have hlocks := B.notSynchronized
  subst hsz
  have hD := hD0.self (sz := s.heap.size)
  generalize hAe : va_A [] s.heap.size = A at hD hE_66 hE_11 ⊢
  have hA : ∀ q : Nat, s.heap.size ≤ q → A q := fun q h => by rw [← hAe]; exact Or.inr h
  have hP : va_P (dC, dI) vwCl [] s.heap := hP
  have hl := lv_entry ([.ref tv10, .int 3]) (n := 2) (Nat.le_of_ble_eq_true rfl)
  rw [lg_entry_eq]
  generalize (lg_sl ([.ref tv10, .int 3]) ++ List.replicate (2 - (lg_sl ([.ref tv10, .int 3])).length) Slot.unset).toArray = ls at hl ⊢
  have hl : lv_has ls 2 [(0, .ref tv10), (1, .int 3)] := hl
  obtain ⟨H, hHe⟩ : ∃ H : Heap, s.heap = H := ⟨_, rfl⟩
  have hS : va_S A s.heap H [] := by rw [hHe]; exact va_S.rf
  have hP : va_P (dC, dI) vwCl [] H := by rw [← hHe]; exact hP
  rw [hHe]
  obtain ⟨RES, hR⟩ : ∃ z, fx_c_J1_charAt_3b067_3 = z := ⟨_, rfl⟩
  have hEX : RES = fx_c_J1_charAt_3b067_3 := hR.symm
  refine lv_iload_n hx hb dJ1_charAt_3b067_0 rfl (lv_at hl 1 rfl) ?_
  as_aux_lemma =>
  refine lv_aload_n hx hb dJ1_charAt_3b067_1 rfl (lv_at hl 0 rfl) ?_
  refine va_tlen (v := 4) hx hb hE_66 hS rfl dJ1_charAt_3b067_2 ?_
  obtain ⟨hPc, hDc, hFc, hqc⟩ := cl_cut (wc := []) hP hD hS hA [] (by decide +kernel) rfl
  have hKc := hK.sub (tys' := []) [] rfl
  refine va_callv (va_runS (As := [.int 3, .int 4]) (rest := []) ⟨hx, hb, hml, hown, hts⟩ (c_J0_checkIndex_df160_3 l dC dI H.size) (va_cwS 2 hts gf_c_J1_charAt_3b067_3_c_J0_checkIndex_df160_3 rfl rfl rfl md_J0_checkIndex_df160 ⟨Nat.le_of_ble_eq_true rfl, Nat.le_of_ble_eq_true rfl⟩) ⟨fun a U g mk q => by obtain ⟨q0, q1, qP, qK, qD, qE0⟩ := q; exact ⟨q0, q1, qP, va_K.moved (u := U) (U := U.calling g mk a) (Vm.Alike.refl U.vm) qK, qD, va_Zq.moved (u := U) (U := U.calling g mk a) (Vm.Alike.refl U.vm) qE0⟩, fun U hU hW => ⟨rfl, by rw [hU], by rw [hU]; exact hPc, va_K.moved hW.alike hKc, hDc.weaken (fun _ _ _ _ => trivial), va_Zq.moved hW.alike (by rw [hU]; exact (hE_11.kept hS.2.1).narrow hFc)⟩⟩ rfl rfl hl.1 rfl (lv_room (Nat.le_of_ble_eq_true rfl)) dJ1_charAt_3b067_3 ⟨Nat.le_of_ble_eq_true rfl, Nat.le_of_ble_eq_true rfl⟩) hS (fun q _ h => hFc q h) hFc (fun u t H1 locs ht hvm hw hB hz1 hk1 hS => ?_)
  obtain ⟨hP1, hK1, hD1⟩ := hB
  rw [ht] at hP1
  have hP := bv_still hP hk1
  generalize H1 = H at hP hS ⊢
  as_aux_lemma =>
  have h_2 := hw
  refine lv_aload_n hx hb dJ1_charAt_3b067_6 rfl (lv_at hl 0 rfl) ?_
  refine lv_iload_n hx hb dJ1_charAt_3b067_7 rfl (lv_at hl 1 rfl) ?_
  refine va_tb (v := .int 118) hx hb hE_66 hS (by unfold vp_in; decide) rfl dJ1_charAt_3b067_8 ?_
  refine lv_sipush (v := 255) hx hb dJ1_charAt_3b067_9 kc_sipush_255 ?_
  refine lv_iand hx hb dJ1_charAt_3b067_12 ?_
  refine lv_topi (fun x_3 ex_3 => ?_)
  obtain rfl : x_3 = 118 := ex_3.trans (by decide +kernel)
  refine lv_i2c (v := 118) hx hb dJ1_charAt_3b067_13 (by decide +kernel) ?_
  have hK9 := hK.sub (tys' := []) [] rfl
  exact W.zret (v := 118) hx hb hr rfl (fun t ht hW => ⟨⟨118, (), rfl, ⟨rfl, (hR.trans hEX).symm⟩, by rw [ht]; exact hP, va_K.moved hW.alike hK9, hD⟩, hS.F ht⟩) hS.2.2 dJ1_charAt_3b067_14
noncomputable def wf_c_J0_charAt_5068e_3 : List Cond := .code yJ0_charAt_5068e cJ0_charAt_5068e 2 (some .char) :: ([.methodLink RJ0 492 yJ0_isLatin1_aae02, .instanceMethod yJ0_isLatin1_aae02, .selects RJ0 yJ0_isLatin1_aae02 yJ0_isLatin1_aae02, .initialized RJ0, .code yJ0_isLatin1_aae02 cJ0_isLatin1_aae02 1 (some .boolean), .fieldLink RJ0 38 "java/lang/String" "COMPACT_STRINGS" "Z", .fieldLink RJ0 15 "java/lang/String" "coder" "B", .fieldLink RJ0 9 "java/lang/String" "value" "[B", .methodLink RJ0 495 yJ1_charAt_3b067, .static yJ1_charAt_3b067, .initialized RJ1, .code yJ1_charAt_3b067 cJ1_charAt_3b067 2 (some .char), .methodLink RJ1 9 yJ0_checkIndex_df160, .static yJ0_checkIndex_df160, .code yJ0_checkIndex_df160 cJ0_checkIndex_df160 2 none, .fieldLink RJ0 1053 "jdk/internal/util/Preconditions" "SIOOBE_FORMATTER" "Ljava/util/function/BiFunction;", .methodLink RJ0 1059 yJ3_checkIndex_8e157, .static yJ3_checkIndex_8e157, .initialized RJ3, .code yJ3_checkIndex_8e157 cJ3_checkIndex_8e157 3 (some .int)])
set_option maxRecDepth 20000 in
theorem gf_c_J0_charAt_5068e_3_c_J0_isLatin1_aae02_6 : GoodIn wf_c_J0_charAt_5068e_3 (wsV RJ0 492 RJ0 yJ0_isLatin1_aae02 wf_c_J0_isLatin1_aae02_6) := goodIn_app (gi_l [1, 2, 3, 4] rfl rfl) (gi_cons (j := 5) rfl rfl (gi_l [6, 7] rfl rfl))
set_option maxRecDepth 20000 in
theorem gf_c_J0_charAt_5068e_3_c_J1_charAt_3b067_3 : GoodIn wf_c_J0_charAt_5068e_3 (va_wsS RJ0 495 yJ1_charAt_3b067 wf_c_J1_charAt_3b067_3) := goodIn_app (gi_l [9, 10, 11] rfl rfl) (gi_cons (j := 12) rfl rfl (gi_l [13, 14, 4, 15, 16, 17, 18, 19, 20] rfl rfl))
set_option maxHeartbeats 4000000 in
set_option maxRecDepth 100000 in
theorem c_J0_charAt_5068e_3 (l : Launch) (dC : Nat → ClassId) (dI : Nat → Nat → Nat) (sz : Nat) (ts10 : Nat) (tv10 : Nat) : Met l yJ0_charAt_5068e wf_c_J0_charAt_5068e_3 ({ frames := 3, cells := 0, slots := 0, locals := 64 }) (va_Pc [.ref ts10, .int 3] (fun U => U.heap.size = sz ∧ va_P (dC, dI) vwCl [] U.heap ∧ va_K (dC, dI) vwCl [] U ∧ va_D (fun _ => True) [] ∧ va_Z "java/lang/String" "COMPACT_STRINGS" "Z" (.int 1) (va_A [] sz) U U.heap ∧ va_OF "java/lang/String" "coder" "B" (.int 0) ts10 (va_A [] sz) U U.heap ∧ va_O "java/lang/String" ts10 (va_A [] sz) U U.heap ∧ va_OF "java/lang/String" "value" "[B" (.ref tv10) ts10 (va_A [] sz) U U.heap ∧ va_T .byte tv10 4 (fun j => .int ([120, 121, 115, 118].getD j 0)) (va_A [] sz) U U.heap ∧ va_Zq "jdk/internal/util/Preconditions" "SIOOBE_FORMATTER" "Ljava/util/function/BiFunction;" (va_A [] sz) U U.heap)) (va_Qi (fun (r : Int32) (u : Unit) => (r = 118 ∧ r = fx_c_J0_charAt_5068e_3)) (fun (u : Unit) t => va_P (dC, dI) vwCl [] t.heap ∧ va_K (dC, dI) vwCl [] t ∧ va_D (va_A [] sz) []) (va_A [] sz)) 0 0 (va_A [] sz) := by
  refine Met.ofW (cc := cJ0_charAt_5068e) (maxL := 2) (ret := (some .char)) (by decide +kernel) rfl ?_
  intro p e s m args below meth c s₁ B hml hv
  obtain ⟨rfl, hsz, hP, hK, hD0, hE_10, hE_64, hE_63, hE_65, hE_66, hE_11⟩ := hv
  have hx := B.exec
  have hb := B.bytes
  have hr := B.returns
  have hts := atoms_spec (ws := wf_c_J0_charAt_5068e_3) B.pre
  have hown : s.vm.findClass RJ0 = some m.cls := findClass_of_methodNamed B.named
  have hlocks := B.notSynchronized
  subst hsz
  have hD := hD0.self (sz := s.heap.size)
  generalize hAe : va_A [] s.heap.size = A at hD hE_10 hE_64 hE_63 hE_65 hE_66 hE_11 ⊢
  have hA : ∀ q : Nat, s.heap.size ≤ q → A q := fun q h => by rw [← hAe]; exact Or.inr h
  have hP : va_P (dC, dI) vwCl [] s.heap := hP
  have hl := lv_entry ([.ref ts10, .int 3]) (n := 2) (Nat.le_of_ble_eq_true rfl)
  rw [lg_entry_eq]
  generalize (lg_sl ([.ref ts10, .int 3]) ++ List.replicate (2 - (lg_sl ([.ref ts10, .int 3])).length) Slot.unset).toArray = ls at hl ⊢
  have hl : lv_has ls 2 [(0, .ref ts10), (1, .int 3)] := hl
  obtain ⟨H, hHe⟩ : ∃ H : Heap, s.heap = H := ⟨_, rfl⟩
  have hS : va_S A s.heap H [] := by rw [hHe]; exact va_S.rf
  have hP : va_P (dC, dI) vwCl [] H := by rw [← hHe]; exact hP
  rw [hHe]
  obtain ⟨RES, hR⟩ : ∃ z, fx_c_J0_charAt_5068e_3 = z := ⟨_, rfl⟩
  have hEX : RES = fx_c_J0_charAt_5068e_3 := hR.symm
  refine lv_aload_n hx hb dJ0_charAt_5068e_0 rfl (lv_at hl 0 rfl) ?_
  as_aux_lemma =>
  obtain ⟨hPc, hDc, hFc, hqc⟩ := cl_cut (wc := []) hP hD hS hA [] (by decide +kernel) rfl
  have hKc := hK.sub (tys' := []) [] rfl
  have hrv := bv_Orecv hE_63 hS
  refine va_calli (va_runV (As := []) (rest := []) ⟨hx, hb, hml, hown, hts⟩ (c_J0_isLatin1_aae02_6 l dC dI H.size ts10) (cwV 0 hts gf_c_J0_charAt_5068e_3_c_J0_isLatin1_aae02_6 rfl rfl rfl mdV_J0_isLatin1_aae02 ⟨Nat.le_of_ble_eq_true rfl, Nat.le_of_ble_eq_true rfl⟩) ⟨fun a U g mk q => by obtain ⟨q0, q1, qP, qK, qD, qE0, qE1⟩ := q; exact ⟨q0, q1, qP, va_K.moved (u := U) (U := U.calling g mk a) (Vm.Alike.refl U.vm) qK, qD, va_Z.moved (u := U) (U := U.calling g mk a) (Vm.Alike.refl U.vm) qE0, va_OF.moved (u := U) (U := U.calling g mk a) (Vm.Alike.refl U.vm) qE1⟩, hrv, fun U hU hW => ⟨rfl, by rw [hU], by rw [hU]; exact hPc, va_K.moved hW.alike hKc, hDc.weaken (fun _ _ _ _ => trivial), va_Z.moved hW.alike (by rw [hU]; exact (hE_10.kept hS.2.1).narrow hFc), va_OF.moved hW.alike (by rw [hU]; exact (hE_64.kept hS.2.1).narrow hFc)⟩⟩ rfl rfl hl.1 rfl (lv_room (Nat.le_of_ble_eq_true rfl)) dJ0_charAt_5068e_1 ⟨Nat.le_of_ble_eq_true rfl, Nat.le_of_ble_eq_true rfl⟩) hS (fun q _ h => hFc q h) hFc (fun r_1 u t H1 locs ht hvm hw hB hz1 hk1 hS => ?_)
  obtain ⟨hP1, hK1, hD1⟩ := hB
  rw [ht] at hP1
  have hP := bv_still hP hk1
  generalize H1 = H at hP hS ⊢
  as_aux_lemma =>
  rcases hw with ⟨h_2, h_3⟩
  have h_3 : r_1 = _ := h_3
  replace hEX := hEX.trans (exc1_eq h_3)
  rw [h_2]
  refine lv_if_eq (tgt := 16) hx hb dJ0_charAt_5068e_4 rfl (fun c_4 => absurd c_4 (by decide +kernel)) (fun c_4 => ?_)
  refine lv_aload_n hx hb dJ0_charAt_5068e_7 rfl (lv_at hl 0 rfl) ?_
  refine vk_getf hx hb hE_65 hS hown (hts (.fieldLink RJ0 9 "java/lang/String" "value" "[B") (List.mem_of_getElem? (i := 8) rfl)) (fun _ h9 => h9) dJ0_charAt_5068e_8 ?_
  refine lv_iload_n hx hb dJ0_charAt_5068e_11 rfl (lv_at hl 1 rfl) ?_
  obtain ⟨hPc, hDc, hFc, hqc⟩ := cl_cut (wc := []) hP hD hS hA [] (by decide +kernel) rfl
  have hKc := hK.sub (tys' := []) [] rfl
  refine va_calli (va_runS (As := [.ref tv10, .int 3]) (rest := []) ⟨hx, hb, hml, hown, hts⟩ (c_J1_charAt_3b067_3 l dC dI H.size tv10) (va_cwS 2 hts gf_c_J0_charAt_5068e_3_c_J1_charAt_3b067_3 rfl rfl rfl md_J1_charAt_3b067 ⟨Nat.le_of_ble_eq_true rfl, Nat.le_of_ble_eq_true rfl⟩) ⟨fun a U g mk q => by obtain ⟨q0, q1, qP, qK, qD, qE0, qE1⟩ := q; exact ⟨q0, q1, qP, va_K.moved (u := U) (U := U.calling g mk a) (Vm.Alike.refl U.vm) qK, qD, va_T.moved (u := U) (U := U.calling g mk a) (Vm.Alike.refl U.vm) qE0, va_Zq.moved (u := U) (U := U.calling g mk a) (Vm.Alike.refl U.vm) qE1⟩, fun U hU hW => ⟨rfl, by rw [hU], by rw [hU]; exact hPc, va_K.moved hW.alike hKc, hDc.weaken (fun _ _ _ _ => trivial), va_T.moved hW.alike (by rw [hU]; exact (hE_66.kept hS.2.1).narrow hFc), va_Zq.moved hW.alike (by rw [hU]; exact (hE_11.kept hS.2.1).narrow hFc)⟩⟩ rfl rfl hl.1 rfl (lv_room (Nat.le_of_ble_eq_true rfl)) dJ0_charAt_5068e_12 ⟨Nat.le_of_ble_eq_true rfl, Nat.le_of_ble_eq_true rfl⟩) hS (fun q _ h => hFc q h) hFc (fun r_5 u t H1 locs ht hvm hw hB hz1 hk1 hS => ?_)
  obtain ⟨hP1, hK1, hD1⟩ := hB
  rw [ht] at hP1
  have hP := bv_still hP hk1
  generalize H1 = H at hP hS ⊢
  as_aux_lemma =>
  rcases hw with ⟨h_6, h_7⟩
  have h_7 : r_5 = _ := h_7
  replace hEX := hEX.trans (exc1_eq h_7)
  rw [h_6]
  have hK9 := hK.sub (tys' := []) [] rfl
  exact W.zret (v := 118) hx hb hr rfl (fun t ht hW => ⟨⟨118, (), rfl, ⟨rfl, (hR.trans hEX).symm⟩, by rw [ht]; exact hP, va_K.moved hW.alike hK9, hD⟩, hS.F ht⟩) hS.2.2 dJ0_charAt_5068e_15
noncomputable def wf_c_X12_spotOf : List Cond := .code yX12_spotOf cX12_spotOf 3 (some .int) :: ([.methodLink RX12 114 yJ0_length_8abf5, .instanceMethod yJ0_length_8abf5, .selects RJ0 yJ0_length_8abf5 yJ0_length_8abf5, .initialized RJ0, .code yJ0_length_8abf5 cJ0_length_8abf5 1 (some .int), .fieldLink RJ0 9 "java/lang/String" "value" "[B", .methodLink RJ0 335 yJ0_coder_7d493, .instanceMethod yJ0_coder_7d493, .selects RJ0 yJ0_coder_7d493 yJ0_coder_7d493, .code yJ0_coder_7d493 cJ0_coder_7d493 1 (some .byte), .fieldLink RJ0 38 "java/lang/String" "COMPACT_STRINGS" "Z", .fieldLink RJ0 15 "java/lang/String" "coder" "B", .methodLink RX12 120 yJ0_charAt_5068e, .instanceMethod yJ0_charAt_5068e, .selects RJ0 yJ0_charAt_5068e yJ0_charAt_5068e, .code yJ0_charAt_5068e cJ0_charAt_5068e 2 (some .char), .methodLink RJ0 492 yJ0_isLatin1_aae02, .instanceMethod yJ0_isLatin1_aae02, .selects RJ0 yJ0_isLatin1_aae02 yJ0_isLatin1_aae02, .code yJ0_isLatin1_aae02 cJ0_isLatin1_aae02 1 (some .boolean), .methodLink RJ0 495 yJ1_charAt_3b067, .static yJ1_charAt_3b067, .initialized RJ1, .code yJ1_charAt_3b067 cJ1_charAt_3b067 2 (some .char), .methodLink RJ1 9 yJ0_checkIndex_df160, .static yJ0_checkIndex_df160, .code yJ0_checkIndex_df160 cJ0_checkIndex_df160 2 none, .fieldLink RJ0 1053 "jdk/internal/util/Preconditions" "SIOOBE_FORMATTER" "Ljava/util/function/BiFunction;", .methodLink RJ0 1059 yJ3_checkIndex_8e157, .static yJ3_checkIndex_8e157, .initialized RJ3, .code yJ3_checkIndex_8e157 cJ3_checkIndex_8e157 3 (some .int)])
set_option maxRecDepth 20000 in
theorem gf_c_X12_spotOf_c_J0_length_8abf5_6 : GoodIn wf_c_X12_spotOf (wsV RX12 114 RJ0 yJ0_length_8abf5 wf_c_J0_length_8abf5_6) := goodIn_app (gi_l [1, 2, 3, 4] rfl rfl) (gi_cons (j := 5) rfl rfl (gi_l [6, 7, 8, 9, 4, 10, 11, 12] rfl rfl))
set_option maxRecDepth 20000 in
theorem gf_c_X12_spotOf_c_J0_charAt_5068e : GoodIn wf_c_X12_spotOf (wsV RX12 120 RJ0 yJ0_charAt_5068e wf_c_J0_charAt_5068e) := goodIn_app (gi_l [13, 14, 15, 4] rfl rfl) (gi_cons (j := 16) rfl rfl (gi_l [17, 18, 19, 4, 20, 11, 12, 6, 21, 22, 23, 24, 25, 26, 27, 28, 29, 30, 31, 32] rfl rfl))
set_option maxRecDepth 20000 in
theorem gf_c_X12_spotOf_c_J0_charAt_5068e_1 : GoodIn wf_c_X12_spotOf (wsV RX12 120 RJ0 yJ0_charAt_5068e wf_c_J0_charAt_5068e_1) := goodIn_app (gi_l [13, 14, 15, 4] rfl rfl) (gi_cons (j := 16) rfl rfl (gi_l [17, 18, 19, 4, 20, 11, 12, 6, 21, 22, 23, 24, 25, 26, 27, 28, 29, 30, 31, 32] rfl rfl))
set_option maxRecDepth 20000 in
theorem gf_c_X12_spotOf_c_J0_charAt_5068e_2 : GoodIn wf_c_X12_spotOf (wsV RX12 120 RJ0 yJ0_charAt_5068e wf_c_J0_charAt_5068e_2) := goodIn_app (gi_l [13, 14, 15, 4] rfl rfl) (gi_cons (j := 16) rfl rfl (gi_l [17, 18, 19, 4, 20, 11, 12, 6, 21, 22, 23, 24, 25, 26, 27, 28, 29, 30, 31, 32] rfl rfl))
set_option maxRecDepth 20000 in
theorem gf_c_X12_spotOf_c_J0_charAt_5068e_3 : GoodIn wf_c_X12_spotOf (wsV RX12 120 RJ0 yJ0_charAt_5068e wf_c_J0_charAt_5068e_3) := goodIn_app (gi_l [13, 14, 15, 4] rfl rfl) (gi_cons (j := 16) rfl rfl (gi_l [17, 18, 19, 4, 20, 11, 12, 6, 21, 22, 23, 24, 25, 26, 27, 28, 29, 30, 31, 32] rfl rfl))
set_option maxHeartbeats 4000000 in
set_option maxRecDepth 100000 in
theorem c_X12_spotOf (l : Launch) (dC : Nat → ClassId) (dI : Nat → Nat → Nat) (sz : Nat) (ts10 : Nat) (tv10 : Nat) : Met l yX12_spotOf wf_c_X12_spotOf ({ frames := 4, cells := 0, slots := 0, locals := 85 }) (va_Pc [.ref ts10, .int (-1)] (fun U => U.heap.size = sz ∧ va_P (dC, dI) vwCl [] U.heap ∧ va_K (dC, dI) vwCl [] U ∧ va_D (fun _ => True) [] ∧ va_OF "java/lang/String" "value" "[B" (.ref tv10) ts10 (va_A [] sz) U U.heap ∧ va_T .byte tv10 4 (fun j => .int ([120, 121, 115, 118].getD j 0)) (va_A [] sz) U U.heap ∧ va_Z "java/lang/String" "COMPACT_STRINGS" "Z" (.int 1) (va_A [] sz) U U.heap ∧ va_OF "java/lang/String" "coder" "B" (.int 0) ts10 (va_A [] sz) U U.heap ∧ va_O "java/lang/String" ts10 (va_A [] sz) U U.heap ∧ va_Zq "jdk/internal/util/Preconditions" "SIOOBE_FORMATTER" "Ljava/util/function/BiFunction;" (va_A [] sz) U U.heap)) (va_Qi (fun (r : Int32) (u : Unit) => (r = (-1) ∧ r = fx_c_X12_spotOf)) (fun (u : Unit) t => va_P (dC, dI) vwCl [] t.heap ∧ va_K (dC, dI) vwCl [] t ∧ va_D (va_A [] sz) []) (va_A [] sz)) 0 0 (va_A [] sz) := by
  refine Met.ofW (cc := cX12_spotOf) (maxL := 3) (ret := (some .int)) (by decide +kernel) rfl ?_
  intro p e s m args below meth c s₁ B hml hv
  obtain ⟨rfl, hsz, hP, hK, hD0, hE_65, hE_66, hE_10, hE_64, hE_63, hE_11⟩ := hv
  have hx := B.exec
  have hb := B.bytes
  have hr := B.returns
  have hts := atoms_spec (ws := wf_c_X12_spotOf) B.pre
  have hown : s.vm.findClass RX12 = some m.cls := findClass_of_methodNamed B.named
  have hlocks := B.notSynchronized
  subst hsz
  have hD := hD0.self (sz := s.heap.size)
  generalize hAe : va_A [] s.heap.size = A at hD hE_65 hE_66 hE_10 hE_64 hE_63 hE_11 ⊢
  have hA : ∀ q : Nat, s.heap.size ≤ q → A q := fun q h => by rw [← hAe]; exact Or.inr h
  have hP : va_P (dC, dI) vwCl [] s.heap := hP
  have hl := lv_entry ([.ref ts10, .int (-1)]) (n := 3) (Nat.le_of_ble_eq_true rfl)
  rw [lg_entry_eq]
  generalize (lg_sl ([.ref ts10, .int (-1)]) ++ List.replicate (3 - (lg_sl ([.ref ts10, .int (-1)])).length) Slot.unset).toArray = ls at hl ⊢
  have hl : lv_has ls 3 [(0, .ref ts10), (1, .int (-1))] := hl
  obtain ⟨H, hHe⟩ : ∃ H : Heap, s.heap = H := ⟨_, rfl⟩
  have hS : va_S A s.heap H [] := by rw [hHe]; exact va_S.rf
  have hP : va_P (dC, dI) vwCl [] H := by rw [← hHe]; exact hP
  rw [hHe]
  obtain ⟨RES, hR⟩ : ∃ z, fx_c_X12_spotOf = z := ⟨_, rfl⟩
  have hEX : RES = fx_c_X12_spotOf := hR.symm
  refine lv_iconst (v := 0) hx hb dX12_spotOf_0 kc_iconst_0 ?_
  as_aux_lemma =>
  refine lv_istore_n (lv' := [(2, .int 0), (0, .ref ts10), (1, .int (-1))]) hx hb dX12_spotOf_1 rfl hl (Nat.le_of_ble_eq_true rfl) rfl (fun ls hl => ?_)
  refine lv_iload_n hx hb dX12_spotOf_2 rfl (lv_at hl 0 rfl) ?_
  refine lv_aload_n hx hb dX12_spotOf_3 rfl (lv_at hl 1 rfl) ?_
  obtain ⟨hPc, hDc, hFc, hqc⟩ := cl_cut (wc := []) hP hD hS hA [] (by decide +kernel) rfl
  have hKc := hK.sub (tys' := []) [] rfl
  have hrv := bv_Orecv hE_63 hS
  refine va_calli (va_runV (As := []) (rest := [.int 0]) ⟨hx, hb, hml, hown, hts⟩ (c_J0_length_8abf5_6 l dC dI H.size ts10 tv10) (cwV 0 hts gf_c_X12_spotOf_c_J0_length_8abf5_6 rfl rfl rfl mdV_J0_length_8abf5 ⟨Nat.le_of_ble_eq_true rfl, Nat.le_of_ble_eq_true rfl⟩) ⟨fun a U g mk q => by obtain ⟨q0, q1, qP, qK, qD, qE0, qE1, qE2, qE3, qE4⟩ := q; exact ⟨q0, q1, qP, va_K.moved (u := U) (U := U.calling g mk a) (Vm.Alike.refl U.vm) qK, qD, va_OF.moved (u := U) (U := U.calling g mk a) (Vm.Alike.refl U.vm) qE0, va_T.moved (u := U) (U := U.calling g mk a) (Vm.Alike.refl U.vm) qE1, va_Z.moved (u := U) (U := U.calling g mk a) (Vm.Alike.refl U.vm) qE2, va_OF.moved (u := U) (U := U.calling g mk a) (Vm.Alike.refl U.vm) qE3, va_O.moved (u := U) (U := U.calling g mk a) (Vm.Alike.refl U.vm) qE4⟩, hrv, fun U hU hW => ⟨rfl, by rw [hU], by rw [hU]; exact hPc, va_K.moved hW.alike hKc, hDc.weaken (fun _ _ _ _ => trivial), va_OF.moved hW.alike (by rw [hU]; exact (hE_65.kept hS.2.1).narrow hFc), va_T.moved hW.alike (by rw [hU]; exact (hE_66.kept hS.2.1).narrow hFc), va_Z.moved hW.alike (by rw [hU]; exact (hE_10.kept hS.2.1).narrow hFc), va_OF.moved hW.alike (by rw [hU]; exact (hE_64.kept hS.2.1).narrow hFc), va_O.moved hW.alike (by rw [hU]; exact (hE_63.kept hS.2.1).narrow hFc)⟩⟩ rfl rfl hl.1 rfl (lv_room (Nat.le_of_ble_eq_true rfl)) dX12_spotOf_4 ⟨Nat.le_of_ble_eq_true rfl, Nat.le_of_ble_eq_true rfl⟩) hS (fun q _ h => hFc q h) hFc (fun r_1 u t H1 locs ht hvm hw hB hz1 hk1 hS => ?_)
  obtain ⟨hP1, hK1, hD1⟩ := hB
  rw [ht] at hP1
  have hP := bv_still hP hk1
  generalize H1 = H at hP hS ⊢
  as_aux_lemma =>
  rcases hw with ⟨h_2, h_3⟩
  have h_3 : r_1 = _ := h_3
  replace hEX := hEX.trans (exc1_eq h_3)
  rw [h_2]
  refine lv_icmp_ge (tgt := 27) hx hb dX12_spotOf_7 rfl (fun c_4 => absurd c_4 (by decide +kernel)) (fun c_4 => ?_)
  refine lv_aload_n hx hb dX12_spotOf_10 rfl (lv_at hl 1 rfl) ?_
  refine lv_iload_n hx hb dX12_spotOf_11 rfl (lv_at hl 0 rfl) ?_
  obtain ⟨hPc, hDc, hFc, hqc⟩ := cl_cut (wc := []) hP hD hS hA [] (by decide +kernel) rfl
  have hKc := hK.sub (tys' := []) [] rfl
  have hrv := bv_Orecv hE_63 hS
  refine va_calli (va_runV (As := [.int 0]) (rest := []) ⟨hx, hb, hml, hown, hts⟩ (c_J0_charAt_5068e l dC dI H.size ts10 tv10) (cwV 1 hts gf_c_X12_spotOf_c_J0_charAt_5068e rfl rfl rfl mdV_J0_charAt_5068e ⟨Nat.le_of_ble_eq_true rfl, Nat.le_of_ble_eq_true rfl⟩) ⟨fun a U g mk q => by obtain ⟨q0, q1, qP, qK, qD, qE0, qE1, qE2, qE3, qE4, qE5⟩ := q; exact ⟨q0, q1, qP, va_K.moved (u := U) (U := U.calling g mk a) (Vm.Alike.refl U.vm) qK, qD, va_Z.moved (u := U) (U := U.calling g mk a) (Vm.Alike.refl U.vm) qE0, va_OF.moved (u := U) (U := U.calling g mk a) (Vm.Alike.refl U.vm) qE1, va_O.moved (u := U) (U := U.calling g mk a) (Vm.Alike.refl U.vm) qE2, va_OF.moved (u := U) (U := U.calling g mk a) (Vm.Alike.refl U.vm) qE3, va_T.moved (u := U) (U := U.calling g mk a) (Vm.Alike.refl U.vm) qE4, va_Zq.moved (u := U) (U := U.calling g mk a) (Vm.Alike.refl U.vm) qE5⟩, hrv, fun U hU hW => ⟨rfl, by rw [hU], by rw [hU]; exact hPc, va_K.moved hW.alike hKc, hDc.weaken (fun _ _ _ _ => trivial), va_Z.moved hW.alike (by rw [hU]; exact (hE_10.kept hS.2.1).narrow hFc), va_OF.moved hW.alike (by rw [hU]; exact (hE_64.kept hS.2.1).narrow hFc), va_O.moved hW.alike (by rw [hU]; exact (hE_63.kept hS.2.1).narrow hFc), va_OF.moved hW.alike (by rw [hU]; exact (hE_65.kept hS.2.1).narrow hFc), va_T.moved hW.alike (by rw [hU]; exact (hE_66.kept hS.2.1).narrow hFc), va_Zq.moved hW.alike (by rw [hU]; exact (hE_11.kept hS.2.1).narrow hFc)⟩⟩ rfl rfl hl.1 rfl (lv_room (Nat.le_of_ble_eq_true rfl)) dX12_spotOf_12 ⟨Nat.le_of_ble_eq_true rfl, Nat.le_of_ble_eq_true rfl⟩) hS (fun q _ h => hFc q h) hFc (fun r_5 u t H1 locs ht hvm hw hB hz1 hk1 hS => ?_)
  obtain ⟨hP1, hK1, hD1⟩ := hB
  rw [ht] at hP1
  have hP := bv_still hP hk1
  generalize H1 = H at hP hS ⊢
  as_aux_lemma =>
  rcases hw with ⟨h_6, h_7⟩
  have h_7 : r_5 = _ := h_7
  replace hEX := hEX.trans (exc1_eq h_7)
  rw [h_6]
  refine lv_iload_n hx hb dX12_spotOf_15 rfl (lv_at hl 2 rfl) ?_
  refine lv_icmp_ne (tgt := 21) hx hb dX12_spotOf_16 rfl (fun c_8 => ?_) (fun c_8 => absurd c_8 (by decide +kernel))
  refine lv_iinc (v := 1) (lv' := [(2, .int 1), (0, .ref ts10), (1, .int (-1))]) hx hb dX12_spotOf_21 hl (k := 0) rfl (by decide +kernel) (Nat.le_of_ble_eq_true rfl) rfl (fun ls hl => ?_)
  refine lv_goto (tgt := 2) hx hb dX12_spotOf_24 rfl ?_
  refine lv_iload_n hx hb dX12_spotOf_2 rfl (lv_at hl 0 rfl) ?_
  refine lv_aload_n hx hb dX12_spotOf_3 rfl (lv_at hl 1 rfl) ?_
  obtain ⟨hPc, hDc, hFc, hqc⟩ := cl_cut (wc := []) hP hD hS hA [] (by decide +kernel) rfl
  have hKc := hK.sub (tys' := []) [] rfl
  have hrv := bv_Orecv hE_63 hS
  refine va_calli (va_runV (As := []) (rest := [.int 1]) ⟨hx, hb, hml, hown, hts⟩ (c_J0_length_8abf5_6 l dC dI H.size ts10 tv10) (cwV 0 hts gf_c_X12_spotOf_c_J0_length_8abf5_6 rfl rfl rfl mdV_J0_length_8abf5 ⟨Nat.le_of_ble_eq_true rfl, Nat.le_of_ble_eq_true rfl⟩) ⟨fun a U g mk q => by obtain ⟨q0, q1, qP, qK, qD, qE0, qE1, qE2, qE3, qE4⟩ := q; exact ⟨q0, q1, qP, va_K.moved (u := U) (U := U.calling g mk a) (Vm.Alike.refl U.vm) qK, qD, va_OF.moved (u := U) (U := U.calling g mk a) (Vm.Alike.refl U.vm) qE0, va_T.moved (u := U) (U := U.calling g mk a) (Vm.Alike.refl U.vm) qE1, va_Z.moved (u := U) (U := U.calling g mk a) (Vm.Alike.refl U.vm) qE2, va_OF.moved (u := U) (U := U.calling g mk a) (Vm.Alike.refl U.vm) qE3, va_O.moved (u := U) (U := U.calling g mk a) (Vm.Alike.refl U.vm) qE4⟩, hrv, fun U hU hW => ⟨rfl, by rw [hU], by rw [hU]; exact hPc, va_K.moved hW.alike hKc, hDc.weaken (fun _ _ _ _ => trivial), va_OF.moved hW.alike (by rw [hU]; exact (hE_65.kept hS.2.1).narrow hFc), va_T.moved hW.alike (by rw [hU]; exact (hE_66.kept hS.2.1).narrow hFc), va_Z.moved hW.alike (by rw [hU]; exact (hE_10.kept hS.2.1).narrow hFc), va_OF.moved hW.alike (by rw [hU]; exact (hE_64.kept hS.2.1).narrow hFc), va_O.moved hW.alike (by rw [hU]; exact (hE_63.kept hS.2.1).narrow hFc)⟩⟩ rfl rfl hl.1 rfl (lv_room (Nat.le_of_ble_eq_true rfl)) dX12_spotOf_4 ⟨Nat.le_of_ble_eq_true rfl, Nat.le_of_ble_eq_true rfl⟩) hS (fun q _ h => hFc q h) hFc (fun r_9 u t H1 locs ht hvm hw hB hz1 hk1 hS => ?_)
  as_aux_lemma =>
  obtain ⟨hP1, hK1, hD1⟩ := hB
  rw [ht] at hP1
  have hP := bv_still hP hk1
  generalize H1 = H at hP hS ⊢
  as_aux_lemma =>
  rcases hw with ⟨h_10, h_11⟩
  have h_11 : r_9 = _ := h_11
  replace hEX := hEX.trans (exc1_eq h_11)
  rw [h_10]
  refine lv_icmp_ge (tgt := 27) hx hb dX12_spotOf_7 rfl (fun c_12 => absurd c_12 (by decide +kernel)) (fun c_12 => ?_)
  refine lv_aload_n hx hb dX12_spotOf_10 rfl (lv_at hl 1 rfl) ?_
  refine lv_iload_n hx hb dX12_spotOf_11 rfl (lv_at hl 0 rfl) ?_
  obtain ⟨hPc, hDc, hFc, hqc⟩ := cl_cut (wc := []) hP hD hS hA [] (by decide +kernel) rfl
  have hKc := hK.sub (tys' := []) [] rfl
  have hrv := bv_Orecv hE_63 hS
  refine va_calli (va_runV (As := [.int 1]) (rest := []) ⟨hx, hb, hml, hown, hts⟩ (c_J0_charAt_5068e_1 l dC dI H.size ts10 tv10) (cwV 1 hts gf_c_X12_spotOf_c_J0_charAt_5068e_1 rfl rfl rfl mdV_J0_charAt_5068e ⟨Nat.le_of_ble_eq_true rfl, Nat.le_of_ble_eq_true rfl⟩) ⟨fun a U g mk q => by obtain ⟨q0, q1, qP, qK, qD, qE0, qE1, qE2, qE3, qE4, qE5⟩ := q; exact ⟨q0, q1, qP, va_K.moved (u := U) (U := U.calling g mk a) (Vm.Alike.refl U.vm) qK, qD, va_Z.moved (u := U) (U := U.calling g mk a) (Vm.Alike.refl U.vm) qE0, va_OF.moved (u := U) (U := U.calling g mk a) (Vm.Alike.refl U.vm) qE1, va_O.moved (u := U) (U := U.calling g mk a) (Vm.Alike.refl U.vm) qE2, va_OF.moved (u := U) (U := U.calling g mk a) (Vm.Alike.refl U.vm) qE3, va_T.moved (u := U) (U := U.calling g mk a) (Vm.Alike.refl U.vm) qE4, va_Zq.moved (u := U) (U := U.calling g mk a) (Vm.Alike.refl U.vm) qE5⟩, hrv, fun U hU hW => ⟨rfl, by rw [hU], by rw [hU]; exact hPc, va_K.moved hW.alike hKc, hDc.weaken (fun _ _ _ _ => trivial), va_Z.moved hW.alike (by rw [hU]; exact (hE_10.kept hS.2.1).narrow hFc), va_OF.moved hW.alike (by rw [hU]; exact (hE_64.kept hS.2.1).narrow hFc), va_O.moved hW.alike (by rw [hU]; exact (hE_63.kept hS.2.1).narrow hFc), va_OF.moved hW.alike (by rw [hU]; exact (hE_65.kept hS.2.1).narrow hFc), va_T.moved hW.alike (by rw [hU]; exact (hE_66.kept hS.2.1).narrow hFc), va_Zq.moved hW.alike (by rw [hU]; exact (hE_11.kept hS.2.1).narrow hFc)⟩⟩ rfl rfl hl.1 rfl (lv_room (Nat.le_of_ble_eq_true rfl)) dX12_spotOf_12 ⟨Nat.le_of_ble_eq_true rfl, Nat.le_of_ble_eq_true rfl⟩) hS (fun q _ h => hFc q h) hFc (fun r_13 u t H1 locs ht hvm hw hB hz1 hk1 hS => ?_)
  obtain ⟨hP1, hK1, hD1⟩ := hB
  rw [ht] at hP1
  have hP := bv_still hP hk1
  generalize H1 = H at hP hS ⊢
  as_aux_lemma =>
  rcases hw with ⟨h_14, h_15⟩
  have h_15 : r_13 = _ := h_15
  replace hEX := hEX.trans (exc1_eq h_15)
  rw [h_14]
  refine lv_iload_n hx hb dX12_spotOf_15 rfl (lv_at hl 2 rfl) ?_
  refine lv_icmp_ne (tgt := 21) hx hb dX12_spotOf_16 rfl (fun c_16 => ?_) (fun c_16 => absurd c_16 (by decide +kernel))
  refine lv_iinc (v := 2) (lv' := [(2, .int 2), (0, .ref ts10), (1, .int (-1))]) hx hb dX12_spotOf_21 hl (k := 0) rfl (by decide +kernel) (Nat.le_of_ble_eq_true rfl) rfl (fun ls hl => ?_)
  refine lv_goto (tgt := 2) hx hb dX12_spotOf_24 rfl ?_
  refine lv_iload_n hx hb dX12_spotOf_2 rfl (lv_at hl 0 rfl) ?_
  refine lv_aload_n hx hb dX12_spotOf_3 rfl (lv_at hl 1 rfl) ?_
  obtain ⟨hPc, hDc, hFc, hqc⟩ := cl_cut (wc := []) hP hD hS hA [] (by decide +kernel) rfl
  have hKc := hK.sub (tys' := []) [] rfl
  have hrv := bv_Orecv hE_63 hS
  refine va_calli (va_runV (As := []) (rest := [.int 2]) ⟨hx, hb, hml, hown, hts⟩ (c_J0_length_8abf5_6 l dC dI H.size ts10 tv10) (cwV 0 hts gf_c_X12_spotOf_c_J0_length_8abf5_6 rfl rfl rfl mdV_J0_length_8abf5 ⟨Nat.le_of_ble_eq_true rfl, Nat.le_of_ble_eq_true rfl⟩) ⟨fun a U g mk q => by obtain ⟨q0, q1, qP, qK, qD, qE0, qE1, qE2, qE3, qE4⟩ := q; exact ⟨q0, q1, qP, va_K.moved (u := U) (U := U.calling g mk a) (Vm.Alike.refl U.vm) qK, qD, va_OF.moved (u := U) (U := U.calling g mk a) (Vm.Alike.refl U.vm) qE0, va_T.moved (u := U) (U := U.calling g mk a) (Vm.Alike.refl U.vm) qE1, va_Z.moved (u := U) (U := U.calling g mk a) (Vm.Alike.refl U.vm) qE2, va_OF.moved (u := U) (U := U.calling g mk a) (Vm.Alike.refl U.vm) qE3, va_O.moved (u := U) (U := U.calling g mk a) (Vm.Alike.refl U.vm) qE4⟩, hrv, fun U hU hW => ⟨rfl, by rw [hU], by rw [hU]; exact hPc, va_K.moved hW.alike hKc, hDc.weaken (fun _ _ _ _ => trivial), va_OF.moved hW.alike (by rw [hU]; exact (hE_65.kept hS.2.1).narrow hFc), va_T.moved hW.alike (by rw [hU]; exact (hE_66.kept hS.2.1).narrow hFc), va_Z.moved hW.alike (by rw [hU]; exact (hE_10.kept hS.2.1).narrow hFc), va_OF.moved hW.alike (by rw [hU]; exact (hE_64.kept hS.2.1).narrow hFc), va_O.moved hW.alike (by rw [hU]; exact (hE_63.kept hS.2.1).narrow hFc)⟩⟩ rfl rfl hl.1 rfl (lv_room (Nat.le_of_ble_eq_true rfl)) dX12_spotOf_4 ⟨Nat.le_of_ble_eq_true rfl, Nat.le_of_ble_eq_true rfl⟩) hS (fun q _ h => hFc q h) hFc (fun r_17 u t H1 locs ht hvm hw hB hz1 hk1 hS => ?_)
  as_aux_lemma =>
  obtain ⟨hP1, hK1, hD1⟩ := hB
  rw [ht] at hP1
  have hP := bv_still hP hk1
  generalize H1 = H at hP hS ⊢
  as_aux_lemma =>
  rcases hw with ⟨h_18, h_19⟩
  have h_19 : r_17 = _ := h_19
  replace hEX := hEX.trans (exc1_eq h_19)
  rw [h_18]
  refine lv_icmp_ge (tgt := 27) hx hb dX12_spotOf_7 rfl (fun c_20 => absurd c_20 (by decide +kernel)) (fun c_20 => ?_)
  refine lv_aload_n hx hb dX12_spotOf_10 rfl (lv_at hl 1 rfl) ?_
  refine lv_iload_n hx hb dX12_spotOf_11 rfl (lv_at hl 0 rfl) ?_
  obtain ⟨hPc, hDc, hFc, hqc⟩ := cl_cut (wc := []) hP hD hS hA [] (by decide +kernel) rfl
  have hKc := hK.sub (tys' := []) [] rfl
  have hrv := bv_Orecv hE_63 hS
  refine va_calli (va_runV (As := [.int 2]) (rest := []) ⟨hx, hb, hml, hown, hts⟩ (c_J0_charAt_5068e_2 l dC dI H.size ts10 tv10) (cwV 1 hts gf_c_X12_spotOf_c_J0_charAt_5068e_2 rfl rfl rfl mdV_J0_charAt_5068e ⟨Nat.le_of_ble_eq_true rfl, Nat.le_of_ble_eq_true rfl⟩) ⟨fun a U g mk q => by obtain ⟨q0, q1, qP, qK, qD, qE0, qE1, qE2, qE3, qE4, qE5⟩ := q; exact ⟨q0, q1, qP, va_K.moved (u := U) (U := U.calling g mk a) (Vm.Alike.refl U.vm) qK, qD, va_Z.moved (u := U) (U := U.calling g mk a) (Vm.Alike.refl U.vm) qE0, va_OF.moved (u := U) (U := U.calling g mk a) (Vm.Alike.refl U.vm) qE1, va_O.moved (u := U) (U := U.calling g mk a) (Vm.Alike.refl U.vm) qE2, va_OF.moved (u := U) (U := U.calling g mk a) (Vm.Alike.refl U.vm) qE3, va_T.moved (u := U) (U := U.calling g mk a) (Vm.Alike.refl U.vm) qE4, va_Zq.moved (u := U) (U := U.calling g mk a) (Vm.Alike.refl U.vm) qE5⟩, hrv, fun U hU hW => ⟨rfl, by rw [hU], by rw [hU]; exact hPc, va_K.moved hW.alike hKc, hDc.weaken (fun _ _ _ _ => trivial), va_Z.moved hW.alike (by rw [hU]; exact (hE_10.kept hS.2.1).narrow hFc), va_OF.moved hW.alike (by rw [hU]; exact (hE_64.kept hS.2.1).narrow hFc), va_O.moved hW.alike (by rw [hU]; exact (hE_63.kept hS.2.1).narrow hFc), va_OF.moved hW.alike (by rw [hU]; exact (hE_65.kept hS.2.1).narrow hFc), va_T.moved hW.alike (by rw [hU]; exact (hE_66.kept hS.2.1).narrow hFc), va_Zq.moved hW.alike (by rw [hU]; exact (hE_11.kept hS.2.1).narrow hFc)⟩⟩ rfl rfl hl.1 rfl (lv_room (Nat.le_of_ble_eq_true rfl)) dX12_spotOf_12 ⟨Nat.le_of_ble_eq_true rfl, Nat.le_of_ble_eq_true rfl⟩) hS (fun q _ h => hFc q h) hFc (fun r_21 u t H1 locs ht hvm hw hB hz1 hk1 hS => ?_)
  obtain ⟨hP1, hK1, hD1⟩ := hB
  rw [ht] at hP1
  have hP := bv_still hP hk1
  generalize H1 = H at hP hS ⊢
  as_aux_lemma =>
  rcases hw with ⟨h_22, h_23⟩
  have h_23 : r_21 = _ := h_23
  replace hEX := hEX.trans (exc1_eq h_23)
  rw [h_22]
  refine lv_iload_n hx hb dX12_spotOf_15 rfl (lv_at hl 2 rfl) ?_
  refine lv_icmp_ne (tgt := 21) hx hb dX12_spotOf_16 rfl (fun c_24 => ?_) (fun c_24 => absurd c_24 (by decide +kernel))
  refine lv_iinc (v := 3) (lv' := [(2, .int 3), (0, .ref ts10), (1, .int (-1))]) hx hb dX12_spotOf_21 hl (k := 0) rfl (by decide +kernel) (Nat.le_of_ble_eq_true rfl) rfl (fun ls hl => ?_)
  refine lv_goto (tgt := 2) hx hb dX12_spotOf_24 rfl ?_
  refine lv_iload_n hx hb dX12_spotOf_2 rfl (lv_at hl 0 rfl) ?_
  refine lv_aload_n hx hb dX12_spotOf_3 rfl (lv_at hl 1 rfl) ?_
  obtain ⟨hPc, hDc, hFc, hqc⟩ := cl_cut (wc := []) hP hD hS hA [] (by decide +kernel) rfl
  have hKc := hK.sub (tys' := []) [] rfl
  have hrv := bv_Orecv hE_63 hS
  refine va_calli (va_runV (As := []) (rest := [.int 3]) ⟨hx, hb, hml, hown, hts⟩ (c_J0_length_8abf5_6 l dC dI H.size ts10 tv10) (cwV 0 hts gf_c_X12_spotOf_c_J0_length_8abf5_6 rfl rfl rfl mdV_J0_length_8abf5 ⟨Nat.le_of_ble_eq_true rfl, Nat.le_of_ble_eq_true rfl⟩) ⟨fun a U g mk q => by obtain ⟨q0, q1, qP, qK, qD, qE0, qE1, qE2, qE3, qE4⟩ := q; exact ⟨q0, q1, qP, va_K.moved (u := U) (U := U.calling g mk a) (Vm.Alike.refl U.vm) qK, qD, va_OF.moved (u := U) (U := U.calling g mk a) (Vm.Alike.refl U.vm) qE0, va_T.moved (u := U) (U := U.calling g mk a) (Vm.Alike.refl U.vm) qE1, va_Z.moved (u := U) (U := U.calling g mk a) (Vm.Alike.refl U.vm) qE2, va_OF.moved (u := U) (U := U.calling g mk a) (Vm.Alike.refl U.vm) qE3, va_O.moved (u := U) (U := U.calling g mk a) (Vm.Alike.refl U.vm) qE4⟩, hrv, fun U hU hW => ⟨rfl, by rw [hU], by rw [hU]; exact hPc, va_K.moved hW.alike hKc, hDc.weaken (fun _ _ _ _ => trivial), va_OF.moved hW.alike (by rw [hU]; exact (hE_65.kept hS.2.1).narrow hFc), va_T.moved hW.alike (by rw [hU]; exact (hE_66.kept hS.2.1).narrow hFc), va_Z.moved hW.alike (by rw [hU]; exact (hE_10.kept hS.2.1).narrow hFc), va_OF.moved hW.alike (by rw [hU]; exact (hE_64.kept hS.2.1).narrow hFc), va_O.moved hW.alike (by rw [hU]; exact (hE_63.kept hS.2.1).narrow hFc)⟩⟩ rfl rfl hl.1 rfl (lv_room (Nat.le_of_ble_eq_true rfl)) dX12_spotOf_4 ⟨Nat.le_of_ble_eq_true rfl, Nat.le_of_ble_eq_true rfl⟩) hS (fun q _ h => hFc q h) hFc (fun r_25 u t H1 locs ht hvm hw hB hz1 hk1 hS => ?_)
  as_aux_lemma =>
  obtain ⟨hP1, hK1, hD1⟩ := hB
  rw [ht] at hP1
  have hP := bv_still hP hk1
  generalize H1 = H at hP hS ⊢
  as_aux_lemma =>
  rcases hw with ⟨h_26, h_27⟩
  have h_27 : r_25 = _ := h_27
  replace hEX := hEX.trans (exc1_eq h_27)
  rw [h_26]
  refine lv_icmp_ge (tgt := 27) hx hb dX12_spotOf_7 rfl (fun c_28 => absurd c_28 (by decide +kernel)) (fun c_28 => ?_)
  refine lv_aload_n hx hb dX12_spotOf_10 rfl (lv_at hl 1 rfl) ?_
  refine lv_iload_n hx hb dX12_spotOf_11 rfl (lv_at hl 0 rfl) ?_
  obtain ⟨hPc, hDc, hFc, hqc⟩ := cl_cut (wc := []) hP hD hS hA [] (by decide +kernel) rfl
  have hKc := hK.sub (tys' := []) [] rfl
  have hrv := bv_Orecv hE_63 hS
  refine va_calli (va_runV (As := [.int 3]) (rest := []) ⟨hx, hb, hml, hown, hts⟩ (c_J0_charAt_5068e_3 l dC dI H.size ts10 tv10) (cwV 1 hts gf_c_X12_spotOf_c_J0_charAt_5068e_3 rfl rfl rfl mdV_J0_charAt_5068e ⟨Nat.le_of_ble_eq_true rfl, Nat.le_of_ble_eq_true rfl⟩) ⟨fun a U g mk q => by obtain ⟨q0, q1, qP, qK, qD, qE0, qE1, qE2, qE3, qE4, qE5⟩ := q; exact ⟨q0, q1, qP, va_K.moved (u := U) (U := U.calling g mk a) (Vm.Alike.refl U.vm) qK, qD, va_Z.moved (u := U) (U := U.calling g mk a) (Vm.Alike.refl U.vm) qE0, va_OF.moved (u := U) (U := U.calling g mk a) (Vm.Alike.refl U.vm) qE1, va_O.moved (u := U) (U := U.calling g mk a) (Vm.Alike.refl U.vm) qE2, va_OF.moved (u := U) (U := U.calling g mk a) (Vm.Alike.refl U.vm) qE3, va_T.moved (u := U) (U := U.calling g mk a) (Vm.Alike.refl U.vm) qE4, va_Zq.moved (u := U) (U := U.calling g mk a) (Vm.Alike.refl U.vm) qE5⟩, hrv, fun U hU hW => ⟨rfl, by rw [hU], by rw [hU]; exact hPc, va_K.moved hW.alike hKc, hDc.weaken (fun _ _ _ _ => trivial), va_Z.moved hW.alike (by rw [hU]; exact (hE_10.kept hS.2.1).narrow hFc), va_OF.moved hW.alike (by rw [hU]; exact (hE_64.kept hS.2.1).narrow hFc), va_O.moved hW.alike (by rw [hU]; exact (hE_63.kept hS.2.1).narrow hFc), va_OF.moved hW.alike (by rw [hU]; exact (hE_65.kept hS.2.1).narrow hFc), va_T.moved hW.alike (by rw [hU]; exact (hE_66.kept hS.2.1).narrow hFc), va_Zq.moved hW.alike (by rw [hU]; exact (hE_11.kept hS.2.1).narrow hFc)⟩⟩ rfl rfl hl.1 rfl (lv_room (Nat.le_of_ble_eq_true rfl)) dX12_spotOf_12 ⟨Nat.le_of_ble_eq_true rfl, Nat.le_of_ble_eq_true rfl⟩) hS (fun q _ h => hFc q h) hFc (fun r_29 u t H1 locs ht hvm hw hB hz1 hk1 hS => ?_)
  obtain ⟨hP1, hK1, hD1⟩ := hB
  rw [ht] at hP1
  have hP := bv_still hP hk1
  generalize H1 = H at hP hS ⊢
  as_aux_lemma =>
  rcases hw with ⟨h_30, h_31⟩
  have h_31 : r_29 = _ := h_31
  replace hEX := hEX.trans (exc1_eq h_31)
  rw [h_30]
  refine lv_iload_n hx hb dX12_spotOf_15 rfl (lv_at hl 2 rfl) ?_
  refine lv_icmp_ne (tgt := 21) hx hb dX12_spotOf_16 rfl (fun c_32 => ?_) (fun c_32 => absurd c_32 (by decide +kernel))
  refine lv_iinc (v := 4) (lv' := [(2, .int 4), (0, .ref ts10), (1, .int (-1))]) hx hb dX12_spotOf_21 hl (k := 0) rfl (by decide +kernel) (Nat.le_of_ble_eq_true rfl) rfl (fun ls hl => ?_)
  refine lv_goto (tgt := 2) hx hb dX12_spotOf_24 rfl ?_
  refine lv_iload_n hx hb dX12_spotOf_2 rfl (lv_at hl 0 rfl) ?_
  refine lv_aload_n hx hb dX12_spotOf_3 rfl (lv_at hl 1 rfl) ?_
  obtain ⟨hPc, hDc, hFc, hqc⟩ := cl_cut (wc := []) hP hD hS hA [] (by decide +kernel) rfl
  have hKc := hK.sub (tys' := []) [] rfl
  have hrv := bv_Orecv hE_63 hS
  refine va_calli (va_runV (As := []) (rest := [.int 4]) ⟨hx, hb, hml, hown, hts⟩ (c_J0_length_8abf5_6 l dC dI H.size ts10 tv10) (cwV 0 hts gf_c_X12_spotOf_c_J0_length_8abf5_6 rfl rfl rfl mdV_J0_length_8abf5 ⟨Nat.le_of_ble_eq_true rfl, Nat.le_of_ble_eq_true rfl⟩) ⟨fun a U g mk q => by obtain ⟨q0, q1, qP, qK, qD, qE0, qE1, qE2, qE3, qE4⟩ := q; exact ⟨q0, q1, qP, va_K.moved (u := U) (U := U.calling g mk a) (Vm.Alike.refl U.vm) qK, qD, va_OF.moved (u := U) (U := U.calling g mk a) (Vm.Alike.refl U.vm) qE0, va_T.moved (u := U) (U := U.calling g mk a) (Vm.Alike.refl U.vm) qE1, va_Z.moved (u := U) (U := U.calling g mk a) (Vm.Alike.refl U.vm) qE2, va_OF.moved (u := U) (U := U.calling g mk a) (Vm.Alike.refl U.vm) qE3, va_O.moved (u := U) (U := U.calling g mk a) (Vm.Alike.refl U.vm) qE4⟩, hrv, fun U hU hW => ⟨rfl, by rw [hU], by rw [hU]; exact hPc, va_K.moved hW.alike hKc, hDc.weaken (fun _ _ _ _ => trivial), va_OF.moved hW.alike (by rw [hU]; exact (hE_65.kept hS.2.1).narrow hFc), va_T.moved hW.alike (by rw [hU]; exact (hE_66.kept hS.2.1).narrow hFc), va_Z.moved hW.alike (by rw [hU]; exact (hE_10.kept hS.2.1).narrow hFc), va_OF.moved hW.alike (by rw [hU]; exact (hE_64.kept hS.2.1).narrow hFc), va_O.moved hW.alike (by rw [hU]; exact (hE_63.kept hS.2.1).narrow hFc)⟩⟩ rfl rfl hl.1 rfl (lv_room (Nat.le_of_ble_eq_true rfl)) dX12_spotOf_4 ⟨Nat.le_of_ble_eq_true rfl, Nat.le_of_ble_eq_true rfl⟩) hS (fun q _ h => hFc q h) hFc (fun r_33 u t H1 locs ht hvm hw hB hz1 hk1 hS => ?_)
  as_aux_lemma =>
  obtain ⟨hP1, hK1, hD1⟩ := hB
  rw [ht] at hP1
  have hP := bv_still hP hk1
  generalize H1 = H at hP hS ⊢
  as_aux_lemma =>
  rcases hw with ⟨h_34, h_35⟩
  have h_35 : r_33 = _ := h_35
  replace hEX := hEX.trans (exc1_eq h_35)
  rw [h_34]
  refine lv_icmp_ge (tgt := 27) hx hb dX12_spotOf_7 rfl (fun c_36 => ?_) (fun c_36 => absurd c_36 (by decide +kernel))
  refine lv_iconst (v := (-1)) hx hb dX12_spotOf_27 kc_iconst_m1 ?_
  have hK9 := hK.sub (tys' := []) [] rfl
  exact W.iret (v := (-1)) hx hb hr (fun t ht hW => ⟨⟨(-1), (), rfl, ⟨rfl, (hR.trans hEX).symm⟩, by rw [ht]; exact hP, va_K.moved hW.alike hK9, hD⟩, hS.F ht⟩) hS.2.2 dX12_spotOf_28
