def wf_c_X3_init : List Cond := .code yX3_init cX3_init 2 none :: ([.methodLink RX3 5 objectInit, .instanceMethod objectInit, .code objectInit ⟨#[0xb1]⟩ 1 none, .classLink RX3 11 RX7, .fieldLink RX3 13 "BuoyVote$History" "before" "[LBuoyVote$Sea;", .instantiable RX7 13, .initialized RX7, .code yX7_init cX7_init 1 none, .methodLink RX7 3 objectInit, .arrayClass .int, .fieldLink RX7 9 "BuoyVote$Sea" "x" "[I", .fieldLink RX7 15 "BuoyVote$Sea" "y" "[I", .fieldLink RX7 18 "BuoyVote$Sea" "goalX" "[I", .fieldLink RX7 21 "BuoyVote$Sea" "goalY" "[I", .fieldLink RX7 24 "BuoyVote$Sea" "won" "[I", .fieldLink RX7 27 "BuoyVote$Sea" "sang" "[I", .fieldLink RX7 30 "BuoyVote$Sea" "liking" "[I", .fieldLink RX7 33 "BuoyVote$Sea" "old" "[I", .fieldLink RX7 36 "BuoyVote$Sea" "barnacles" "[I", .methodLink RX3 17 yX7_init, .instanceMethod yX7_init, .fieldLink RX3 18 "BuoyVote$History" "log" "[I", .fieldLink RX3 22 "BuoyVote$History" "image" "LBuoyVote$Sea;", .fieldLink RX3 26 "BuoyVote$History" "imageLog" "[I"] ++ wsX30 ++ wsX70)
theorem iw_c_X3_init_X3 : ∀ w ∈ wsX30, w ∈ wf_c_X3_init := fun w h => List.mem_cons_of_mem _ (List.mem_append_left _ (List.mem_append_right _ h))
theorem iw_c_X3_init_X7 : ∀ w ∈ wsX70, w ∈ wf_c_X3_init := fun w h => List.mem_cons_of_mem _ (List.mem_append_right _ h)
set_option maxRecDepth 20000 in
theorem gf_c_X3_init_c_X7_init : GoodIn wf_c_X3_init (wf_c_X7_init) := (gi_cons (j := 8) rfl rfl (goodIn_app (gi_cons (j := 9) rfl rfl (gi_cons (j := 2) rfl rfl (gi_cons (j := 3) rfl rfl (gi_cons (j := 10) rfl rfl (gi_cons (j := 11) rfl rfl (gi_cons (j := 12) rfl rfl (gi_cons (j := 13) rfl rfl (gi_cons (j := 14) rfl rfl (gi_cons (j := 15) rfl rfl (gi_cons (j := 16) rfl rfl (gi_cons (j := 17) rfl rfl (gi_cons (j := 18) rfl rfl (gi_cons (j := 19) rfl rfl (gi_nil)))))))))))))) (goodIn_sub iw_c_X3_init_X7 gw_X7)))
set_option maxHeartbeats 4000000 in
set_option maxRecDepth 100000 in
theorem c_X3_init (l : Launch) (dC : Nat → ClassId) (dI : Nat → Nat → Nat) (sz : Nat) (h0 : Nat) : Met l yX3_init wf_c_X3_init ({ frames := 2, cells := 413, slots := 3551, locals := 32 }) (va_Pc [.ref h0] (fun U => U.heap.size = sz ∧ va_P (dC, dI) vwCl [(h0, .inr (3, [.null, .int 0, .int 0, .null, .null, .null, .int 0]))] U.heap ∧ va_K (dC, dI) vwCl [] U ∧ va_D (fun _ => True) [(h0, .inr (3, [.null, .int 0, .int 0, .null, .null, .null, .int 0]))] ∧ va_AO RX7 U)) (va_Qv (fun (u : Unit) => True) (fun (_ : Unit) t => ∃ (q_1 : Nat), ∃ (q_524 : Nat), ∃ (q_526 : Nat), ∃ (q_537 : Nat), va_P (dC, dI) vwCl [(h0, .inr (3, [.ref q_1, .int 0, .int 0, .ref q_524, .ref q_526, .ref q_537, .int 0]))] t.heap ∧ va_K (dC, dI) vwCl [] t ∧ va_D (va_A [(h0, .inr (3, [.null, .int 0, .int 0, .null, .null, .null, .int 0]))] sz) [(h0, .inr (3, [.ref q_1, .int 0, .int 0, .ref q_524, .ref q_526, .ref q_537, .int 0]))]) (va_A [(h0, .inr (3, [.null, .int 0, .int 0, .null, .null, .null, .int 0]))] sz)) 413 3551 (va_A [(h0, .inr (3, [.null, .int 0, .int 0, .null, .null, .null, .int 0]))] sz) := by
  refine Met.ofW (cc := cX3_init) (maxL := 2) (ret := none) (by decide) rfl ?_
  intro p e s m args below meth c s₁ B hml hv
  obtain ⟨rfl, hsz, hP, hK, hD0, hE0⟩ := hv
  have hx := B.exec
  have hb := B.bytes
  have hr := B.returns
  have hts := atoms_spec (ws := wf_c_X3_init) B.pre
  have hown : s.vm.findClass RX3 = some m.cls := findClass_of_methodNamed B.named
  have hlocks := B.notSynchronized
  have hin : meth.name = "<init>" := (name_of_methodNamed B.named B.method).1
  subst hsz
  have hD := hD0.self (sz := s.heap.size)
  generalize hAe : va_A [(h0, .inr (3, [.null, .int 0, .int 0, .null, .null, .null, .int 0]))] s.heap.size = A at hD ⊢
  have hA : ∀ q : Nat, s.heap.size ≤ q → A q := fun q h => by rw [← hAe]; exact Or.inr h
  have hP : va_P (dC, dI) vwCl [(h0, .inr (3, [.null, .int 0, .int 0, .null, .null, .null, .int 0]))] s.heap := hP
  have hl := lv_entry ([.ref h0]) (n := 2) (Nat.le_of_ble_eq_true rfl)
  rw [lg_entry_eq]
  generalize (lg_sl ([.ref h0]) ++ List.replicate (2 - (lg_sl ([.ref h0])).length) Slot.unset).toArray = ls at hl ⊢
  have hl : lv_has ls 2 [(0, .ref h0)] := hl
  obtain ⟨H, hHe⟩ : ∃ H : Heap, s.heap = H := ⟨_, rfl⟩
  have hS : va_S A s.heap H [] := by rw [hHe]; exact va_S.rf
  have hP : va_P (dC, dI) vwCl [(h0, .inr (3, [.null, .int 0, .int 0, .null, .null, .null, .int 0]))] H := by rw [← hHe]; exact hP
  rw [hHe]
  refine lv_aload_n hx hb dX3_init_0 rfl (lv_at hl 0 rfl) ?_
  refine W.objInit hx hb hown (hts (.methodLink RX3 5 objectInit) (List.mem_of_getElem? (i := 1) rfl)) (hts (.instanceMethod objectInit) (List.mem_of_getElem? (i := 2) rfl)) (hts (.code objectInit ⟨#[0xb1]⟩ 1 none) (List.mem_of_getElem? (i := 3) rfl)) rfl (by rw [hml]; exact hl.1) rfl dX3_init_1 (Nat.le_of_ble_eq_true rfl) (Nat.le_of_ble_eq_true rfl) ?_
  refine W.eq (g2 := F0 m 4 ls []) rfl ?_
  refine lv_aload_n hx hb dX3_init_4 rfl (lv_at hl 0 rfl) ?_
  refine lv_bipush (v := 40) hx hb dX3_init_5 (by decide) ?_
  refine va_newq (N' := 40) hx hb hown (hts (.classLink RX3 11 RX7) (List.mem_of_getElem? (i := 4) rfl)) hE0 hK hP hD hS hA (by decide) (by decide) (by decide) (Nat.le_of_ble_eq_true rfl) (Nat.le_of_ble_eq_true rfl) dX3_init_7 (fun q_1 k_2 H hK hP hD hS => ?_)
  have hP : va_P (dC, dI) vwCl [(h0, .inr (3, [.null, .int 0, .int 0, .null, .null, .null, .int 0])), (q_1, .inl (k_2, 40, .inr (.inr (.inr (.inr (fun _ => none))))))] H := hP
  have hD : va_D A [(h0, .inr (3, [.null, .int 0, .int 0, .null, .null, .null, .int 0])), (q_1, .inl (k_2, 40, .inr (.inr (.inr (.inr (fun _ => none))))))] := hD
  have hK : va_K (dC, dI) vwCl [(k_2, .object RX7)] s := hK
  refine W.widen (k := 1) (n := 40) (by decide) (by decide) ?_
  refine va_putF (D := (dC, dI)) (ci := 3) (v := .ref q_1) (ty := (.array (.object "BuoyVote$Sea"))) (C := RX3) (T := TX3) (N := 7) hx hb hts iw_c_X3_init_X3 tyX3 tyX3_ok nmX3 hown hK hP hD hS 0 rfl rfl 0 (by decide) (hts (.fieldLink RX3 13 "BuoyVote$History" "before" "[LBuoyVote$Sea;") (List.mem_of_getElem? (i := 5) rfl)) (fun _ h9 => h9) rfl hin rfl (by decide +kernel) rfl rfl (Nat.le_of_ble_eq_true rfl) dX3_init_10 (fun H locs hP hD hS => ?_)
  have hP : va_P (dC, dI) vwCl [(h0, .inr (3, [.ref q_1, .int 0, .int 0, .null, .null, .null, .int 0])), (q_1, .inl (k_2, 40, .inr (.inr (.inr (.inr (fun _ => none))))))] H := hP
  have hD : va_D A [(h0, .inr (3, [.ref q_1, .int 0, .int 0, .null, .null, .null, .int 0])), (q_1, .inl (k_2, 40, .inr (.inr (.inr (.inr (fun _ => none))))))] := hD
  refine lv_iconst (v := 0) hx hb dX3_init_13 (by decide) ?_
  refine lv_istore_n (lv' := [(1, .int 0), (0, .ref h0)]) hx hb dX3_init_14 rfl hl (by decide) rfl (fun ls hl => ?_)
  refine lv_iload_n hx hb dX3_init_15 rfl (lv_at hl 0 rfl) ?_
  refine lv_bipush (v := 40) hx hb dX3_init_16 (by decide) ?_
  refine lv_icmp_ge (tgt := 40) hx hb dX3_init_18 (by decide) (fun c_3 => absurd c_3 (by decide)) (fun c_3 => ?_)
  refine lv_aload_n hx hb dX3_init_21 rfl (lv_at hl 1 rfl) ?_
  refine va_get (D := (dC, dI)) (ci := 3) (v := .ref q_1) (C := RX3) (T := TX3) (N := 7) hx hb hts iw_c_X3_init_X3 hown hK hP 0 rfl rfl 0 (by decide) (hts (.fieldLink RX3 13 "BuoyVote$History" "before" "[LBuoyVote$Sea;") (List.mem_of_getElem? (i := 5) rfl)) (fun _ h9 => h9) rfl dX3_init_22 ?_
  refine lv_iload_n hx hb dX3_init_25 rfl (lv_at hl 0 rfl) ?_
  refine va_new (ci := 7) (fs := [.int 0, .int 0, .int 0, .int 0, .null, .null, .null, .null, .null, .null, .null, .null, .null]) (C := RX7) (T := TX7) (N := 13) hx hb hts iw_c_X3_init_X7 tyX7 tyX7_ok hown (hts (.classLink RX3 11 RX7) (List.mem_of_getElem? (i := 4) rfl)) (hts (.instantiable RX7 13) (List.mem_of_getElem? (i := 6) rfl)) (hts (.initialized RX7) (List.mem_of_getElem? (i := 7) rfl)) hK hP hD hS hA rfl (vn_X7) (Nat.le_of_ble_eq_true rfl) (Nat.le_of_ble_eq_true rfl) dX3_init_26 (fun q_4 H hP hD hS => ?_)
  have hP : va_P (dC, dI) vwCl [(h0, .inr (3, [.ref q_1, .int 0, .int 0, .null, .null, .null, .int 0])), (q_1, .inl (k_2, 40, .inr (.inr (.inr (.inr (fun _ => none)))))), (q_4, .inr (7, [.int 0, .int 0, .int 0, .int 0, .null, .null, .null, .null, .null, .null, .null, .null, .null]))] H := hP
  have hD : va_D A [(h0, .inr (3, [.ref q_1, .int 0, .int 0, .null, .null, .null, .int 0])), (q_1, .inl (k_2, 40, .inr (.inr (.inr (.inr (fun _ => none)))))), (q_4, .inr (7, [.int 0, .int 0, .int 0, .int 0, .null, .null, .null, .null, .null, .null, .null, .null, .null]))] := hD
  refine W.widen (k := 2) (n := 53) (by decide) (by decide) ?_
  refine lv_dup hx hb dX3_init_29 rfl ?_
  have hPc := hP.sub (ws' := [(q_4, .inr (7, [.int 0, .int 0, .int 0, .int 0, .null, .null, .null, .null, .null, .null, .null, .null, .null]))]) [2] rfl
  have hDc := hD.sub (ws' := [(q_4, .inr (7, [.int 0, .int 0, .int 0, .int 0, .null, .null, .null, .null, .null, .null, .null, .null, .null]))]) [2] (by decide) rfl
  have hKc := hK.sub (tys' := []) [] rfl
  have hFc := va_free (wc := [(q_4, .inr (7, [.int 0, .int 0, .int 0, .int 0, .null, .null, .null, .null, .null, .null, .null, .null, .null]))]) hD hS hA [2] rfl
  refine va_callv (va_runI (As := []) (rest := [.ref q_4, .int 0, .ref q_1]) ⟨hx, hb, hml, hown, hts⟩ (c_X7_init l dC dI H.size q_4) (cwI 0 hts gf_c_X3_init_c_X7_init rfl rfl rfl (hts (.initialized RX7) (List.mem_of_getElem? (i := 7) rfl)) (hts (.methodLink RX3 17 yX7_init) (List.mem_of_getElem? (i := 20) rfl)) (hts (.instanceMethod yX7_init) (List.mem_of_getElem? (i := 21) rfl)) rfl (by decide +kernel) ⟨Nat.le_of_ble_eq_true rfl, Nat.le_of_ble_eq_true rfl⟩) ⟨fun a U g mk q => by obtain ⟨q0, q1, qP, qK, qD⟩ := q; exact ⟨q0, q1, qP, va_K.moved (u := U) (U := U.calling g mk a) (Vm.Alike.refl U.vm) qK, qD⟩, fun U hU hW => ⟨rfl, by rw [hU], by rw [hU]; exact hPc, va_K.moved hW.alike hKc, hDc.weaken (fun _ _ _ _ => trivial)⟩⟩ rfl rfl hl.1 rfl (lv_room (Nat.le_of_ble_eq_true rfl)) dX3_init_30 ⟨Nat.le_of_ble_eq_true rfl, Nat.le_of_ble_eq_true rfl⟩) hS (fun q _ h => hFc q h) hFc (fun u t H1 locs ht hvm hw hB hz1 hk1 hS => ?_)
  obtain ⟨q_6, q_7, q_8, q_9, q_10, q_11, q_12, q_13, q_14, hP1, hK1, hD1⟩ := hB
  rw [ht] at hP1
  have hK1 := va_K.moved hvm.symm hK1
  obtain ⟨hP, hD⟩ := va_join (wr := [(h0, .inr (3, [.ref q_1, .int 0, .int 0, .null, .null, .null, .int 0])), (q_1, .inl (k_2, 40, .inr (.inr (.inr (.inr (fun _ => none))))))]) (w1 := [(q_4, .inr (7, [.int 0, .int 0, .int 0, .int 0, .ref q_6, .ref q_7, .ref q_8, .ref q_9, .ref q_10, .ref q_11, .ref q_12, .ref q_13, .ref q_14]))]) hP hD [2] [0, 1] rfl rfl (by decide) (by decide) hk1 hFc hP1 hD1
  generalize H1 = H at hP hS ⊢
  have hP : va_P (dC, dI) vwCl [(h0, .inr (3, [.ref q_1, .int 0, .int 0, .null, .null, .null, .int 0])), (q_1, .inl (k_2, 40, .inr (.inr (.inr (.inr (fun _ => none)))))), (q_4, .inr (7, [.int 0, .int 0, .int 0, .int 0, .ref q_6, .ref q_7, .ref q_8, .ref q_9, .ref q_10, .ref q_11, .ref q_12, .ref q_13, .ref q_14]))] H := hP
  have hD : va_D A [(h0, .inr (3, [.ref q_1, .int 0, .int 0, .null, .null, .null, .int 0])), (q_1, .inl (k_2, 40, .inr (.inr (.inr (.inr (fun _ => none)))))), (q_4, .inr (7, [.int 0, .int 0, .int 0, .int 0, .ref q_6, .ref q_7, .ref q_8, .ref q_9, .ref q_10, .ref q_11, .ref q_12, .ref q_13, .ref q_14]))] := hD
  refine W.widen (k := 11) (n := 111) (by decide) (by decide) ?_
  refine va_astq (r := (RX7, TX7, 13)) hx hb hK hP hD hS 1 0 2 7 rfl rfl rfl rfl (by unfold vp_in; decide) dX3_init_33 (fun H locs hP hD hS => ?_)
  have hP : va_P (dC, dI) vwCl [(h0, .inr (3, [.ref q_1, .int 0, .int 0, .null, .null, .null, .int 0])), (q_1, .inl (k_2, 40, .inr (.inr (.inr (.inr (va_up (fun _ => none) (0 : Int32).toNatClampNeg (some q_4))))))), (q_4, .inr (7, [.int 0, .int 0, .int 0, .int 0, .ref q_6, .ref q_7, .ref q_8, .ref q_9, .ref q_10, .ref q_11, .ref q_12, .ref q_13, .ref q_14]))] H := hP
  have hD : va_D A [(h0, .inr (3, [.ref q_1, .int 0, .int 0, .null, .null, .null, .int 0])), (q_1, .inl (k_2, 40, .inr (.inr (.inr (.inr (va_up (fun _ => none) (0 : Int32).toNatClampNeg (some q_4))))))), (q_4, .inr (7, [.int 0, .int 0, .int 0, .int 0, .ref q_6, .ref q_7, .ref q_8, .ref q_9, .ref q_10, .ref q_11, .ref q_12, .ref q_13, .ref q_14]))] := hD
  refine lv_iinc (v := 1) (lv' := [(1, .int 1), (0, .ref h0)]) hx hb dX3_init_34 hl (k := 0) rfl (by decide) (by decide) rfl (fun ls hl => ?_)
  refine lv_goto (tgt := 15) hx hb dX3_init_37 (by decide) ?_
  have hP := hP.sub (ws' := [(h0, .inr (3, [.ref q_1, .int 0, .int 0, .null, .null, .null, .int 0])), (q_1, .inl (k_2, 40, .inr (.inr (.inr (.inr (va_up (fun _ => none) (0 : Int32).toNatClampNeg (some q_4)))))))]) [0, 1] rfl
  have hD := hD.sub (ws' := [(h0, .inr (3, [.ref q_1, .int 0, .int 0, .null, .null, .null, .int 0])), (q_1, .inl (k_2, 40, .inr (.inr (.inr (.inr (va_up (fun _ => none) (0 : Int32).toNatClampNeg (some q_4)))))))]) [0, 1] (by decide) rfl
  generalize (va_up (fun _ => none) (0 : Int32).toNatClampNeg (some q_4)) = f_15 at hP hD
  have hP : va_P (dC, dI) vwCl [(h0, .inr (3, [.ref q_1, .int 0, .int 0, .null, .null, .null, .int 0])), (q_1, .inl (k_2, 40, .inr (.inr (.inr (.inr f_15)))))] H := hP
  have hD : va_D A [(h0, .inr (3, [.ref q_1, .int 0, .int 0, .null, .null, .null, .int 0])), (q_1, .inl (k_2, 40, .inr (.inr (.inr (.inr f_15)))))] := hD
  refine lv_iload_n hx hb dX3_init_15 rfl (lv_at hl 0 rfl) ?_
  refine lv_bipush (v := 40) hx hb dX3_init_16 (by decide) ?_
  refine lv_icmp_ge (tgt := 40) hx hb dX3_init_18 (by decide) (fun c_16 => absurd c_16 (by decide)) (fun c_16 => ?_)
  refine lv_aload_n hx hb dX3_init_21 rfl (lv_at hl 1 rfl) ?_
  refine va_get (D := (dC, dI)) (ci := 3) (v := .ref q_1) (C := RX3) (T := TX3) (N := 7) hx hb hts iw_c_X3_init_X3 hown hK hP 0 rfl rfl 0 (by decide) (hts (.fieldLink RX3 13 "BuoyVote$History" "before" "[LBuoyVote$Sea;") (List.mem_of_getElem? (i := 5) rfl)) (fun _ h9 => h9) rfl dX3_init_22 ?_
  refine lv_iload_n hx hb dX3_init_25 rfl (lv_at hl 0 rfl) ?_
  refine va_new (ci := 7) (fs := [.int 0, .int 0, .int 0, .int 0, .null, .null, .null, .null, .null, .null, .null, .null, .null]) (C := RX7) (T := TX7) (N := 13) hx hb hts iw_c_X3_init_X7 tyX7 tyX7_ok hown (hts (.classLink RX3 11 RX7) (List.mem_of_getElem? (i := 4) rfl)) (hts (.instantiable RX7 13) (List.mem_of_getElem? (i := 6) rfl)) (hts (.initialized RX7) (List.mem_of_getElem? (i := 7) rfl)) hK hP hD hS hA rfl (vn_X7) (Nat.le_of_ble_eq_true rfl) (Nat.le_of_ble_eq_true rfl) dX3_init_26 (fun q_17 H hP hD hS => ?_)
  have hP : va_P (dC, dI) vwCl [(h0, .inr (3, [.ref q_1, .int 0, .int 0, .null, .null, .null, .int 0])), (q_1, .inl (k_2, 40, .inr (.inr (.inr (.inr f_15))))), (q_17, .inr (7, [.int 0, .int 0, .int 0, .int 0, .null, .null, .null, .null, .null, .null, .null, .null, .null]))] H := hP
  have hD : va_D A [(h0, .inr (3, [.ref q_1, .int 0, .int 0, .null, .null, .null, .int 0])), (q_1, .inl (k_2, 40, .inr (.inr (.inr (.inr f_15))))), (q_17, .inr (7, [.int 0, .int 0, .int 0, .int 0, .null, .null, .null, .null, .null, .null, .null, .null, .null]))] := hD
  refine W.widen (k := 12) (n := 124) (by decide) (by decide) ?_
  refine lv_dup hx hb dX3_init_29 rfl ?_
  have hPc := hP.sub (ws' := [(q_17, .inr (7, [.int 0, .int 0, .int 0, .int 0, .null, .null, .null, .null, .null, .null, .null, .null, .null]))]) [2] rfl
  have hDc := hD.sub (ws' := [(q_17, .inr (7, [.int 0, .int 0, .int 0, .int 0, .null, .null, .null, .null, .null, .null, .null, .null, .null]))]) [2] (by decide) rfl
  have hKc := hK.sub (tys' := []) [] rfl
  have hFc := va_free (wc := [(q_17, .inr (7, [.int 0, .int 0, .int 0, .int 0, .null, .null, .null, .null, .null, .null, .null, .null, .null]))]) hD hS hA [2] rfl
  refine va_callv (va_runI (As := []) (rest := [.ref q_17, .int 1, .ref q_1]) ⟨hx, hb, hml, hown, hts⟩ (c_X7_init l dC dI H.size q_17) (cwI 0 hts gf_c_X3_init_c_X7_init rfl rfl rfl (hts (.initialized RX7) (List.mem_of_getElem? (i := 7) rfl)) (hts (.methodLink RX3 17 yX7_init) (List.mem_of_getElem? (i := 20) rfl)) (hts (.instanceMethod yX7_init) (List.mem_of_getElem? (i := 21) rfl)) rfl (by decide +kernel) ⟨Nat.le_of_ble_eq_true rfl, Nat.le_of_ble_eq_true rfl⟩) ⟨fun a U g mk q => by obtain ⟨q0, q1, qP, qK, qD⟩ := q; exact ⟨q0, q1, qP, va_K.moved (u := U) (U := U.calling g mk a) (Vm.Alike.refl U.vm) qK, qD⟩, fun U hU hW => ⟨rfl, by rw [hU], by rw [hU]; exact hPc, va_K.moved hW.alike hKc, hDc.weaken (fun _ _ _ _ => trivial)⟩⟩ rfl rfl hl.1 rfl (lv_room (Nat.le_of_ble_eq_true rfl)) dX3_init_30 ⟨Nat.le_of_ble_eq_true rfl, Nat.le_of_ble_eq_true rfl⟩) hS (fun q _ h => hFc q h) hFc (fun u t H1 locs ht hvm hw hB hz1 hk1 hS => ?_)
  obtain ⟨q_19, q_20, q_21, q_22, q_23, q_24, q_25, q_26, q_27, hP1, hK1, hD1⟩ := hB
  rw [ht] at hP1
  have hK1 := va_K.moved hvm.symm hK1
  obtain ⟨hP, hD⟩ := va_join (wr := [(h0, .inr (3, [.ref q_1, .int 0, .int 0, .null, .null, .null, .int 0])), (q_1, .inl (k_2, 40, .inr (.inr (.inr (.inr f_15)))))]) (w1 := [(q_17, .inr (7, [.int 0, .int 0, .int 0, .int 0, .ref q_19, .ref q_20, .ref q_21, .ref q_22, .ref q_23, .ref q_24, .ref q_25, .ref q_26, .ref q_27]))]) hP hD [2] [0, 1] rfl rfl (by decide) (by decide) hk1 hFc hP1 hD1
  generalize H1 = H at hP hS ⊢
  have hP : va_P (dC, dI) vwCl [(h0, .inr (3, [.ref q_1, .int 0, .int 0, .null, .null, .null, .int 0])), (q_1, .inl (k_2, 40, .inr (.inr (.inr (.inr f_15))))), (q_17, .inr (7, [.int 0, .int 0, .int 0, .int 0, .ref q_19, .ref q_20, .ref q_21, .ref q_22, .ref q_23, .ref q_24, .ref q_25, .ref q_26, .ref q_27]))] H := hP
  have hD : va_D A [(h0, .inr (3, [.ref q_1, .int 0, .int 0, .null, .null, .null, .int 0])), (q_1, .inl (k_2, 40, .inr (.inr (.inr (.inr f_15))))), (q_17, .inr (7, [.int 0, .int 0, .int 0, .int 0, .ref q_19, .ref q_20, .ref q_21, .ref q_22, .ref q_23, .ref q_24, .ref q_25, .ref q_26, .ref q_27]))] := hD
  refine W.widen (k := 21) (n := 182) (by decide) (by decide) ?_
  refine va_astq (r := (RX7, TX7, 13)) hx hb hK hP hD hS 1 0 2 7 rfl rfl rfl rfl (by unfold vp_in; decide) dX3_init_33 (fun H locs hP hD hS => ?_)
  have hP : va_P (dC, dI) vwCl [(h0, .inr (3, [.ref q_1, .int 0, .int 0, .null, .null, .null, .int 0])), (q_1, .inl (k_2, 40, .inr (.inr (.inr (.inr (va_up f_15 (1 : Int32).toNatClampNeg (some q_17))))))), (q_17, .inr (7, [.int 0, .int 0, .int 0, .int 0, .ref q_19, .ref q_20, .ref q_21, .ref q_22, .ref q_23, .ref q_24, .ref q_25, .ref q_26, .ref q_27]))] H := hP
  have hD : va_D A [(h0, .inr (3, [.ref q_1, .int 0, .int 0, .null, .null, .null, .int 0])), (q_1, .inl (k_2, 40, .inr (.inr (.inr (.inr (va_up f_15 (1 : Int32).toNatClampNeg (some q_17))))))), (q_17, .inr (7, [.int 0, .int 0, .int 0, .int 0, .ref q_19, .ref q_20, .ref q_21, .ref q_22, .ref q_23, .ref q_24, .ref q_25, .ref q_26, .ref q_27]))] := hD
  refine lv_iinc (v := 2) (lv' := [(1, .int 2), (0, .ref h0)]) hx hb dX3_init_34 hl (k := 0) rfl (by decide) (by decide) rfl (fun ls hl => ?_)
  refine lv_goto (tgt := 15) hx hb dX3_init_37 (by decide) ?_
  have hP := hP.sub (ws' := [(h0, .inr (3, [.ref q_1, .int 0, .int 0, .null, .null, .null, .int 0])), (q_1, .inl (k_2, 40, .inr (.inr (.inr (.inr (va_up f_15 (1 : Int32).toNatClampNeg (some q_17)))))))]) [0, 1] rfl
  have hD := hD.sub (ws' := [(h0, .inr (3, [.ref q_1, .int 0, .int 0, .null, .null, .null, .int 0])), (q_1, .inl (k_2, 40, .inr (.inr (.inr (.inr (va_up f_15 (1 : Int32).toNatClampNeg (some q_17)))))))]) [0, 1] (by decide) rfl
  generalize (va_up f_15 (1 : Int32).toNatClampNeg (some q_17)) = f_28 at hP hD
  have hP : va_P (dC, dI) vwCl [(h0, .inr (3, [.ref q_1, .int 0, .int 0, .null, .null, .null, .int 0])), (q_1, .inl (k_2, 40, .inr (.inr (.inr (.inr f_28)))))] H := hP
  have hD : va_D A [(h0, .inr (3, [.ref q_1, .int 0, .int 0, .null, .null, .null, .int 0])), (q_1, .inl (k_2, 40, .inr (.inr (.inr (.inr f_28)))))] := hD
  refine lv_iload_n hx hb dX3_init_15 rfl (lv_at hl 0 rfl) ?_
  refine lv_bipush (v := 40) hx hb dX3_init_16 (by decide) ?_
  refine lv_icmp_ge (tgt := 40) hx hb dX3_init_18 (by decide) (fun c_29 => absurd c_29 (by decide)) (fun c_29 => ?_)
  refine lv_aload_n hx hb dX3_init_21 rfl (lv_at hl 1 rfl) ?_
  refine va_get (D := (dC, dI)) (ci := 3) (v := .ref q_1) (C := RX3) (T := TX3) (N := 7) hx hb hts iw_c_X3_init_X3 hown hK hP 0 rfl rfl 0 (by decide) (hts (.fieldLink RX3 13 "BuoyVote$History" "before" "[LBuoyVote$Sea;") (List.mem_of_getElem? (i := 5) rfl)) (fun _ h9 => h9) rfl dX3_init_22 ?_
  refine lv_iload_n hx hb dX3_init_25 rfl (lv_at hl 0 rfl) ?_
  refine va_new (ci := 7) (fs := [.int 0, .int 0, .int 0, .int 0, .null, .null, .null, .null, .null, .null, .null, .null, .null]) (C := RX7) (T := TX7) (N := 13) hx hb hts iw_c_X3_init_X7 tyX7 tyX7_ok hown (hts (.classLink RX3 11 RX7) (List.mem_of_getElem? (i := 4) rfl)) (hts (.instantiable RX7 13) (List.mem_of_getElem? (i := 6) rfl)) (hts (.initialized RX7) (List.mem_of_getElem? (i := 7) rfl)) hK hP hD hS hA rfl (vn_X7) (Nat.le_of_ble_eq_true rfl) (Nat.le_of_ble_eq_true rfl) dX3_init_26 (fun q_30 H hP hD hS => ?_)
  have hP : va_P (dC, dI) vwCl [(h0, .inr (3, [.ref q_1, .int 0, .int 0, .null, .null, .null, .int 0])), (q_1, .inl (k_2, 40, .inr (.inr (.inr (.inr f_28))))), (q_30, .inr (7, [.int 0, .int 0, .int 0, .int 0, .null, .null, .null, .null, .null, .null, .null, .null, .null]))] H := hP
  have hD : va_D A [(h0, .inr (3, [.ref q_1, .int 0, .int 0, .null, .null, .null, .int 0])), (q_1, .inl (k_2, 40, .inr (.inr (.inr (.inr f_28))))), (q_30, .inr (7, [.int 0, .int 0, .int 0, .int 0, .null, .null, .null, .null, .null, .null, .null, .null, .null]))] := hD
  refine W.widen (k := 22) (n := 195) (by decide) (by decide) ?_
  refine lv_dup hx hb dX3_init_29 rfl ?_
  have hPc := hP.sub (ws' := [(q_30, .inr (7, [.int 0, .int 0, .int 0, .int 0, .null, .null, .null, .null, .null, .null, .null, .null, .null]))]) [2] rfl
  have hDc := hD.sub (ws' := [(q_30, .inr (7, [.int 0, .int 0, .int 0, .int 0, .null, .null, .null, .null, .null, .null, .null, .null, .null]))]) [2] (by decide) rfl
  have hKc := hK.sub (tys' := []) [] rfl
  have hFc := va_free (wc := [(q_30, .inr (7, [.int 0, .int 0, .int 0, .int 0, .null, .null, .null, .null, .null, .null, .null, .null, .null]))]) hD hS hA [2] rfl
  refine va_callv (va_runI (As := []) (rest := [.ref q_30, .int 2, .ref q_1]) ⟨hx, hb, hml, hown, hts⟩ (c_X7_init l dC dI H.size q_30) (cwI 0 hts gf_c_X3_init_c_X7_init rfl rfl rfl (hts (.initialized RX7) (List.mem_of_getElem? (i := 7) rfl)) (hts (.methodLink RX3 17 yX7_init) (List.mem_of_getElem? (i := 20) rfl)) (hts (.instanceMethod yX7_init) (List.mem_of_getElem? (i := 21) rfl)) rfl (by decide +kernel) ⟨Nat.le_of_ble_eq_true rfl, Nat.le_of_ble_eq_true rfl⟩) ⟨fun a U g mk q => by obtain ⟨q0, q1, qP, qK, qD⟩ := q; exact ⟨q0, q1, qP, va_K.moved (u := U) (U := U.calling g mk a) (Vm.Alike.refl U.vm) qK, qD⟩, fun U hU hW => ⟨rfl, by rw [hU], by rw [hU]; exact hPc, va_K.moved hW.alike hKc, hDc.weaken (fun _ _ _ _ => trivial)⟩⟩ rfl rfl hl.1 rfl (lv_room (Nat.le_of_ble_eq_true rfl)) dX3_init_30 ⟨Nat.le_of_ble_eq_true rfl, Nat.le_of_ble_eq_true rfl⟩) hS (fun q _ h => hFc q h) hFc (fun u t H1 locs ht hvm hw hB hz1 hk1 hS => ?_)
  obtain ⟨q_32, q_33, q_34, q_35, q_36, q_37, q_38, q_39, q_40, hP1, hK1, hD1⟩ := hB
  rw [ht] at hP1
  have hK1 := va_K.moved hvm.symm hK1
  obtain ⟨hP, hD⟩ := va_join (wr := [(h0, .inr (3, [.ref q_1, .int 0, .int 0, .null, .null, .null, .int 0])), (q_1, .inl (k_2, 40, .inr (.inr (.inr (.inr f_28)))))]) (w1 := [(q_30, .inr (7, [.int 0, .int 0, .int 0, .int 0, .ref q_32, .ref q_33, .ref q_34, .ref q_35, .ref q_36, .ref q_37, .ref q_38, .ref q_39, .ref q_40]))]) hP hD [2] [0, 1] rfl rfl (by decide) (by decide) hk1 hFc hP1 hD1
  generalize H1 = H at hP hS ⊢
  have hP : va_P (dC, dI) vwCl [(h0, .inr (3, [.ref q_1, .int 0, .int 0, .null, .null, .null, .int 0])), (q_1, .inl (k_2, 40, .inr (.inr (.inr (.inr f_28))))), (q_30, .inr (7, [.int 0, .int 0, .int 0, .int 0, .ref q_32, .ref q_33, .ref q_34, .ref q_35, .ref q_36, .ref q_37, .ref q_38, .ref q_39, .ref q_40]))] H := hP
  have hD : va_D A [(h0, .inr (3, [.ref q_1, .int 0, .int 0, .null, .null, .null, .int 0])), (q_1, .inl (k_2, 40, .inr (.inr (.inr (.inr f_28))))), (q_30, .inr (7, [.int 0, .int 0, .int 0, .int 0, .ref q_32, .ref q_33, .ref q_34, .ref q_35, .ref q_36, .ref q_37, .ref q_38, .ref q_39, .ref q_40]))] := hD
  refine W.widen (k := 31) (n := 253) (by decide) (by decide) ?_
  refine va_astq (r := (RX7, TX7, 13)) hx hb hK hP hD hS 1 0 2 7 rfl rfl rfl rfl (by unfold vp_in; decide) dX3_init_33 (fun H locs hP hD hS => ?_)
  have hP : va_P (dC, dI) vwCl [(h0, .inr (3, [.ref q_1, .int 0, .int 0, .null, .null, .null, .int 0])), (q_1, .inl (k_2, 40, .inr (.inr (.inr (.inr (va_up f_28 (2 : Int32).toNatClampNeg (some q_30))))))), (q_30, .inr (7, [.int 0, .int 0, .int 0, .int 0, .ref q_32, .ref q_33, .ref q_34, .ref q_35, .ref q_36, .ref q_37, .ref q_38, .ref q_39, .ref q_40]))] H := hP
  have hD : va_D A [(h0, .inr (3, [.ref q_1, .int 0, .int 0, .null, .null, .null, .int 0])), (q_1, .inl (k_2, 40, .inr (.inr (.inr (.inr (va_up f_28 (2 : Int32).toNatClampNeg (some q_30))))))), (q_30, .inr (7, [.int 0, .int 0, .int 0, .int 0, .ref q_32, .ref q_33, .ref q_34, .ref q_35, .ref q_36, .ref q_37, .ref q_38, .ref q_39, .ref q_40]))] := hD
  refine lv_iinc (v := 3) (lv' := [(1, .int 3), (0, .ref h0)]) hx hb dX3_init_34 hl (k := 0) rfl (by decide) (by decide) rfl (fun ls hl => ?_)
  refine lv_goto (tgt := 15) hx hb dX3_init_37 (by decide) ?_
  have hP := hP.sub (ws' := [(h0, .inr (3, [.ref q_1, .int 0, .int 0, .null, .null, .null, .int 0])), (q_1, .inl (k_2, 40, .inr (.inr (.inr (.inr (va_up f_28 (2 : Int32).toNatClampNeg (some q_30)))))))]) [0, 1] rfl
  have hD := hD.sub (ws' := [(h0, .inr (3, [.ref q_1, .int 0, .int 0, .null, .null, .null, .int 0])), (q_1, .inl (k_2, 40, .inr (.inr (.inr (.inr (va_up f_28 (2 : Int32).toNatClampNeg (some q_30)))))))]) [0, 1] (by decide) rfl
  generalize (va_up f_28 (2 : Int32).toNatClampNeg (some q_30)) = f_41 at hP hD
  have hP : va_P (dC, dI) vwCl [(h0, .inr (3, [.ref q_1, .int 0, .int 0, .null, .null, .null, .int 0])), (q_1, .inl (k_2, 40, .inr (.inr (.inr (.inr f_41)))))] H := hP
  have hD : va_D A [(h0, .inr (3, [.ref q_1, .int 0, .int 0, .null, .null, .null, .int 0])), (q_1, .inl (k_2, 40, .inr (.inr (.inr (.inr f_41)))))] := hD
  refine lv_iload_n hx hb dX3_init_15 rfl (lv_at hl 0 rfl) ?_
  refine lv_bipush (v := 40) hx hb dX3_init_16 (by decide) ?_
  refine lv_icmp_ge (tgt := 40) hx hb dX3_init_18 (by decide) (fun c_42 => absurd c_42 (by decide)) (fun c_42 => ?_)
  refine lv_aload_n hx hb dX3_init_21 rfl (lv_at hl 1 rfl) ?_
  refine va_get (D := (dC, dI)) (ci := 3) (v := .ref q_1) (C := RX3) (T := TX3) (N := 7) hx hb hts iw_c_X3_init_X3 hown hK hP 0 rfl rfl 0 (by decide) (hts (.fieldLink RX3 13 "BuoyVote$History" "before" "[LBuoyVote$Sea;") (List.mem_of_getElem? (i := 5) rfl)) (fun _ h9 => h9) rfl dX3_init_22 ?_
  refine lv_iload_n hx hb dX3_init_25 rfl (lv_at hl 0 rfl) ?_
  refine va_new (ci := 7) (fs := [.int 0, .int 0, .int 0, .int 0, .null, .null, .null, .null, .null, .null, .null, .null, .null]) (C := RX7) (T := TX7) (N := 13) hx hb hts iw_c_X3_init_X7 tyX7 tyX7_ok hown (hts (.classLink RX3 11 RX7) (List.mem_of_getElem? (i := 4) rfl)) (hts (.instantiable RX7 13) (List.mem_of_getElem? (i := 6) rfl)) (hts (.initialized RX7) (List.mem_of_getElem? (i := 7) rfl)) hK hP hD hS hA rfl (vn_X7) (Nat.le_of_ble_eq_true rfl) (Nat.le_of_ble_eq_true rfl) dX3_init_26 (fun q_43 H hP hD hS => ?_)
  have hP : va_P (dC, dI) vwCl [(h0, .inr (3, [.ref q_1, .int 0, .int 0, .null, .null, .null, .int 0])), (q_1, .inl (k_2, 40, .inr (.inr (.inr (.inr f_41))))), (q_43, .inr (7, [.int 0, .int 0, .int 0, .int 0, .null, .null, .null, .null, .null, .null, .null, .null, .null]))] H := hP
  have hD : va_D A [(h0, .inr (3, [.ref q_1, .int 0, .int 0, .null, .null, .null, .int 0])), (q_1, .inl (k_2, 40, .inr (.inr (.inr (.inr f_41))))), (q_43, .inr (7, [.int 0, .int 0, .int 0, .int 0, .null, .null, .null, .null, .null, .null, .null, .null, .null]))] := hD
  refine W.widen (k := 32) (n := 266) (by decide) (by decide) ?_
  refine lv_dup hx hb dX3_init_29 rfl ?_
  have hPc := hP.sub (ws' := [(q_43, .inr (7, [.int 0, .int 0, .int 0, .int 0, .null, .null, .null, .null, .null, .null, .null, .null, .null]))]) [2] rfl
  have hDc := hD.sub (ws' := [(q_43, .inr (7, [.int 0, .int 0, .int 0, .int 0, .null, .null, .null, .null, .null, .null, .null, .null, .null]))]) [2] (by decide) rfl
  have hKc := hK.sub (tys' := []) [] rfl
  have hFc := va_free (wc := [(q_43, .inr (7, [.int 0, .int 0, .int 0, .int 0, .null, .null, .null, .null, .null, .null, .null, .null, .null]))]) hD hS hA [2] rfl
  refine va_callv (va_runI (As := []) (rest := [.ref q_43, .int 3, .ref q_1]) ⟨hx, hb, hml, hown, hts⟩ (c_X7_init l dC dI H.size q_43) (cwI 0 hts gf_c_X3_init_c_X7_init rfl rfl rfl (hts (.initialized RX7) (List.mem_of_getElem? (i := 7) rfl)) (hts (.methodLink RX3 17 yX7_init) (List.mem_of_getElem? (i := 20) rfl)) (hts (.instanceMethod yX7_init) (List.mem_of_getElem? (i := 21) rfl)) rfl (by decide +kernel) ⟨Nat.le_of_ble_eq_true rfl, Nat.le_of_ble_eq_true rfl⟩) ⟨fun a U g mk q => by obtain ⟨q0, q1, qP, qK, qD⟩ := q; exact ⟨q0, q1, qP, va_K.moved (u := U) (U := U.calling g mk a) (Vm.Alike.refl U.vm) qK, qD⟩, fun U hU hW => ⟨rfl, by rw [hU], by rw [hU]; exact hPc, va_K.moved hW.alike hKc, hDc.weaken (fun _ _ _ _ => trivial)⟩⟩ rfl rfl hl.1 rfl (lv_room (Nat.le_of_ble_eq_true rfl)) dX3_init_30 ⟨Nat.le_of_ble_eq_true rfl, Nat.le_of_ble_eq_true rfl⟩) hS (fun q _ h => hFc q h) hFc (fun u t H1 locs ht hvm hw hB hz1 hk1 hS => ?_)
  obtain ⟨q_45, q_46, q_47, q_48, q_49, q_50, q_51, q_52, q_53, hP1, hK1, hD1⟩ := hB
  rw [ht] at hP1
  have hK1 := va_K.moved hvm.symm hK1
  obtain ⟨hP, hD⟩ := va_join (wr := [(h0, .inr (3, [.ref q_1, .int 0, .int 0, .null, .null, .null, .int 0])), (q_1, .inl (k_2, 40, .inr (.inr (.inr (.inr f_41)))))]) (w1 := [(q_43, .inr (7, [.int 0, .int 0, .int 0, .int 0, .ref q_45, .ref q_46, .ref q_47, .ref q_48, .ref q_49, .ref q_50, .ref q_51, .ref q_52, .ref q_53]))]) hP hD [2] [0, 1] rfl rfl (by decide) (by decide) hk1 hFc hP1 hD1
  generalize H1 = H at hP hS ⊢
  have hP : va_P (dC, dI) vwCl [(h0, .inr (3, [.ref q_1, .int 0, .int 0, .null, .null, .null, .int 0])), (q_1, .inl (k_2, 40, .inr (.inr (.inr (.inr f_41))))), (q_43, .inr (7, [.int 0, .int 0, .int 0, .int 0, .ref q_45, .ref q_46, .ref q_47, .ref q_48, .ref q_49, .ref q_50, .ref q_51, .ref q_52, .ref q_53]))] H := hP
  have hD : va_D A [(h0, .inr (3, [.ref q_1, .int 0, .int 0, .null, .null, .null, .int 0])), (q_1, .inl (k_2, 40, .inr (.inr (.inr (.inr f_41))))), (q_43, .inr (7, [.int 0, .int 0, .int 0, .int 0, .ref q_45, .ref q_46, .ref q_47, .ref q_48, .ref q_49, .ref q_50, .ref q_51, .ref q_52, .ref q_53]))] := hD
  refine W.widen (k := 41) (n := 324) (by decide) (by decide) ?_
  refine va_astq (r := (RX7, TX7, 13)) hx hb hK hP hD hS 1 0 2 7 rfl rfl rfl rfl (by unfold vp_in; decide) dX3_init_33 (fun H locs hP hD hS => ?_)
  have hP : va_P (dC, dI) vwCl [(h0, .inr (3, [.ref q_1, .int 0, .int 0, .null, .null, .null, .int 0])), (q_1, .inl (k_2, 40, .inr (.inr (.inr (.inr (va_up f_41 (3 : Int32).toNatClampNeg (some q_43))))))), (q_43, .inr (7, [.int 0, .int 0, .int 0, .int 0, .ref q_45, .ref q_46, .ref q_47, .ref q_48, .ref q_49, .ref q_50, .ref q_51, .ref q_52, .ref q_53]))] H := hP
  have hD : va_D A [(h0, .inr (3, [.ref q_1, .int 0, .int 0, .null, .null, .null, .int 0])), (q_1, .inl (k_2, 40, .inr (.inr (.inr (.inr (va_up f_41 (3 : Int32).toNatClampNeg (some q_43))))))), (q_43, .inr (7, [.int 0, .int 0, .int 0, .int 0, .ref q_45, .ref q_46, .ref q_47, .ref q_48, .ref q_49, .ref q_50, .ref q_51, .ref q_52, .ref q_53]))] := hD
  refine lv_iinc (v := 4) (lv' := [(1, .int 4), (0, .ref h0)]) hx hb dX3_init_34 hl (k := 0) rfl (by decide) (by decide) rfl (fun ls hl => ?_)
  refine lv_goto (tgt := 15) hx hb dX3_init_37 (by decide) ?_
  have hP := hP.sub (ws' := [(h0, .inr (3, [.ref q_1, .int 0, .int 0, .null, .null, .null, .int 0])), (q_1, .inl (k_2, 40, .inr (.inr (.inr (.inr (va_up f_41 (3 : Int32).toNatClampNeg (some q_43)))))))]) [0, 1] rfl
  have hD := hD.sub (ws' := [(h0, .inr (3, [.ref q_1, .int 0, .int 0, .null, .null, .null, .int 0])), (q_1, .inl (k_2, 40, .inr (.inr (.inr (.inr (va_up f_41 (3 : Int32).toNatClampNeg (some q_43)))))))]) [0, 1] (by decide) rfl
  generalize (va_up f_41 (3 : Int32).toNatClampNeg (some q_43)) = f_54 at hP hD
  have hP : va_P (dC, dI) vwCl [(h0, .inr (3, [.ref q_1, .int 0, .int 0, .null, .null, .null, .int 0])), (q_1, .inl (k_2, 40, .inr (.inr (.inr (.inr f_54)))))] H := hP
  have hD : va_D A [(h0, .inr (3, [.ref q_1, .int 0, .int 0, .null, .null, .null, .int 0])), (q_1, .inl (k_2, 40, .inr (.inr (.inr (.inr f_54)))))] := hD
  refine lv_iload_n hx hb dX3_init_15 rfl (lv_at hl 0 rfl) ?_
  refine lv_bipush (v := 40) hx hb dX3_init_16 (by decide) ?_
  refine lv_icmp_ge (tgt := 40) hx hb dX3_init_18 (by decide) (fun c_55 => absurd c_55 (by decide)) (fun c_55 => ?_)
  refine lv_aload_n hx hb dX3_init_21 rfl (lv_at hl 1 rfl) ?_
  refine va_get (D := (dC, dI)) (ci := 3) (v := .ref q_1) (C := RX3) (T := TX3) (N := 7) hx hb hts iw_c_X3_init_X3 hown hK hP 0 rfl rfl 0 (by decide) (hts (.fieldLink RX3 13 "BuoyVote$History" "before" "[LBuoyVote$Sea;") (List.mem_of_getElem? (i := 5) rfl)) (fun _ h9 => h9) rfl dX3_init_22 ?_
  refine lv_iload_n hx hb dX3_init_25 rfl (lv_at hl 0 rfl) ?_
  refine va_new (ci := 7) (fs := [.int 0, .int 0, .int 0, .int 0, .null, .null, .null, .null, .null, .null, .null, .null, .null]) (C := RX7) (T := TX7) (N := 13) hx hb hts iw_c_X3_init_X7 tyX7 tyX7_ok hown (hts (.classLink RX3 11 RX7) (List.mem_of_getElem? (i := 4) rfl)) (hts (.instantiable RX7 13) (List.mem_of_getElem? (i := 6) rfl)) (hts (.initialized RX7) (List.mem_of_getElem? (i := 7) rfl)) hK hP hD hS hA rfl (vn_X7) (Nat.le_of_ble_eq_true rfl) (Nat.le_of_ble_eq_true rfl) dX3_init_26 (fun q_56 H hP hD hS => ?_)
  have hP : va_P (dC, dI) vwCl [(h0, .inr (3, [.ref q_1, .int 0, .int 0, .null, .null, .null, .int 0])), (q_1, .inl (k_2, 40, .inr (.inr (.inr (.inr f_54))))), (q_56, .inr (7, [.int 0, .int 0, .int 0, .int 0, .null, .null, .null, .null, .null, .null, .null, .null, .null]))] H := hP
  have hD : va_D A [(h0, .inr (3, [.ref q_1, .int 0, .int 0, .null, .null, .null, .int 0])), (q_1, .inl (k_2, 40, .inr (.inr (.inr (.inr f_54))))), (q_56, .inr (7, [.int 0, .int 0, .int 0, .int 0, .null, .null, .null, .null, .null, .null, .null, .null, .null]))] := hD
  refine W.widen (k := 42) (n := 337) (by decide) (by decide) ?_
  refine lv_dup hx hb dX3_init_29 rfl ?_
  have hPc := hP.sub (ws' := [(q_56, .inr (7, [.int 0, .int 0, .int 0, .int 0, .null, .null, .null, .null, .null, .null, .null, .null, .null]))]) [2] rfl
  have hDc := hD.sub (ws' := [(q_56, .inr (7, [.int 0, .int 0, .int 0, .int 0, .null, .null, .null, .null, .null, .null, .null, .null, .null]))]) [2] (by decide) rfl
  have hKc := hK.sub (tys' := []) [] rfl
  have hFc := va_free (wc := [(q_56, .inr (7, [.int 0, .int 0, .int 0, .int 0, .null, .null, .null, .null, .null, .null, .null, .null, .null]))]) hD hS hA [2] rfl
  refine va_callv (va_runI (As := []) (rest := [.ref q_56, .int 4, .ref q_1]) ⟨hx, hb, hml, hown, hts⟩ (c_X7_init l dC dI H.size q_56) (cwI 0 hts gf_c_X3_init_c_X7_init rfl rfl rfl (hts (.initialized RX7) (List.mem_of_getElem? (i := 7) rfl)) (hts (.methodLink RX3 17 yX7_init) (List.mem_of_getElem? (i := 20) rfl)) (hts (.instanceMethod yX7_init) (List.mem_of_getElem? (i := 21) rfl)) rfl (by decide +kernel) ⟨Nat.le_of_ble_eq_true rfl, Nat.le_of_ble_eq_true rfl⟩) ⟨fun a U g mk q => by obtain ⟨q0, q1, qP, qK, qD⟩ := q; exact ⟨q0, q1, qP, va_K.moved (u := U) (U := U.calling g mk a) (Vm.Alike.refl U.vm) qK, qD⟩, fun U hU hW => ⟨rfl, by rw [hU], by rw [hU]; exact hPc, va_K.moved hW.alike hKc, hDc.weaken (fun _ _ _ _ => trivial)⟩⟩ rfl rfl hl.1 rfl (lv_room (Nat.le_of_ble_eq_true rfl)) dX3_init_30 ⟨Nat.le_of_ble_eq_true rfl, Nat.le_of_ble_eq_true rfl⟩) hS (fun q _ h => hFc q h) hFc (fun u t H1 locs ht hvm hw hB hz1 hk1 hS => ?_)
  obtain ⟨q_58, q_59, q_60, q_61, q_62, q_63, q_64, q_65, q_66, hP1, hK1, hD1⟩ := hB
  rw [ht] at hP1
  have hK1 := va_K.moved hvm.symm hK1
  obtain ⟨hP, hD⟩ := va_join (wr := [(h0, .inr (3, [.ref q_1, .int 0, .int 0, .null, .null, .null, .int 0])), (q_1, .inl (k_2, 40, .inr (.inr (.inr (.inr f_54)))))]) (w1 := [(q_56, .inr (7, [.int 0, .int 0, .int 0, .int 0, .ref q_58, .ref q_59, .ref q_60, .ref q_61, .ref q_62, .ref q_63, .ref q_64, .ref q_65, .ref q_66]))]) hP hD [2] [0, 1] rfl rfl (by decide) (by decide) hk1 hFc hP1 hD1
  generalize H1 = H at hP hS ⊢
  have hP : va_P (dC, dI) vwCl [(h0, .inr (3, [.ref q_1, .int 0, .int 0, .null, .null, .null, .int 0])), (q_1, .inl (k_2, 40, .inr (.inr (.inr (.inr f_54))))), (q_56, .inr (7, [.int 0, .int 0, .int 0, .int 0, .ref q_58, .ref q_59, .ref q_60, .ref q_61, .ref q_62, .ref q_63, .ref q_64, .ref q_65, .ref q_66]))] H := hP
  have hD : va_D A [(h0, .inr (3, [.ref q_1, .int 0, .int 0, .null, .null, .null, .int 0])), (q_1, .inl (k_2, 40, .inr (.inr (.inr (.inr f_54))))), (q_56, .inr (7, [.int 0, .int 0, .int 0, .int 0, .ref q_58, .ref q_59, .ref q_60, .ref q_61, .ref q_62, .ref q_63, .ref q_64, .ref q_65, .ref q_66]))] := hD
  refine W.widen (k := 51) (n := 395) (by decide) (by decide) ?_
  refine va_astq (r := (RX7, TX7, 13)) hx hb hK hP hD hS 1 0 2 7 rfl rfl rfl rfl (by unfold vp_in; decide) dX3_init_33 (fun H locs hP hD hS => ?_)
  have hP : va_P (dC, dI) vwCl [(h0, .inr (3, [.ref q_1, .int 0, .int 0, .null, .null, .null, .int 0])), (q_1, .inl (k_2, 40, .inr (.inr (.inr (.inr (va_up f_54 (4 : Int32).toNatClampNeg (some q_56))))))), (q_56, .inr (7, [.int 0, .int 0, .int 0, .int 0, .ref q_58, .ref q_59, .ref q_60, .ref q_61, .ref q_62, .ref q_63, .ref q_64, .ref q_65, .ref q_66]))] H := hP
  have hD : va_D A [(h0, .inr (3, [.ref q_1, .int 0, .int 0, .null, .null, .null, .int 0])), (q_1, .inl (k_2, 40, .inr (.inr (.inr (.inr (va_up f_54 (4 : Int32).toNatClampNeg (some q_56))))))), (q_56, .inr (7, [.int 0, .int 0, .int 0, .int 0, .ref q_58, .ref q_59, .ref q_60, .ref q_61, .ref q_62, .ref q_63, .ref q_64, .ref q_65, .ref q_66]))] := hD
  refine lv_iinc (v := 5) (lv' := [(1, .int 5), (0, .ref h0)]) hx hb dX3_init_34 hl (k := 0) rfl (by decide) (by decide) rfl (fun ls hl => ?_)
  refine lv_goto (tgt := 15) hx hb dX3_init_37 (by decide) ?_
  have hP := hP.sub (ws' := [(h0, .inr (3, [.ref q_1, .int 0, .int 0, .null, .null, .null, .int 0])), (q_1, .inl (k_2, 40, .inr (.inr (.inr (.inr (va_up f_54 (4 : Int32).toNatClampNeg (some q_56)))))))]) [0, 1] rfl
  have hD := hD.sub (ws' := [(h0, .inr (3, [.ref q_1, .int 0, .int 0, .null, .null, .null, .int 0])), (q_1, .inl (k_2, 40, .inr (.inr (.inr (.inr (va_up f_54 (4 : Int32).toNatClampNeg (some q_56)))))))]) [0, 1] (by decide) rfl
  generalize (va_up f_54 (4 : Int32).toNatClampNeg (some q_56)) = f_67 at hP hD
  have hP : va_P (dC, dI) vwCl [(h0, .inr (3, [.ref q_1, .int 0, .int 0, .null, .null, .null, .int 0])), (q_1, .inl (k_2, 40, .inr (.inr (.inr (.inr f_67)))))] H := hP
  have hD : va_D A [(h0, .inr (3, [.ref q_1, .int 0, .int 0, .null, .null, .null, .int 0])), (q_1, .inl (k_2, 40, .inr (.inr (.inr (.inr f_67)))))] := hD
  refine lv_iload_n hx hb dX3_init_15 rfl (lv_at hl 0 rfl) ?_
  refine lv_bipush (v := 40) hx hb dX3_init_16 (by decide) ?_
  refine lv_icmp_ge (tgt := 40) hx hb dX3_init_18 (by decide) (fun c_68 => absurd c_68 (by decide)) (fun c_68 => ?_)
  refine lv_aload_n hx hb dX3_init_21 rfl (lv_at hl 1 rfl) ?_
  refine va_get (D := (dC, dI)) (ci := 3) (v := .ref q_1) (C := RX3) (T := TX3) (N := 7) hx hb hts iw_c_X3_init_X3 hown hK hP 0 rfl rfl 0 (by decide) (hts (.fieldLink RX3 13 "BuoyVote$History" "before" "[LBuoyVote$Sea;") (List.mem_of_getElem? (i := 5) rfl)) (fun _ h9 => h9) rfl dX3_init_22 ?_
  refine lv_iload_n hx hb dX3_init_25 rfl (lv_at hl 0 rfl) ?_
  refine va_new (ci := 7) (fs := [.int 0, .int 0, .int 0, .int 0, .null, .null, .null, .null, .null, .null, .null, .null, .null]) (C := RX7) (T := TX7) (N := 13) hx hb hts iw_c_X3_init_X7 tyX7 tyX7_ok hown (hts (.classLink RX3 11 RX7) (List.mem_of_getElem? (i := 4) rfl)) (hts (.instantiable RX7 13) (List.mem_of_getElem? (i := 6) rfl)) (hts (.initialized RX7) (List.mem_of_getElem? (i := 7) rfl)) hK hP hD hS hA rfl (vn_X7) (Nat.le_of_ble_eq_true rfl) (Nat.le_of_ble_eq_true rfl) dX3_init_26 (fun q_69 H hP hD hS => ?_)
  have hP : va_P (dC, dI) vwCl [(h0, .inr (3, [.ref q_1, .int 0, .int 0, .null, .null, .null, .int 0])), (q_1, .inl (k_2, 40, .inr (.inr (.inr (.inr f_67))))), (q_69, .inr (7, [.int 0, .int 0, .int 0, .int 0, .null, .null, .null, .null, .null, .null, .null, .null, .null]))] H := hP
  have hD : va_D A [(h0, .inr (3, [.ref q_1, .int 0, .int 0, .null, .null, .null, .int 0])), (q_1, .inl (k_2, 40, .inr (.inr (.inr (.inr f_67))))), (q_69, .inr (7, [.int 0, .int 0, .int 0, .int 0, .null, .null, .null, .null, .null, .null, .null, .null, .null]))] := hD
  refine W.widen (k := 52) (n := 408) (by decide) (by decide) ?_
  refine lv_dup hx hb dX3_init_29 rfl ?_
  have hPc := hP.sub (ws' := [(q_69, .inr (7, [.int 0, .int 0, .int 0, .int 0, .null, .null, .null, .null, .null, .null, .null, .null, .null]))]) [2] rfl
  have hDc := hD.sub (ws' := [(q_69, .inr (7, [.int 0, .int 0, .int 0, .int 0, .null, .null, .null, .null, .null, .null, .null, .null, .null]))]) [2] (by decide) rfl
  have hKc := hK.sub (tys' := []) [] rfl
  have hFc := va_free (wc := [(q_69, .inr (7, [.int 0, .int 0, .int 0, .int 0, .null, .null, .null, .null, .null, .null, .null, .null, .null]))]) hD hS hA [2] rfl
  refine va_callv (va_runI (As := []) (rest := [.ref q_69, .int 5, .ref q_1]) ⟨hx, hb, hml, hown, hts⟩ (c_X7_init l dC dI H.size q_69) (cwI 0 hts gf_c_X3_init_c_X7_init rfl rfl rfl (hts (.initialized RX7) (List.mem_of_getElem? (i := 7) rfl)) (hts (.methodLink RX3 17 yX7_init) (List.mem_of_getElem? (i := 20) rfl)) (hts (.instanceMethod yX7_init) (List.mem_of_getElem? (i := 21) rfl)) rfl (by decide +kernel) ⟨Nat.le_of_ble_eq_true rfl, Nat.le_of_ble_eq_true rfl⟩) ⟨fun a U g mk q => by obtain ⟨q0, q1, qP, qK, qD⟩ := q; exact ⟨q0, q1, qP, va_K.moved (u := U) (U := U.calling g mk a) (Vm.Alike.refl U.vm) qK, qD⟩, fun U hU hW => ⟨rfl, by rw [hU], by rw [hU]; exact hPc, va_K.moved hW.alike hKc, hDc.weaken (fun _ _ _ _ => trivial)⟩⟩ rfl rfl hl.1 rfl (lv_room (Nat.le_of_ble_eq_true rfl)) dX3_init_30 ⟨Nat.le_of_ble_eq_true rfl, Nat.le_of_ble_eq_true rfl⟩) hS (fun q _ h => hFc q h) hFc (fun u t H1 locs ht hvm hw hB hz1 hk1 hS => ?_)
  obtain ⟨q_71, q_72, q_73, q_74, q_75, q_76, q_77, q_78, q_79, hP1, hK1, hD1⟩ := hB
  rw [ht] at hP1
  have hK1 := va_K.moved hvm.symm hK1
  obtain ⟨hP, hD⟩ := va_join (wr := [(h0, .inr (3, [.ref q_1, .int 0, .int 0, .null, .null, .null, .int 0])), (q_1, .inl (k_2, 40, .inr (.inr (.inr (.inr f_67)))))]) (w1 := [(q_69, .inr (7, [.int 0, .int 0, .int 0, .int 0, .ref q_71, .ref q_72, .ref q_73, .ref q_74, .ref q_75, .ref q_76, .ref q_77, .ref q_78, .ref q_79]))]) hP hD [2] [0, 1] rfl rfl (by decide) (by decide) hk1 hFc hP1 hD1
  generalize H1 = H at hP hS ⊢
  have hP : va_P (dC, dI) vwCl [(h0, .inr (3, [.ref q_1, .int 0, .int 0, .null, .null, .null, .int 0])), (q_1, .inl (k_2, 40, .inr (.inr (.inr (.inr f_67))))), (q_69, .inr (7, [.int 0, .int 0, .int 0, .int 0, .ref q_71, .ref q_72, .ref q_73, .ref q_74, .ref q_75, .ref q_76, .ref q_77, .ref q_78, .ref q_79]))] H := hP
  have hD : va_D A [(h0, .inr (3, [.ref q_1, .int 0, .int 0, .null, .null, .null, .int 0])), (q_1, .inl (k_2, 40, .inr (.inr (.inr (.inr f_67))))), (q_69, .inr (7, [.int 0, .int 0, .int 0, .int 0, .ref q_71, .ref q_72, .ref q_73, .ref q_74, .ref q_75, .ref q_76, .ref q_77, .ref q_78, .ref q_79]))] := hD
  refine W.widen (k := 61) (n := 466) (by decide) (by decide) ?_
  refine va_astq (r := (RX7, TX7, 13)) hx hb hK hP hD hS 1 0 2 7 rfl rfl rfl rfl (by unfold vp_in; decide) dX3_init_33 (fun H locs hP hD hS => ?_)
  have hP : va_P (dC, dI) vwCl [(h0, .inr (3, [.ref q_1, .int 0, .int 0, .null, .null, .null, .int 0])), (q_1, .inl (k_2, 40, .inr (.inr (.inr (.inr (va_up f_67 (5 : Int32).toNatClampNeg (some q_69))))))), (q_69, .inr (7, [.int 0, .int 0, .int 0, .int 0, .ref q_71, .ref q_72, .ref q_73, .ref q_74, .ref q_75, .ref q_76, .ref q_77, .ref q_78, .ref q_79]))] H := hP
  have hD : va_D A [(h0, .inr (3, [.ref q_1, .int 0, .int 0, .null, .null, .null, .int 0])), (q_1, .inl (k_2, 40, .inr (.inr (.inr (.inr (va_up f_67 (5 : Int32).toNatClampNeg (some q_69))))))), (q_69, .inr (7, [.int 0, .int 0, .int 0, .int 0, .ref q_71, .ref q_72, .ref q_73, .ref q_74, .ref q_75, .ref q_76, .ref q_77, .ref q_78, .ref q_79]))] := hD
  refine lv_iinc (v := 6) (lv' := [(1, .int 6), (0, .ref h0)]) hx hb dX3_init_34 hl (k := 0) rfl (by decide) (by decide) rfl (fun ls hl => ?_)
  refine lv_goto (tgt := 15) hx hb dX3_init_37 (by decide) ?_
  have hP := hP.sub (ws' := [(h0, .inr (3, [.ref q_1, .int 0, .int 0, .null, .null, .null, .int 0])), (q_1, .inl (k_2, 40, .inr (.inr (.inr (.inr (va_up f_67 (5 : Int32).toNatClampNeg (some q_69)))))))]) [0, 1] rfl
  have hD := hD.sub (ws' := [(h0, .inr (3, [.ref q_1, .int 0, .int 0, .null, .null, .null, .int 0])), (q_1, .inl (k_2, 40, .inr (.inr (.inr (.inr (va_up f_67 (5 : Int32).toNatClampNeg (some q_69)))))))]) [0, 1] (by decide) rfl
  generalize (va_up f_67 (5 : Int32).toNatClampNeg (some q_69)) = f_80 at hP hD
  have hP : va_P (dC, dI) vwCl [(h0, .inr (3, [.ref q_1, .int 0, .int 0, .null, .null, .null, .int 0])), (q_1, .inl (k_2, 40, .inr (.inr (.inr (.inr f_80)))))] H := hP
  have hD : va_D A [(h0, .inr (3, [.ref q_1, .int 0, .int 0, .null, .null, .null, .int 0])), (q_1, .inl (k_2, 40, .inr (.inr (.inr (.inr f_80)))))] := hD
  refine lv_iload_n hx hb dX3_init_15 rfl (lv_at hl 0 rfl) ?_
  refine lv_bipush (v := 40) hx hb dX3_init_16 (by decide) ?_
  refine lv_icmp_ge (tgt := 40) hx hb dX3_init_18 (by decide) (fun c_81 => absurd c_81 (by decide)) (fun c_81 => ?_)
  refine lv_aload_n hx hb dX3_init_21 rfl (lv_at hl 1 rfl) ?_
  refine va_get (D := (dC, dI)) (ci := 3) (v := .ref q_1) (C := RX3) (T := TX3) (N := 7) hx hb hts iw_c_X3_init_X3 hown hK hP 0 rfl rfl 0 (by decide) (hts (.fieldLink RX3 13 "BuoyVote$History" "before" "[LBuoyVote$Sea;") (List.mem_of_getElem? (i := 5) rfl)) (fun _ h9 => h9) rfl dX3_init_22 ?_
  refine lv_iload_n hx hb dX3_init_25 rfl (lv_at hl 0 rfl) ?_
  refine va_new (ci := 7) (fs := [.int 0, .int 0, .int 0, .int 0, .null, .null, .null, .null, .null, .null, .null, .null, .null]) (C := RX7) (T := TX7) (N := 13) hx hb hts iw_c_X3_init_X7 tyX7 tyX7_ok hown (hts (.classLink RX3 11 RX7) (List.mem_of_getElem? (i := 4) rfl)) (hts (.instantiable RX7 13) (List.mem_of_getElem? (i := 6) rfl)) (hts (.initialized RX7) (List.mem_of_getElem? (i := 7) rfl)) hK hP hD hS hA rfl (vn_X7) (Nat.le_of_ble_eq_true rfl) (Nat.le_of_ble_eq_true rfl) dX3_init_26 (fun q_82 H hP hD hS => ?_)
  have hP : va_P (dC, dI) vwCl [(h0, .inr (3, [.ref q_1, .int 0, .int 0, .null, .null, .null, .int 0])), (q_1, .inl (k_2, 40, .inr (.inr (.inr (.inr f_80))))), (q_82, .inr (7, [.int 0, .int 0, .int 0, .int 0, .null, .null, .null, .null, .null, .null, .null, .null, .null]))] H := hP
  have hD : va_D A [(h0, .inr (3, [.ref q_1, .int 0, .int 0, .null, .null, .null, .int 0])), (q_1, .inl (k_2, 40, .inr (.inr (.inr (.inr f_80))))), (q_82, .inr (7, [.int 0, .int 0, .int 0, .int 0, .null, .null, .null, .null, .null, .null, .null, .null, .null]))] := hD
  refine W.widen (k := 62) (n := 479) (by decide) (by decide) ?_
  refine lv_dup hx hb dX3_init_29 rfl ?_
  have hPc := hP.sub (ws' := [(q_82, .inr (7, [.int 0, .int 0, .int 0, .int 0, .null, .null, .null, .null, .null, .null, .null, .null, .null]))]) [2] rfl
  have hDc := hD.sub (ws' := [(q_82, .inr (7, [.int 0, .int 0, .int 0, .int 0, .null, .null, .null, .null, .null, .null, .null, .null, .null]))]) [2] (by decide) rfl
  have hKc := hK.sub (tys' := []) [] rfl
  have hFc := va_free (wc := [(q_82, .inr (7, [.int 0, .int 0, .int 0, .int 0, .null, .null, .null, .null, .null, .null, .null, .null, .null]))]) hD hS hA [2] rfl
  refine va_callv (va_runI (As := []) (rest := [.ref q_82, .int 6, .ref q_1]) ⟨hx, hb, hml, hown, hts⟩ (c_X7_init l dC dI H.size q_82) (cwI 0 hts gf_c_X3_init_c_X7_init rfl rfl rfl (hts (.initialized RX7) (List.mem_of_getElem? (i := 7) rfl)) (hts (.methodLink RX3 17 yX7_init) (List.mem_of_getElem? (i := 20) rfl)) (hts (.instanceMethod yX7_init) (List.mem_of_getElem? (i := 21) rfl)) rfl (by decide +kernel) ⟨Nat.le_of_ble_eq_true rfl, Nat.le_of_ble_eq_true rfl⟩) ⟨fun a U g mk q => by obtain ⟨q0, q1, qP, qK, qD⟩ := q; exact ⟨q0, q1, qP, va_K.moved (u := U) (U := U.calling g mk a) (Vm.Alike.refl U.vm) qK, qD⟩, fun U hU hW => ⟨rfl, by rw [hU], by rw [hU]; exact hPc, va_K.moved hW.alike hKc, hDc.weaken (fun _ _ _ _ => trivial)⟩⟩ rfl rfl hl.1 rfl (lv_room (Nat.le_of_ble_eq_true rfl)) dX3_init_30 ⟨Nat.le_of_ble_eq_true rfl, Nat.le_of_ble_eq_true rfl⟩) hS (fun q _ h => hFc q h) hFc (fun u t H1 locs ht hvm hw hB hz1 hk1 hS => ?_)
  obtain ⟨q_84, q_85, q_86, q_87, q_88, q_89, q_90, q_91, q_92, hP1, hK1, hD1⟩ := hB
  rw [ht] at hP1
  have hK1 := va_K.moved hvm.symm hK1
  obtain ⟨hP, hD⟩ := va_join (wr := [(h0, .inr (3, [.ref q_1, .int 0, .int 0, .null, .null, .null, .int 0])), (q_1, .inl (k_2, 40, .inr (.inr (.inr (.inr f_80)))))]) (w1 := [(q_82, .inr (7, [.int 0, .int 0, .int 0, .int 0, .ref q_84, .ref q_85, .ref q_86, .ref q_87, .ref q_88, .ref q_89, .ref q_90, .ref q_91, .ref q_92]))]) hP hD [2] [0, 1] rfl rfl (by decide) (by decide) hk1 hFc hP1 hD1
  generalize H1 = H at hP hS ⊢
  have hP : va_P (dC, dI) vwCl [(h0, .inr (3, [.ref q_1, .int 0, .int 0, .null, .null, .null, .int 0])), (q_1, .inl (k_2, 40, .inr (.inr (.inr (.inr f_80))))), (q_82, .inr (7, [.int 0, .int 0, .int 0, .int 0, .ref q_84, .ref q_85, .ref q_86, .ref q_87, .ref q_88, .ref q_89, .ref q_90, .ref q_91, .ref q_92]))] H := hP
  have hD : va_D A [(h0, .inr (3, [.ref q_1, .int 0, .int 0, .null, .null, .null, .int 0])), (q_1, .inl (k_2, 40, .inr (.inr (.inr (.inr f_80))))), (q_82, .inr (7, [.int 0, .int 0, .int 0, .int 0, .ref q_84, .ref q_85, .ref q_86, .ref q_87, .ref q_88, .ref q_89, .ref q_90, .ref q_91, .ref q_92]))] := hD
  refine W.widen (k := 71) (n := 537) (by decide) (by decide) ?_
  refine va_astq (r := (RX7, TX7, 13)) hx hb hK hP hD hS 1 0 2 7 rfl rfl rfl rfl (by unfold vp_in; decide) dX3_init_33 (fun H locs hP hD hS => ?_)
  have hP : va_P (dC, dI) vwCl [(h0, .inr (3, [.ref q_1, .int 0, .int 0, .null, .null, .null, .int 0])), (q_1, .inl (k_2, 40, .inr (.inr (.inr (.inr (va_up f_80 (6 : Int32).toNatClampNeg (some q_82))))))), (q_82, .inr (7, [.int 0, .int 0, .int 0, .int 0, .ref q_84, .ref q_85, .ref q_86, .ref q_87, .ref q_88, .ref q_89, .ref q_90, .ref q_91, .ref q_92]))] H := hP
  have hD : va_D A [(h0, .inr (3, [.ref q_1, .int 0, .int 0, .null, .null, .null, .int 0])), (q_1, .inl (k_2, 40, .inr (.inr (.inr (.inr (va_up f_80 (6 : Int32).toNatClampNeg (some q_82))))))), (q_82, .inr (7, [.int 0, .int 0, .int 0, .int 0, .ref q_84, .ref q_85, .ref q_86, .ref q_87, .ref q_88, .ref q_89, .ref q_90, .ref q_91, .ref q_92]))] := hD
  refine lv_iinc (v := 7) (lv' := [(1, .int 7), (0, .ref h0)]) hx hb dX3_init_34 hl (k := 0) rfl (by decide) (by decide) rfl (fun ls hl => ?_)
  refine lv_goto (tgt := 15) hx hb dX3_init_37 (by decide) ?_
  have hP := hP.sub (ws' := [(h0, .inr (3, [.ref q_1, .int 0, .int 0, .null, .null, .null, .int 0])), (q_1, .inl (k_2, 40, .inr (.inr (.inr (.inr (va_up f_80 (6 : Int32).toNatClampNeg (some q_82)))))))]) [0, 1] rfl
  have hD := hD.sub (ws' := [(h0, .inr (3, [.ref q_1, .int 0, .int 0, .null, .null, .null, .int 0])), (q_1, .inl (k_2, 40, .inr (.inr (.inr (.inr (va_up f_80 (6 : Int32).toNatClampNeg (some q_82)))))))]) [0, 1] (by decide) rfl
  generalize (va_up f_80 (6 : Int32).toNatClampNeg (some q_82)) = f_93 at hP hD
  have hP : va_P (dC, dI) vwCl [(h0, .inr (3, [.ref q_1, .int 0, .int 0, .null, .null, .null, .int 0])), (q_1, .inl (k_2, 40, .inr (.inr (.inr (.inr f_93)))))] H := hP
  have hD : va_D A [(h0, .inr (3, [.ref q_1, .int 0, .int 0, .null, .null, .null, .int 0])), (q_1, .inl (k_2, 40, .inr (.inr (.inr (.inr f_93)))))] := hD
  refine lv_iload_n hx hb dX3_init_15 rfl (lv_at hl 0 rfl) ?_
  refine lv_bipush (v := 40) hx hb dX3_init_16 (by decide) ?_
  refine lv_icmp_ge (tgt := 40) hx hb dX3_init_18 (by decide) (fun c_94 => absurd c_94 (by decide)) (fun c_94 => ?_)
  refine lv_aload_n hx hb dX3_init_21 rfl (lv_at hl 1 rfl) ?_
  refine va_get (D := (dC, dI)) (ci := 3) (v := .ref q_1) (C := RX3) (T := TX3) (N := 7) hx hb hts iw_c_X3_init_X3 hown hK hP 0 rfl rfl 0 (by decide) (hts (.fieldLink RX3 13 "BuoyVote$History" "before" "[LBuoyVote$Sea;") (List.mem_of_getElem? (i := 5) rfl)) (fun _ h9 => h9) rfl dX3_init_22 ?_
  refine lv_iload_n hx hb dX3_init_25 rfl (lv_at hl 0 rfl) ?_
  refine va_new (ci := 7) (fs := [.int 0, .int 0, .int 0, .int 0, .null, .null, .null, .null, .null, .null, .null, .null, .null]) (C := RX7) (T := TX7) (N := 13) hx hb hts iw_c_X3_init_X7 tyX7 tyX7_ok hown (hts (.classLink RX3 11 RX7) (List.mem_of_getElem? (i := 4) rfl)) (hts (.instantiable RX7 13) (List.mem_of_getElem? (i := 6) rfl)) (hts (.initialized RX7) (List.mem_of_getElem? (i := 7) rfl)) hK hP hD hS hA rfl (vn_X7) (Nat.le_of_ble_eq_true rfl) (Nat.le_of_ble_eq_true rfl) dX3_init_26 (fun q_95 H hP hD hS => ?_)
  have hP : va_P (dC, dI) vwCl [(h0, .inr (3, [.ref q_1, .int 0, .int 0, .null, .null, .null, .int 0])), (q_1, .inl (k_2, 40, .inr (.inr (.inr (.inr f_93))))), (q_95, .inr (7, [.int 0, .int 0, .int 0, .int 0, .null, .null, .null, .null, .null, .null, .null, .null, .null]))] H := hP
  have hD : va_D A [(h0, .inr (3, [.ref q_1, .int 0, .int 0, .null, .null, .null, .int 0])), (q_1, .inl (k_2, 40, .inr (.inr (.inr (.inr f_93))))), (q_95, .inr (7, [.int 0, .int 0, .int 0, .int 0, .null, .null, .null, .null, .null, .null, .null, .null, .null]))] := hD
  refine W.widen (k := 72) (n := 550) (by decide) (by decide) ?_
  refine lv_dup hx hb dX3_init_29 rfl ?_
  have hPc := hP.sub (ws' := [(q_95, .inr (7, [.int 0, .int 0, .int 0, .int 0, .null, .null, .null, .null, .null, .null, .null, .null, .null]))]) [2] rfl
  have hDc := hD.sub (ws' := [(q_95, .inr (7, [.int 0, .int 0, .int 0, .int 0, .null, .null, .null, .null, .null, .null, .null, .null, .null]))]) [2] (by decide) rfl
  have hKc := hK.sub (tys' := []) [] rfl
  have hFc := va_free (wc := [(q_95, .inr (7, [.int 0, .int 0, .int 0, .int 0, .null, .null, .null, .null, .null, .null, .null, .null, .null]))]) hD hS hA [2] rfl
  refine va_callv (va_runI (As := []) (rest := [.ref q_95, .int 7, .ref q_1]) ⟨hx, hb, hml, hown, hts⟩ (c_X7_init l dC dI H.size q_95) (cwI 0 hts gf_c_X3_init_c_X7_init rfl rfl rfl (hts (.initialized RX7) (List.mem_of_getElem? (i := 7) rfl)) (hts (.methodLink RX3 17 yX7_init) (List.mem_of_getElem? (i := 20) rfl)) (hts (.instanceMethod yX7_init) (List.mem_of_getElem? (i := 21) rfl)) rfl (by decide +kernel) ⟨Nat.le_of_ble_eq_true rfl, Nat.le_of_ble_eq_true rfl⟩) ⟨fun a U g mk q => by obtain ⟨q0, q1, qP, qK, qD⟩ := q; exact ⟨q0, q1, qP, va_K.moved (u := U) (U := U.calling g mk a) (Vm.Alike.refl U.vm) qK, qD⟩, fun U hU hW => ⟨rfl, by rw [hU], by rw [hU]; exact hPc, va_K.moved hW.alike hKc, hDc.weaken (fun _ _ _ _ => trivial)⟩⟩ rfl rfl hl.1 rfl (lv_room (Nat.le_of_ble_eq_true rfl)) dX3_init_30 ⟨Nat.le_of_ble_eq_true rfl, Nat.le_of_ble_eq_true rfl⟩) hS (fun q _ h => hFc q h) hFc (fun u t H1 locs ht hvm hw hB hz1 hk1 hS => ?_)
  obtain ⟨q_97, q_98, q_99, q_100, q_101, q_102, q_103, q_104, q_105, hP1, hK1, hD1⟩ := hB
  rw [ht] at hP1
  have hK1 := va_K.moved hvm.symm hK1
  obtain ⟨hP, hD⟩ := va_join (wr := [(h0, .inr (3, [.ref q_1, .int 0, .int 0, .null, .null, .null, .int 0])), (q_1, .inl (k_2, 40, .inr (.inr (.inr (.inr f_93)))))]) (w1 := [(q_95, .inr (7, [.int 0, .int 0, .int 0, .int 0, .ref q_97, .ref q_98, .ref q_99, .ref q_100, .ref q_101, .ref q_102, .ref q_103, .ref q_104, .ref q_105]))]) hP hD [2] [0, 1] rfl rfl (by decide) (by decide) hk1 hFc hP1 hD1
  generalize H1 = H at hP hS ⊢
  have hP : va_P (dC, dI) vwCl [(h0, .inr (3, [.ref q_1, .int 0, .int 0, .null, .null, .null, .int 0])), (q_1, .inl (k_2, 40, .inr (.inr (.inr (.inr f_93))))), (q_95, .inr (7, [.int 0, .int 0, .int 0, .int 0, .ref q_97, .ref q_98, .ref q_99, .ref q_100, .ref q_101, .ref q_102, .ref q_103, .ref q_104, .ref q_105]))] H := hP
  have hD : va_D A [(h0, .inr (3, [.ref q_1, .int 0, .int 0, .null, .null, .null, .int 0])), (q_1, .inl (k_2, 40, .inr (.inr (.inr (.inr f_93))))), (q_95, .inr (7, [.int 0, .int 0, .int 0, .int 0, .ref q_97, .ref q_98, .ref q_99, .ref q_100, .ref q_101, .ref q_102, .ref q_103, .ref q_104, .ref q_105]))] := hD
  refine W.widen (k := 81) (n := 608) (by decide) (by decide) ?_
  refine va_astq (r := (RX7, TX7, 13)) hx hb hK hP hD hS 1 0 2 7 rfl rfl rfl rfl (by unfold vp_in; decide) dX3_init_33 (fun H locs hP hD hS => ?_)
  have hP : va_P (dC, dI) vwCl [(h0, .inr (3, [.ref q_1, .int 0, .int 0, .null, .null, .null, .int 0])), (q_1, .inl (k_2, 40, .inr (.inr (.inr (.inr (va_up f_93 (7 : Int32).toNatClampNeg (some q_95))))))), (q_95, .inr (7, [.int 0, .int 0, .int 0, .int 0, .ref q_97, .ref q_98, .ref q_99, .ref q_100, .ref q_101, .ref q_102, .ref q_103, .ref q_104, .ref q_105]))] H := hP
  have hD : va_D A [(h0, .inr (3, [.ref q_1, .int 0, .int 0, .null, .null, .null, .int 0])), (q_1, .inl (k_2, 40, .inr (.inr (.inr (.inr (va_up f_93 (7 : Int32).toNatClampNeg (some q_95))))))), (q_95, .inr (7, [.int 0, .int 0, .int 0, .int 0, .ref q_97, .ref q_98, .ref q_99, .ref q_100, .ref q_101, .ref q_102, .ref q_103, .ref q_104, .ref q_105]))] := hD
  refine lv_iinc (v := 8) (lv' := [(1, .int 8), (0, .ref h0)]) hx hb dX3_init_34 hl (k := 0) rfl (by decide) (by decide) rfl (fun ls hl => ?_)
  refine lv_goto (tgt := 15) hx hb dX3_init_37 (by decide) ?_
  have hP := hP.sub (ws' := [(h0, .inr (3, [.ref q_1, .int 0, .int 0, .null, .null, .null, .int 0])), (q_1, .inl (k_2, 40, .inr (.inr (.inr (.inr (va_up f_93 (7 : Int32).toNatClampNeg (some q_95)))))))]) [0, 1] rfl
  have hD := hD.sub (ws' := [(h0, .inr (3, [.ref q_1, .int 0, .int 0, .null, .null, .null, .int 0])), (q_1, .inl (k_2, 40, .inr (.inr (.inr (.inr (va_up f_93 (7 : Int32).toNatClampNeg (some q_95)))))))]) [0, 1] (by decide) rfl
  generalize (va_up f_93 (7 : Int32).toNatClampNeg (some q_95)) = f_106 at hP hD
  have hP : va_P (dC, dI) vwCl [(h0, .inr (3, [.ref q_1, .int 0, .int 0, .null, .null, .null, .int 0])), (q_1, .inl (k_2, 40, .inr (.inr (.inr (.inr f_106)))))] H := hP
  have hD : va_D A [(h0, .inr (3, [.ref q_1, .int 0, .int 0, .null, .null, .null, .int 0])), (q_1, .inl (k_2, 40, .inr (.inr (.inr (.inr f_106)))))] := hD
  refine lv_iload_n hx hb dX3_init_15 rfl (lv_at hl 0 rfl) ?_
  refine lv_bipush (v := 40) hx hb dX3_init_16 (by decide) ?_
  refine lv_icmp_ge (tgt := 40) hx hb dX3_init_18 (by decide) (fun c_107 => absurd c_107 (by decide)) (fun c_107 => ?_)
  refine lv_aload_n hx hb dX3_init_21 rfl (lv_at hl 1 rfl) ?_
  refine va_get (D := (dC, dI)) (ci := 3) (v := .ref q_1) (C := RX3) (T := TX3) (N := 7) hx hb hts iw_c_X3_init_X3 hown hK hP 0 rfl rfl 0 (by decide) (hts (.fieldLink RX3 13 "BuoyVote$History" "before" "[LBuoyVote$Sea;") (List.mem_of_getElem? (i := 5) rfl)) (fun _ h9 => h9) rfl dX3_init_22 ?_
  refine lv_iload_n hx hb dX3_init_25 rfl (lv_at hl 0 rfl) ?_
  refine va_new (ci := 7) (fs := [.int 0, .int 0, .int 0, .int 0, .null, .null, .null, .null, .null, .null, .null, .null, .null]) (C := RX7) (T := TX7) (N := 13) hx hb hts iw_c_X3_init_X7 tyX7 tyX7_ok hown (hts (.classLink RX3 11 RX7) (List.mem_of_getElem? (i := 4) rfl)) (hts (.instantiable RX7 13) (List.mem_of_getElem? (i := 6) rfl)) (hts (.initialized RX7) (List.mem_of_getElem? (i := 7) rfl)) hK hP hD hS hA rfl (vn_X7) (Nat.le_of_ble_eq_true rfl) (Nat.le_of_ble_eq_true rfl) dX3_init_26 (fun q_108 H hP hD hS => ?_)
  have hP : va_P (dC, dI) vwCl [(h0, .inr (3, [.ref q_1, .int 0, .int 0, .null, .null, .null, .int 0])), (q_1, .inl (k_2, 40, .inr (.inr (.inr (.inr f_106))))), (q_108, .inr (7, [.int 0, .int 0, .int 0, .int 0, .null, .null, .null, .null, .null, .null, .null, .null, .null]))] H := hP
  have hD : va_D A [(h0, .inr (3, [.ref q_1, .int 0, .int 0, .null, .null, .null, .int 0])), (q_1, .inl (k_2, 40, .inr (.inr (.inr (.inr f_106))))), (q_108, .inr (7, [.int 0, .int 0, .int 0, .int 0, .null, .null, .null, .null, .null, .null, .null, .null, .null]))] := hD
  refine W.widen (k := 82) (n := 621) (by decide) (by decide) ?_
  refine lv_dup hx hb dX3_init_29 rfl ?_
  have hPc := hP.sub (ws' := [(q_108, .inr (7, [.int 0, .int 0, .int 0, .int 0, .null, .null, .null, .null, .null, .null, .null, .null, .null]))]) [2] rfl
  have hDc := hD.sub (ws' := [(q_108, .inr (7, [.int 0, .int 0, .int 0, .int 0, .null, .null, .null, .null, .null, .null, .null, .null, .null]))]) [2] (by decide) rfl
  have hKc := hK.sub (tys' := []) [] rfl
  have hFc := va_free (wc := [(q_108, .inr (7, [.int 0, .int 0, .int 0, .int 0, .null, .null, .null, .null, .null, .null, .null, .null, .null]))]) hD hS hA [2] rfl
  refine va_callv (va_runI (As := []) (rest := [.ref q_108, .int 8, .ref q_1]) ⟨hx, hb, hml, hown, hts⟩ (c_X7_init l dC dI H.size q_108) (cwI 0 hts gf_c_X3_init_c_X7_init rfl rfl rfl (hts (.initialized RX7) (List.mem_of_getElem? (i := 7) rfl)) (hts (.methodLink RX3 17 yX7_init) (List.mem_of_getElem? (i := 20) rfl)) (hts (.instanceMethod yX7_init) (List.mem_of_getElem? (i := 21) rfl)) rfl (by decide +kernel) ⟨Nat.le_of_ble_eq_true rfl, Nat.le_of_ble_eq_true rfl⟩) ⟨fun a U g mk q => by obtain ⟨q0, q1, qP, qK, qD⟩ := q; exact ⟨q0, q1, qP, va_K.moved (u := U) (U := U.calling g mk a) (Vm.Alike.refl U.vm) qK, qD⟩, fun U hU hW => ⟨rfl, by rw [hU], by rw [hU]; exact hPc, va_K.moved hW.alike hKc, hDc.weaken (fun _ _ _ _ => trivial)⟩⟩ rfl rfl hl.1 rfl (lv_room (Nat.le_of_ble_eq_true rfl)) dX3_init_30 ⟨Nat.le_of_ble_eq_true rfl, Nat.le_of_ble_eq_true rfl⟩) hS (fun q _ h => hFc q h) hFc (fun u t H1 locs ht hvm hw hB hz1 hk1 hS => ?_)
  obtain ⟨q_110, q_111, q_112, q_113, q_114, q_115, q_116, q_117, q_118, hP1, hK1, hD1⟩ := hB
  rw [ht] at hP1
  have hK1 := va_K.moved hvm.symm hK1
  obtain ⟨hP, hD⟩ := va_join (wr := [(h0, .inr (3, [.ref q_1, .int 0, .int 0, .null, .null, .null, .int 0])), (q_1, .inl (k_2, 40, .inr (.inr (.inr (.inr f_106)))))]) (w1 := [(q_108, .inr (7, [.int 0, .int 0, .int 0, .int 0, .ref q_110, .ref q_111, .ref q_112, .ref q_113, .ref q_114, .ref q_115, .ref q_116, .ref q_117, .ref q_118]))]) hP hD [2] [0, 1] rfl rfl (by decide) (by decide) hk1 hFc hP1 hD1
  generalize H1 = H at hP hS ⊢
  have hP : va_P (dC, dI) vwCl [(h0, .inr (3, [.ref q_1, .int 0, .int 0, .null, .null, .null, .int 0])), (q_1, .inl (k_2, 40, .inr (.inr (.inr (.inr f_106))))), (q_108, .inr (7, [.int 0, .int 0, .int 0, .int 0, .ref q_110, .ref q_111, .ref q_112, .ref q_113, .ref q_114, .ref q_115, .ref q_116, .ref q_117, .ref q_118]))] H := hP
  have hD : va_D A [(h0, .inr (3, [.ref q_1, .int 0, .int 0, .null, .null, .null, .int 0])), (q_1, .inl (k_2, 40, .inr (.inr (.inr (.inr f_106))))), (q_108, .inr (7, [.int 0, .int 0, .int 0, .int 0, .ref q_110, .ref q_111, .ref q_112, .ref q_113, .ref q_114, .ref q_115, .ref q_116, .ref q_117, .ref q_118]))] := hD
  refine W.widen (k := 91) (n := 679) (by decide) (by decide) ?_
  refine va_astq (r := (RX7, TX7, 13)) hx hb hK hP hD hS 1 0 2 7 rfl rfl rfl rfl (by unfold vp_in; decide) dX3_init_33 (fun H locs hP hD hS => ?_)
  have hP : va_P (dC, dI) vwCl [(h0, .inr (3, [.ref q_1, .int 0, .int 0, .null, .null, .null, .int 0])), (q_1, .inl (k_2, 40, .inr (.inr (.inr (.inr (va_up f_106 (8 : Int32).toNatClampNeg (some q_108))))))), (q_108, .inr (7, [.int 0, .int 0, .int 0, .int 0, .ref q_110, .ref q_111, .ref q_112, .ref q_113, .ref q_114, .ref q_115, .ref q_116, .ref q_117, .ref q_118]))] H := hP
  have hD : va_D A [(h0, .inr (3, [.ref q_1, .int 0, .int 0, .null, .null, .null, .int 0])), (q_1, .inl (k_2, 40, .inr (.inr (.inr (.inr (va_up f_106 (8 : Int32).toNatClampNeg (some q_108))))))), (q_108, .inr (7, [.int 0, .int 0, .int 0, .int 0, .ref q_110, .ref q_111, .ref q_112, .ref q_113, .ref q_114, .ref q_115, .ref q_116, .ref q_117, .ref q_118]))] := hD
  refine lv_iinc (v := 9) (lv' := [(1, .int 9), (0, .ref h0)]) hx hb dX3_init_34 hl (k := 0) rfl (by decide) (by decide) rfl (fun ls hl => ?_)
  refine lv_goto (tgt := 15) hx hb dX3_init_37 (by decide) ?_
  have hP := hP.sub (ws' := [(h0, .inr (3, [.ref q_1, .int 0, .int 0, .null, .null, .null, .int 0])), (q_1, .inl (k_2, 40, .inr (.inr (.inr (.inr (va_up f_106 (8 : Int32).toNatClampNeg (some q_108)))))))]) [0, 1] rfl
  have hD := hD.sub (ws' := [(h0, .inr (3, [.ref q_1, .int 0, .int 0, .null, .null, .null, .int 0])), (q_1, .inl (k_2, 40, .inr (.inr (.inr (.inr (va_up f_106 (8 : Int32).toNatClampNeg (some q_108)))))))]) [0, 1] (by decide) rfl
  generalize (va_up f_106 (8 : Int32).toNatClampNeg (some q_108)) = f_119 at hP hD
  have hP : va_P (dC, dI) vwCl [(h0, .inr (3, [.ref q_1, .int 0, .int 0, .null, .null, .null, .int 0])), (q_1, .inl (k_2, 40, .inr (.inr (.inr (.inr f_119)))))] H := hP
  have hD : va_D A [(h0, .inr (3, [.ref q_1, .int 0, .int 0, .null, .null, .null, .int 0])), (q_1, .inl (k_2, 40, .inr (.inr (.inr (.inr f_119)))))] := hD
  refine lv_iload_n hx hb dX3_init_15 rfl (lv_at hl 0 rfl) ?_
  refine lv_bipush (v := 40) hx hb dX3_init_16 (by decide) ?_
  refine lv_icmp_ge (tgt := 40) hx hb dX3_init_18 (by decide) (fun c_120 => absurd c_120 (by decide)) (fun c_120 => ?_)
  refine lv_aload_n hx hb dX3_init_21 rfl (lv_at hl 1 rfl) ?_
  refine va_get (D := (dC, dI)) (ci := 3) (v := .ref q_1) (C := RX3) (T := TX3) (N := 7) hx hb hts iw_c_X3_init_X3 hown hK hP 0 rfl rfl 0 (by decide) (hts (.fieldLink RX3 13 "BuoyVote$History" "before" "[LBuoyVote$Sea;") (List.mem_of_getElem? (i := 5) rfl)) (fun _ h9 => h9) rfl dX3_init_22 ?_
  refine lv_iload_n hx hb dX3_init_25 rfl (lv_at hl 0 rfl) ?_
  refine va_new (ci := 7) (fs := [.int 0, .int 0, .int 0, .int 0, .null, .null, .null, .null, .null, .null, .null, .null, .null]) (C := RX7) (T := TX7) (N := 13) hx hb hts iw_c_X3_init_X7 tyX7 tyX7_ok hown (hts (.classLink RX3 11 RX7) (List.mem_of_getElem? (i := 4) rfl)) (hts (.instantiable RX7 13) (List.mem_of_getElem? (i := 6) rfl)) (hts (.initialized RX7) (List.mem_of_getElem? (i := 7) rfl)) hK hP hD hS hA rfl (vn_X7) (Nat.le_of_ble_eq_true rfl) (Nat.le_of_ble_eq_true rfl) dX3_init_26 (fun q_121 H hP hD hS => ?_)
  have hP : va_P (dC, dI) vwCl [(h0, .inr (3, [.ref q_1, .int 0, .int 0, .null, .null, .null, .int 0])), (q_1, .inl (k_2, 40, .inr (.inr (.inr (.inr f_119))))), (q_121, .inr (7, [.int 0, .int 0, .int 0, .int 0, .null, .null, .null, .null, .null, .null, .null, .null, .null]))] H := hP
  have hD : va_D A [(h0, .inr (3, [.ref q_1, .int 0, .int 0, .null, .null, .null, .int 0])), (q_1, .inl (k_2, 40, .inr (.inr (.inr (.inr f_119))))), (q_121, .inr (7, [.int 0, .int 0, .int 0, .int 0, .null, .null, .null, .null, .null, .null, .null, .null, .null]))] := hD
  refine W.widen (k := 92) (n := 692) (by decide) (by decide) ?_
  refine lv_dup hx hb dX3_init_29 rfl ?_
  have hPc := hP.sub (ws' := [(q_121, .inr (7, [.int 0, .int 0, .int 0, .int 0, .null, .null, .null, .null, .null, .null, .null, .null, .null]))]) [2] rfl
  have hDc := hD.sub (ws' := [(q_121, .inr (7, [.int 0, .int 0, .int 0, .int 0, .null, .null, .null, .null, .null, .null, .null, .null, .null]))]) [2] (by decide) rfl
  have hKc := hK.sub (tys' := []) [] rfl
  have hFc := va_free (wc := [(q_121, .inr (7, [.int 0, .int 0, .int 0, .int 0, .null, .null, .null, .null, .null, .null, .null, .null, .null]))]) hD hS hA [2] rfl
  refine va_callv (va_runI (As := []) (rest := [.ref q_121, .int 9, .ref q_1]) ⟨hx, hb, hml, hown, hts⟩ (c_X7_init l dC dI H.size q_121) (cwI 0 hts gf_c_X3_init_c_X7_init rfl rfl rfl (hts (.initialized RX7) (List.mem_of_getElem? (i := 7) rfl)) (hts (.methodLink RX3 17 yX7_init) (List.mem_of_getElem? (i := 20) rfl)) (hts (.instanceMethod yX7_init) (List.mem_of_getElem? (i := 21) rfl)) rfl (by decide +kernel) ⟨Nat.le_of_ble_eq_true rfl, Nat.le_of_ble_eq_true rfl⟩) ⟨fun a U g mk q => by obtain ⟨q0, q1, qP, qK, qD⟩ := q; exact ⟨q0, q1, qP, va_K.moved (u := U) (U := U.calling g mk a) (Vm.Alike.refl U.vm) qK, qD⟩, fun U hU hW => ⟨rfl, by rw [hU], by rw [hU]; exact hPc, va_K.moved hW.alike hKc, hDc.weaken (fun _ _ _ _ => trivial)⟩⟩ rfl rfl hl.1 rfl (lv_room (Nat.le_of_ble_eq_true rfl)) dX3_init_30 ⟨Nat.le_of_ble_eq_true rfl, Nat.le_of_ble_eq_true rfl⟩) hS (fun q _ h => hFc q h) hFc (fun u t H1 locs ht hvm hw hB hz1 hk1 hS => ?_)
  obtain ⟨q_123, q_124, q_125, q_126, q_127, q_128, q_129, q_130, q_131, hP1, hK1, hD1⟩ := hB
  rw [ht] at hP1
  have hK1 := va_K.moved hvm.symm hK1
  obtain ⟨hP, hD⟩ := va_join (wr := [(h0, .inr (3, [.ref q_1, .int 0, .int 0, .null, .null, .null, .int 0])), (q_1, .inl (k_2, 40, .inr (.inr (.inr (.inr f_119)))))]) (w1 := [(q_121, .inr (7, [.int 0, .int 0, .int 0, .int 0, .ref q_123, .ref q_124, .ref q_125, .ref q_126, .ref q_127, .ref q_128, .ref q_129, .ref q_130, .ref q_131]))]) hP hD [2] [0, 1] rfl rfl (by decide) (by decide) hk1 hFc hP1 hD1
  generalize H1 = H at hP hS ⊢
  have hP : va_P (dC, dI) vwCl [(h0, .inr (3, [.ref q_1, .int 0, .int 0, .null, .null, .null, .int 0])), (q_1, .inl (k_2, 40, .inr (.inr (.inr (.inr f_119))))), (q_121, .inr (7, [.int 0, .int 0, .int 0, .int 0, .ref q_123, .ref q_124, .ref q_125, .ref q_126, .ref q_127, .ref q_128, .ref q_129, .ref q_130, .ref q_131]))] H := hP
  have hD : va_D A [(h0, .inr (3, [.ref q_1, .int 0, .int 0, .null, .null, .null, .int 0])), (q_1, .inl (k_2, 40, .inr (.inr (.inr (.inr f_119))))), (q_121, .inr (7, [.int 0, .int 0, .int 0, .int 0, .ref q_123, .ref q_124, .ref q_125, .ref q_126, .ref q_127, .ref q_128, .ref q_129, .ref q_130, .ref q_131]))] := hD
  refine W.widen (k := 101) (n := 750) (by decide) (by decide) ?_
  refine va_astq (r := (RX7, TX7, 13)) hx hb hK hP hD hS 1 0 2 7 rfl rfl rfl rfl (by unfold vp_in; decide) dX3_init_33 (fun H locs hP hD hS => ?_)
  have hP : va_P (dC, dI) vwCl [(h0, .inr (3, [.ref q_1, .int 0, .int 0, .null, .null, .null, .int 0])), (q_1, .inl (k_2, 40, .inr (.inr (.inr (.inr (va_up f_119 (9 : Int32).toNatClampNeg (some q_121))))))), (q_121, .inr (7, [.int 0, .int 0, .int 0, .int 0, .ref q_123, .ref q_124, .ref q_125, .ref q_126, .ref q_127, .ref q_128, .ref q_129, .ref q_130, .ref q_131]))] H := hP
  have hD : va_D A [(h0, .inr (3, [.ref q_1, .int 0, .int 0, .null, .null, .null, .int 0])), (q_1, .inl (k_2, 40, .inr (.inr (.inr (.inr (va_up f_119 (9 : Int32).toNatClampNeg (some q_121))))))), (q_121, .inr (7, [.int 0, .int 0, .int 0, .int 0, .ref q_123, .ref q_124, .ref q_125, .ref q_126, .ref q_127, .ref q_128, .ref q_129, .ref q_130, .ref q_131]))] := hD
  refine lv_iinc (v := 10) (lv' := [(1, .int 10), (0, .ref h0)]) hx hb dX3_init_34 hl (k := 0) rfl (by decide) (by decide) rfl (fun ls hl => ?_)
  refine lv_goto (tgt := 15) hx hb dX3_init_37 (by decide) ?_
  have hP := hP.sub (ws' := [(h0, .inr (3, [.ref q_1, .int 0, .int 0, .null, .null, .null, .int 0])), (q_1, .inl (k_2, 40, .inr (.inr (.inr (.inr (va_up f_119 (9 : Int32).toNatClampNeg (some q_121)))))))]) [0, 1] rfl
  have hD := hD.sub (ws' := [(h0, .inr (3, [.ref q_1, .int 0, .int 0, .null, .null, .null, .int 0])), (q_1, .inl (k_2, 40, .inr (.inr (.inr (.inr (va_up f_119 (9 : Int32).toNatClampNeg (some q_121)))))))]) [0, 1] (by decide) rfl
  generalize (va_up f_119 (9 : Int32).toNatClampNeg (some q_121)) = f_132 at hP hD
  have hP : va_P (dC, dI) vwCl [(h0, .inr (3, [.ref q_1, .int 0, .int 0, .null, .null, .null, .int 0])), (q_1, .inl (k_2, 40, .inr (.inr (.inr (.inr f_132)))))] H := hP
  have hD : va_D A [(h0, .inr (3, [.ref q_1, .int 0, .int 0, .null, .null, .null, .int 0])), (q_1, .inl (k_2, 40, .inr (.inr (.inr (.inr f_132)))))] := hD
  refine lv_iload_n hx hb dX3_init_15 rfl (lv_at hl 0 rfl) ?_
  refine lv_bipush (v := 40) hx hb dX3_init_16 (by decide) ?_
  refine lv_icmp_ge (tgt := 40) hx hb dX3_init_18 (by decide) (fun c_133 => absurd c_133 (by decide)) (fun c_133 => ?_)
  refine lv_aload_n hx hb dX3_init_21 rfl (lv_at hl 1 rfl) ?_
  refine va_get (D := (dC, dI)) (ci := 3) (v := .ref q_1) (C := RX3) (T := TX3) (N := 7) hx hb hts iw_c_X3_init_X3 hown hK hP 0 rfl rfl 0 (by decide) (hts (.fieldLink RX3 13 "BuoyVote$History" "before" "[LBuoyVote$Sea;") (List.mem_of_getElem? (i := 5) rfl)) (fun _ h9 => h9) rfl dX3_init_22 ?_
  refine lv_iload_n hx hb dX3_init_25 rfl (lv_at hl 0 rfl) ?_
  refine va_new (ci := 7) (fs := [.int 0, .int 0, .int 0, .int 0, .null, .null, .null, .null, .null, .null, .null, .null, .null]) (C := RX7) (T := TX7) (N := 13) hx hb hts iw_c_X3_init_X7 tyX7 tyX7_ok hown (hts (.classLink RX3 11 RX7) (List.mem_of_getElem? (i := 4) rfl)) (hts (.instantiable RX7 13) (List.mem_of_getElem? (i := 6) rfl)) (hts (.initialized RX7) (List.mem_of_getElem? (i := 7) rfl)) hK hP hD hS hA rfl (vn_X7) (Nat.le_of_ble_eq_true rfl) (Nat.le_of_ble_eq_true rfl) dX3_init_26 (fun q_134 H hP hD hS => ?_)
  have hP : va_P (dC, dI) vwCl [(h0, .inr (3, [.ref q_1, .int 0, .int 0, .null, .null, .null, .int 0])), (q_1, .inl (k_2, 40, .inr (.inr (.inr (.inr f_132))))), (q_134, .inr (7, [.int 0, .int 0, .int 0, .int 0, .null, .null, .null, .null, .null, .null, .null, .null, .null]))] H := hP
  have hD : va_D A [(h0, .inr (3, [.ref q_1, .int 0, .int 0, .null, .null, .null, .int 0])), (q_1, .inl (k_2, 40, .inr (.inr (.inr (.inr f_132))))), (q_134, .inr (7, [.int 0, .int 0, .int 0, .int 0, .null, .null, .null, .null, .null, .null, .null, .null, .null]))] := hD
  refine W.widen (k := 102) (n := 763) (by decide) (by decide) ?_
  refine lv_dup hx hb dX3_init_29 rfl ?_
  have hPc := hP.sub (ws' := [(q_134, .inr (7, [.int 0, .int 0, .int 0, .int 0, .null, .null, .null, .null, .null, .null, .null, .null, .null]))]) [2] rfl
  have hDc := hD.sub (ws' := [(q_134, .inr (7, [.int 0, .int 0, .int 0, .int 0, .null, .null, .null, .null, .null, .null, .null, .null, .null]))]) [2] (by decide) rfl
  have hKc := hK.sub (tys' := []) [] rfl
  have hFc := va_free (wc := [(q_134, .inr (7, [.int 0, .int 0, .int 0, .int 0, .null, .null, .null, .null, .null, .null, .null, .null, .null]))]) hD hS hA [2] rfl
  refine va_callv (va_runI (As := []) (rest := [.ref q_134, .int 10, .ref q_1]) ⟨hx, hb, hml, hown, hts⟩ (c_X7_init l dC dI H.size q_134) (cwI 0 hts gf_c_X3_init_c_X7_init rfl rfl rfl (hts (.initialized RX7) (List.mem_of_getElem? (i := 7) rfl)) (hts (.methodLink RX3 17 yX7_init) (List.mem_of_getElem? (i := 20) rfl)) (hts (.instanceMethod yX7_init) (List.mem_of_getElem? (i := 21) rfl)) rfl (by decide +kernel) ⟨Nat.le_of_ble_eq_true rfl, Nat.le_of_ble_eq_true rfl⟩) ⟨fun a U g mk q => by obtain ⟨q0, q1, qP, qK, qD⟩ := q; exact ⟨q0, q1, qP, va_K.moved (u := U) (U := U.calling g mk a) (Vm.Alike.refl U.vm) qK, qD⟩, fun U hU hW => ⟨rfl, by rw [hU], by rw [hU]; exact hPc, va_K.moved hW.alike hKc, hDc.weaken (fun _ _ _ _ => trivial)⟩⟩ rfl rfl hl.1 rfl (lv_room (Nat.le_of_ble_eq_true rfl)) dX3_init_30 ⟨Nat.le_of_ble_eq_true rfl, Nat.le_of_ble_eq_true rfl⟩) hS (fun q _ h => hFc q h) hFc (fun u t H1 locs ht hvm hw hB hz1 hk1 hS => ?_)
  obtain ⟨q_136, q_137, q_138, q_139, q_140, q_141, q_142, q_143, q_144, hP1, hK1, hD1⟩ := hB
  rw [ht] at hP1
  have hK1 := va_K.moved hvm.symm hK1
  obtain ⟨hP, hD⟩ := va_join (wr := [(h0, .inr (3, [.ref q_1, .int 0, .int 0, .null, .null, .null, .int 0])), (q_1, .inl (k_2, 40, .inr (.inr (.inr (.inr f_132)))))]) (w1 := [(q_134, .inr (7, [.int 0, .int 0, .int 0, .int 0, .ref q_136, .ref q_137, .ref q_138, .ref q_139, .ref q_140, .ref q_141, .ref q_142, .ref q_143, .ref q_144]))]) hP hD [2] [0, 1] rfl rfl (by decide) (by decide) hk1 hFc hP1 hD1
  generalize H1 = H at hP hS ⊢
  have hP : va_P (dC, dI) vwCl [(h0, .inr (3, [.ref q_1, .int 0, .int 0, .null, .null, .null, .int 0])), (q_1, .inl (k_2, 40, .inr (.inr (.inr (.inr f_132))))), (q_134, .inr (7, [.int 0, .int 0, .int 0, .int 0, .ref q_136, .ref q_137, .ref q_138, .ref q_139, .ref q_140, .ref q_141, .ref q_142, .ref q_143, .ref q_144]))] H := hP
  have hD : va_D A [(h0, .inr (3, [.ref q_1, .int 0, .int 0, .null, .null, .null, .int 0])), (q_1, .inl (k_2, 40, .inr (.inr (.inr (.inr f_132))))), (q_134, .inr (7, [.int 0, .int 0, .int 0, .int 0, .ref q_136, .ref q_137, .ref q_138, .ref q_139, .ref q_140, .ref q_141, .ref q_142, .ref q_143, .ref q_144]))] := hD
  refine W.widen (k := 111) (n := 821) (by decide) (by decide) ?_
  refine va_astq (r := (RX7, TX7, 13)) hx hb hK hP hD hS 1 0 2 7 rfl rfl rfl rfl (by unfold vp_in; decide) dX3_init_33 (fun H locs hP hD hS => ?_)
  have hP : va_P (dC, dI) vwCl [(h0, .inr (3, [.ref q_1, .int 0, .int 0, .null, .null, .null, .int 0])), (q_1, .inl (k_2, 40, .inr (.inr (.inr (.inr (va_up f_132 (10 : Int32).toNatClampNeg (some q_134))))))), (q_134, .inr (7, [.int 0, .int 0, .int 0, .int 0, .ref q_136, .ref q_137, .ref q_138, .ref q_139, .ref q_140, .ref q_141, .ref q_142, .ref q_143, .ref q_144]))] H := hP
  have hD : va_D A [(h0, .inr (3, [.ref q_1, .int 0, .int 0, .null, .null, .null, .int 0])), (q_1, .inl (k_2, 40, .inr (.inr (.inr (.inr (va_up f_132 (10 : Int32).toNatClampNeg (some q_134))))))), (q_134, .inr (7, [.int 0, .int 0, .int 0, .int 0, .ref q_136, .ref q_137, .ref q_138, .ref q_139, .ref q_140, .ref q_141, .ref q_142, .ref q_143, .ref q_144]))] := hD
  refine lv_iinc (v := 11) (lv' := [(1, .int 11), (0, .ref h0)]) hx hb dX3_init_34 hl (k := 0) rfl (by decide) (by decide) rfl (fun ls hl => ?_)
  refine lv_goto (tgt := 15) hx hb dX3_init_37 (by decide) ?_
  have hP := hP.sub (ws' := [(h0, .inr (3, [.ref q_1, .int 0, .int 0, .null, .null, .null, .int 0])), (q_1, .inl (k_2, 40, .inr (.inr (.inr (.inr (va_up f_132 (10 : Int32).toNatClampNeg (some q_134)))))))]) [0, 1] rfl
  have hD := hD.sub (ws' := [(h0, .inr (3, [.ref q_1, .int 0, .int 0, .null, .null, .null, .int 0])), (q_1, .inl (k_2, 40, .inr (.inr (.inr (.inr (va_up f_132 (10 : Int32).toNatClampNeg (some q_134)))))))]) [0, 1] (by decide) rfl
  generalize (va_up f_132 (10 : Int32).toNatClampNeg (some q_134)) = f_145 at hP hD
  have hP : va_P (dC, dI) vwCl [(h0, .inr (3, [.ref q_1, .int 0, .int 0, .null, .null, .null, .int 0])), (q_1, .inl (k_2, 40, .inr (.inr (.inr (.inr f_145)))))] H := hP
  have hD : va_D A [(h0, .inr (3, [.ref q_1, .int 0, .int 0, .null, .null, .null, .int 0])), (q_1, .inl (k_2, 40, .inr (.inr (.inr (.inr f_145)))))] := hD
  refine lv_iload_n hx hb dX3_init_15 rfl (lv_at hl 0 rfl) ?_
  refine lv_bipush (v := 40) hx hb dX3_init_16 (by decide) ?_
  refine lv_icmp_ge (tgt := 40) hx hb dX3_init_18 (by decide) (fun c_146 => absurd c_146 (by decide)) (fun c_146 => ?_)
  refine lv_aload_n hx hb dX3_init_21 rfl (lv_at hl 1 rfl) ?_
  refine va_get (D := (dC, dI)) (ci := 3) (v := .ref q_1) (C := RX3) (T := TX3) (N := 7) hx hb hts iw_c_X3_init_X3 hown hK hP 0 rfl rfl 0 (by decide) (hts (.fieldLink RX3 13 "BuoyVote$History" "before" "[LBuoyVote$Sea;") (List.mem_of_getElem? (i := 5) rfl)) (fun _ h9 => h9) rfl dX3_init_22 ?_
  refine lv_iload_n hx hb dX3_init_25 rfl (lv_at hl 0 rfl) ?_
  refine va_new (ci := 7) (fs := [.int 0, .int 0, .int 0, .int 0, .null, .null, .null, .null, .null, .null, .null, .null, .null]) (C := RX7) (T := TX7) (N := 13) hx hb hts iw_c_X3_init_X7 tyX7 tyX7_ok hown (hts (.classLink RX3 11 RX7) (List.mem_of_getElem? (i := 4) rfl)) (hts (.instantiable RX7 13) (List.mem_of_getElem? (i := 6) rfl)) (hts (.initialized RX7) (List.mem_of_getElem? (i := 7) rfl)) hK hP hD hS hA rfl (vn_X7) (Nat.le_of_ble_eq_true rfl) (Nat.le_of_ble_eq_true rfl) dX3_init_26 (fun q_147 H hP hD hS => ?_)
  have hP : va_P (dC, dI) vwCl [(h0, .inr (3, [.ref q_1, .int 0, .int 0, .null, .null, .null, .int 0])), (q_1, .inl (k_2, 40, .inr (.inr (.inr (.inr f_145))))), (q_147, .inr (7, [.int 0, .int 0, .int 0, .int 0, .null, .null, .null, .null, .null, .null, .null, .null, .null]))] H := hP
  have hD : va_D A [(h0, .inr (3, [.ref q_1, .int 0, .int 0, .null, .null, .null, .int 0])), (q_1, .inl (k_2, 40, .inr (.inr (.inr (.inr f_145))))), (q_147, .inr (7, [.int 0, .int 0, .int 0, .int 0, .null, .null, .null, .null, .null, .null, .null, .null, .null]))] := hD
  refine W.widen (k := 112) (n := 834) (by decide) (by decide) ?_
  refine lv_dup hx hb dX3_init_29 rfl ?_
  have hPc := hP.sub (ws' := [(q_147, .inr (7, [.int 0, .int 0, .int 0, .int 0, .null, .null, .null, .null, .null, .null, .null, .null, .null]))]) [2] rfl
  have hDc := hD.sub (ws' := [(q_147, .inr (7, [.int 0, .int 0, .int 0, .int 0, .null, .null, .null, .null, .null, .null, .null, .null, .null]))]) [2] (by decide) rfl
  have hKc := hK.sub (tys' := []) [] rfl
  have hFc := va_free (wc := [(q_147, .inr (7, [.int 0, .int 0, .int 0, .int 0, .null, .null, .null, .null, .null, .null, .null, .null, .null]))]) hD hS hA [2] rfl
  refine va_callv (va_runI (As := []) (rest := [.ref q_147, .int 11, .ref q_1]) ⟨hx, hb, hml, hown, hts⟩ (c_X7_init l dC dI H.size q_147) (cwI 0 hts gf_c_X3_init_c_X7_init rfl rfl rfl (hts (.initialized RX7) (List.mem_of_getElem? (i := 7) rfl)) (hts (.methodLink RX3 17 yX7_init) (List.mem_of_getElem? (i := 20) rfl)) (hts (.instanceMethod yX7_init) (List.mem_of_getElem? (i := 21) rfl)) rfl (by decide +kernel) ⟨Nat.le_of_ble_eq_true rfl, Nat.le_of_ble_eq_true rfl⟩) ⟨fun a U g mk q => by obtain ⟨q0, q1, qP, qK, qD⟩ := q; exact ⟨q0, q1, qP, va_K.moved (u := U) (U := U.calling g mk a) (Vm.Alike.refl U.vm) qK, qD⟩, fun U hU hW => ⟨rfl, by rw [hU], by rw [hU]; exact hPc, va_K.moved hW.alike hKc, hDc.weaken (fun _ _ _ _ => trivial)⟩⟩ rfl rfl hl.1 rfl (lv_room (Nat.le_of_ble_eq_true rfl)) dX3_init_30 ⟨Nat.le_of_ble_eq_true rfl, Nat.le_of_ble_eq_true rfl⟩) hS (fun q _ h => hFc q h) hFc (fun u t H1 locs ht hvm hw hB hz1 hk1 hS => ?_)
  obtain ⟨q_149, q_150, q_151, q_152, q_153, q_154, q_155, q_156, q_157, hP1, hK1, hD1⟩ := hB
  rw [ht] at hP1
  have hK1 := va_K.moved hvm.symm hK1
  obtain ⟨hP, hD⟩ := va_join (wr := [(h0, .inr (3, [.ref q_1, .int 0, .int 0, .null, .null, .null, .int 0])), (q_1, .inl (k_2, 40, .inr (.inr (.inr (.inr f_145)))))]) (w1 := [(q_147, .inr (7, [.int 0, .int 0, .int 0, .int 0, .ref q_149, .ref q_150, .ref q_151, .ref q_152, .ref q_153, .ref q_154, .ref q_155, .ref q_156, .ref q_157]))]) hP hD [2] [0, 1] rfl rfl (by decide) (by decide) hk1 hFc hP1 hD1
  generalize H1 = H at hP hS ⊢
  have hP : va_P (dC, dI) vwCl [(h0, .inr (3, [.ref q_1, .int 0, .int 0, .null, .null, .null, .int 0])), (q_1, .inl (k_2, 40, .inr (.inr (.inr (.inr f_145))))), (q_147, .inr (7, [.int 0, .int 0, .int 0, .int 0, .ref q_149, .ref q_150, .ref q_151, .ref q_152, .ref q_153, .ref q_154, .ref q_155, .ref q_156, .ref q_157]))] H := hP
  have hD : va_D A [(h0, .inr (3, [.ref q_1, .int 0, .int 0, .null, .null, .null, .int 0])), (q_1, .inl (k_2, 40, .inr (.inr (.inr (.inr f_145))))), (q_147, .inr (7, [.int 0, .int 0, .int 0, .int 0, .ref q_149, .ref q_150, .ref q_151, .ref q_152, .ref q_153, .ref q_154, .ref q_155, .ref q_156, .ref q_157]))] := hD
  refine W.widen (k := 121) (n := 892) (by decide) (by decide) ?_
  refine va_astq (r := (RX7, TX7, 13)) hx hb hK hP hD hS 1 0 2 7 rfl rfl rfl rfl (by unfold vp_in; decide) dX3_init_33 (fun H locs hP hD hS => ?_)
  have hP : va_P (dC, dI) vwCl [(h0, .inr (3, [.ref q_1, .int 0, .int 0, .null, .null, .null, .int 0])), (q_1, .inl (k_2, 40, .inr (.inr (.inr (.inr (va_up f_145 (11 : Int32).toNatClampNeg (some q_147))))))), (q_147, .inr (7, [.int 0, .int 0, .int 0, .int 0, .ref q_149, .ref q_150, .ref q_151, .ref q_152, .ref q_153, .ref q_154, .ref q_155, .ref q_156, .ref q_157]))] H := hP
  have hD : va_D A [(h0, .inr (3, [.ref q_1, .int 0, .int 0, .null, .null, .null, .int 0])), (q_1, .inl (k_2, 40, .inr (.inr (.inr (.inr (va_up f_145 (11 : Int32).toNatClampNeg (some q_147))))))), (q_147, .inr (7, [.int 0, .int 0, .int 0, .int 0, .ref q_149, .ref q_150, .ref q_151, .ref q_152, .ref q_153, .ref q_154, .ref q_155, .ref q_156, .ref q_157]))] := hD
  refine lv_iinc (v := 12) (lv' := [(1, .int 12), (0, .ref h0)]) hx hb dX3_init_34 hl (k := 0) rfl (by decide) (by decide) rfl (fun ls hl => ?_)
  refine lv_goto (tgt := 15) hx hb dX3_init_37 (by decide) ?_
  have hP := hP.sub (ws' := [(h0, .inr (3, [.ref q_1, .int 0, .int 0, .null, .null, .null, .int 0])), (q_1, .inl (k_2, 40, .inr (.inr (.inr (.inr (va_up f_145 (11 : Int32).toNatClampNeg (some q_147)))))))]) [0, 1] rfl
  have hD := hD.sub (ws' := [(h0, .inr (3, [.ref q_1, .int 0, .int 0, .null, .null, .null, .int 0])), (q_1, .inl (k_2, 40, .inr (.inr (.inr (.inr (va_up f_145 (11 : Int32).toNatClampNeg (some q_147)))))))]) [0, 1] (by decide) rfl
  generalize (va_up f_145 (11 : Int32).toNatClampNeg (some q_147)) = f_158 at hP hD
  have hP : va_P (dC, dI) vwCl [(h0, .inr (3, [.ref q_1, .int 0, .int 0, .null, .null, .null, .int 0])), (q_1, .inl (k_2, 40, .inr (.inr (.inr (.inr f_158)))))] H := hP
  have hD : va_D A [(h0, .inr (3, [.ref q_1, .int 0, .int 0, .null, .null, .null, .int 0])), (q_1, .inl (k_2, 40, .inr (.inr (.inr (.inr f_158)))))] := hD
  refine lv_iload_n hx hb dX3_init_15 rfl (lv_at hl 0 rfl) ?_
  refine lv_bipush (v := 40) hx hb dX3_init_16 (by decide) ?_
  refine lv_icmp_ge (tgt := 40) hx hb dX3_init_18 (by decide) (fun c_159 => absurd c_159 (by decide)) (fun c_159 => ?_)
  refine lv_aload_n hx hb dX3_init_21 rfl (lv_at hl 1 rfl) ?_
  refine va_get (D := (dC, dI)) (ci := 3) (v := .ref q_1) (C := RX3) (T := TX3) (N := 7) hx hb hts iw_c_X3_init_X3 hown hK hP 0 rfl rfl 0 (by decide) (hts (.fieldLink RX3 13 "BuoyVote$History" "before" "[LBuoyVote$Sea;") (List.mem_of_getElem? (i := 5) rfl)) (fun _ h9 => h9) rfl dX3_init_22 ?_
  refine lv_iload_n hx hb dX3_init_25 rfl (lv_at hl 0 rfl) ?_
  refine va_new (ci := 7) (fs := [.int 0, .int 0, .int 0, .int 0, .null, .null, .null, .null, .null, .null, .null, .null, .null]) (C := RX7) (T := TX7) (N := 13) hx hb hts iw_c_X3_init_X7 tyX7 tyX7_ok hown (hts (.classLink RX3 11 RX7) (List.mem_of_getElem? (i := 4) rfl)) (hts (.instantiable RX7 13) (List.mem_of_getElem? (i := 6) rfl)) (hts (.initialized RX7) (List.mem_of_getElem? (i := 7) rfl)) hK hP hD hS hA rfl (vn_X7) (Nat.le_of_ble_eq_true rfl) (Nat.le_of_ble_eq_true rfl) dX3_init_26 (fun q_160 H hP hD hS => ?_)
  have hP : va_P (dC, dI) vwCl [(h0, .inr (3, [.ref q_1, .int 0, .int 0, .null, .null, .null, .int 0])), (q_1, .inl (k_2, 40, .inr (.inr (.inr (.inr f_158))))), (q_160, .inr (7, [.int 0, .int 0, .int 0, .int 0, .null, .null, .null, .null, .null, .null, .null, .null, .null]))] H := hP
  have hD : va_D A [(h0, .inr (3, [.ref q_1, .int 0, .int 0, .null, .null, .null, .int 0])), (q_1, .inl (k_2, 40, .inr (.inr (.inr (.inr f_158))))), (q_160, .inr (7, [.int 0, .int 0, .int 0, .int 0, .null, .null, .null, .null, .null, .null, .null, .null, .null]))] := hD
  refine W.widen (k := 122) (n := 905) (by decide) (by decide) ?_
  refine lv_dup hx hb dX3_init_29 rfl ?_
  have hPc := hP.sub (ws' := [(q_160, .inr (7, [.int 0, .int 0, .int 0, .int 0, .null, .null, .null, .null, .null, .null, .null, .null, .null]))]) [2] rfl
  have hDc := hD.sub (ws' := [(q_160, .inr (7, [.int 0, .int 0, .int 0, .int 0, .null, .null, .null, .null, .null, .null, .null, .null, .null]))]) [2] (by decide) rfl
  have hKc := hK.sub (tys' := []) [] rfl
  have hFc := va_free (wc := [(q_160, .inr (7, [.int 0, .int 0, .int 0, .int 0, .null, .null, .null, .null, .null, .null, .null, .null, .null]))]) hD hS hA [2] rfl
  refine va_callv (va_runI (As := []) (rest := [.ref q_160, .int 12, .ref q_1]) ⟨hx, hb, hml, hown, hts⟩ (c_X7_init l dC dI H.size q_160) (cwI 0 hts gf_c_X3_init_c_X7_init rfl rfl rfl (hts (.initialized RX7) (List.mem_of_getElem? (i := 7) rfl)) (hts (.methodLink RX3 17 yX7_init) (List.mem_of_getElem? (i := 20) rfl)) (hts (.instanceMethod yX7_init) (List.mem_of_getElem? (i := 21) rfl)) rfl (by decide +kernel) ⟨Nat.le_of_ble_eq_true rfl, Nat.le_of_ble_eq_true rfl⟩) ⟨fun a U g mk q => by obtain ⟨q0, q1, qP, qK, qD⟩ := q; exact ⟨q0, q1, qP, va_K.moved (u := U) (U := U.calling g mk a) (Vm.Alike.refl U.vm) qK, qD⟩, fun U hU hW => ⟨rfl, by rw [hU], by rw [hU]; exact hPc, va_K.moved hW.alike hKc, hDc.weaken (fun _ _ _ _ => trivial)⟩⟩ rfl rfl hl.1 rfl (lv_room (Nat.le_of_ble_eq_true rfl)) dX3_init_30 ⟨Nat.le_of_ble_eq_true rfl, Nat.le_of_ble_eq_true rfl⟩) hS (fun q _ h => hFc q h) hFc (fun u t H1 locs ht hvm hw hB hz1 hk1 hS => ?_)
  obtain ⟨q_162, q_163, q_164, q_165, q_166, q_167, q_168, q_169, q_170, hP1, hK1, hD1⟩ := hB
  rw [ht] at hP1
  have hK1 := va_K.moved hvm.symm hK1
  obtain ⟨hP, hD⟩ := va_join (wr := [(h0, .inr (3, [.ref q_1, .int 0, .int 0, .null, .null, .null, .int 0])), (q_1, .inl (k_2, 40, .inr (.inr (.inr (.inr f_158)))))]) (w1 := [(q_160, .inr (7, [.int 0, .int 0, .int 0, .int 0, .ref q_162, .ref q_163, .ref q_164, .ref q_165, .ref q_166, .ref q_167, .ref q_168, .ref q_169, .ref q_170]))]) hP hD [2] [0, 1] rfl rfl (by decide) (by decide) hk1 hFc hP1 hD1
  generalize H1 = H at hP hS ⊢
  have hP : va_P (dC, dI) vwCl [(h0, .inr (3, [.ref q_1, .int 0, .int 0, .null, .null, .null, .int 0])), (q_1, .inl (k_2, 40, .inr (.inr (.inr (.inr f_158))))), (q_160, .inr (7, [.int 0, .int 0, .int 0, .int 0, .ref q_162, .ref q_163, .ref q_164, .ref q_165, .ref q_166, .ref q_167, .ref q_168, .ref q_169, .ref q_170]))] H := hP
  have hD : va_D A [(h0, .inr (3, [.ref q_1, .int 0, .int 0, .null, .null, .null, .int 0])), (q_1, .inl (k_2, 40, .inr (.inr (.inr (.inr f_158))))), (q_160, .inr (7, [.int 0, .int 0, .int 0, .int 0, .ref q_162, .ref q_163, .ref q_164, .ref q_165, .ref q_166, .ref q_167, .ref q_168, .ref q_169, .ref q_170]))] := hD
  refine W.widen (k := 131) (n := 963) (by decide) (by decide) ?_
  refine va_astq (r := (RX7, TX7, 13)) hx hb hK hP hD hS 1 0 2 7 rfl rfl rfl rfl (by unfold vp_in; decide) dX3_init_33 (fun H locs hP hD hS => ?_)
  have hP : va_P (dC, dI) vwCl [(h0, .inr (3, [.ref q_1, .int 0, .int 0, .null, .null, .null, .int 0])), (q_1, .inl (k_2, 40, .inr (.inr (.inr (.inr (va_up f_158 (12 : Int32).toNatClampNeg (some q_160))))))), (q_160, .inr (7, [.int 0, .int 0, .int 0, .int 0, .ref q_162, .ref q_163, .ref q_164, .ref q_165, .ref q_166, .ref q_167, .ref q_168, .ref q_169, .ref q_170]))] H := hP
  have hD : va_D A [(h0, .inr (3, [.ref q_1, .int 0, .int 0, .null, .null, .null, .int 0])), (q_1, .inl (k_2, 40, .inr (.inr (.inr (.inr (va_up f_158 (12 : Int32).toNatClampNeg (some q_160))))))), (q_160, .inr (7, [.int 0, .int 0, .int 0, .int 0, .ref q_162, .ref q_163, .ref q_164, .ref q_165, .ref q_166, .ref q_167, .ref q_168, .ref q_169, .ref q_170]))] := hD
  refine lv_iinc (v := 13) (lv' := [(1, .int 13), (0, .ref h0)]) hx hb dX3_init_34 hl (k := 0) rfl (by decide) (by decide) rfl (fun ls hl => ?_)
  refine lv_goto (tgt := 15) hx hb dX3_init_37 (by decide) ?_
  have hP := hP.sub (ws' := [(h0, .inr (3, [.ref q_1, .int 0, .int 0, .null, .null, .null, .int 0])), (q_1, .inl (k_2, 40, .inr (.inr (.inr (.inr (va_up f_158 (12 : Int32).toNatClampNeg (some q_160)))))))]) [0, 1] rfl
  have hD := hD.sub (ws' := [(h0, .inr (3, [.ref q_1, .int 0, .int 0, .null, .null, .null, .int 0])), (q_1, .inl (k_2, 40, .inr (.inr (.inr (.inr (va_up f_158 (12 : Int32).toNatClampNeg (some q_160)))))))]) [0, 1] (by decide) rfl
  generalize (va_up f_158 (12 : Int32).toNatClampNeg (some q_160)) = f_171 at hP hD
  have hP : va_P (dC, dI) vwCl [(h0, .inr (3, [.ref q_1, .int 0, .int 0, .null, .null, .null, .int 0])), (q_1, .inl (k_2, 40, .inr (.inr (.inr (.inr f_171)))))] H := hP
  have hD : va_D A [(h0, .inr (3, [.ref q_1, .int 0, .int 0, .null, .null, .null, .int 0])), (q_1, .inl (k_2, 40, .inr (.inr (.inr (.inr f_171)))))] := hD
  refine lv_iload_n hx hb dX3_init_15 rfl (lv_at hl 0 rfl) ?_
  refine lv_bipush (v := 40) hx hb dX3_init_16 (by decide) ?_
  refine lv_icmp_ge (tgt := 40) hx hb dX3_init_18 (by decide) (fun c_172 => absurd c_172 (by decide)) (fun c_172 => ?_)
  refine lv_aload_n hx hb dX3_init_21 rfl (lv_at hl 1 rfl) ?_
  refine va_get (D := (dC, dI)) (ci := 3) (v := .ref q_1) (C := RX3) (T := TX3) (N := 7) hx hb hts iw_c_X3_init_X3 hown hK hP 0 rfl rfl 0 (by decide) (hts (.fieldLink RX3 13 "BuoyVote$History" "before" "[LBuoyVote$Sea;") (List.mem_of_getElem? (i := 5) rfl)) (fun _ h9 => h9) rfl dX3_init_22 ?_
  refine lv_iload_n hx hb dX3_init_25 rfl (lv_at hl 0 rfl) ?_
  refine va_new (ci := 7) (fs := [.int 0, .int 0, .int 0, .int 0, .null, .null, .null, .null, .null, .null, .null, .null, .null]) (C := RX7) (T := TX7) (N := 13) hx hb hts iw_c_X3_init_X7 tyX7 tyX7_ok hown (hts (.classLink RX3 11 RX7) (List.mem_of_getElem? (i := 4) rfl)) (hts (.instantiable RX7 13) (List.mem_of_getElem? (i := 6) rfl)) (hts (.initialized RX7) (List.mem_of_getElem? (i := 7) rfl)) hK hP hD hS hA rfl (vn_X7) (Nat.le_of_ble_eq_true rfl) (Nat.le_of_ble_eq_true rfl) dX3_init_26 (fun q_173 H hP hD hS => ?_)
  have hP : va_P (dC, dI) vwCl [(h0, .inr (3, [.ref q_1, .int 0, .int 0, .null, .null, .null, .int 0])), (q_1, .inl (k_2, 40, .inr (.inr (.inr (.inr f_171))))), (q_173, .inr (7, [.int 0, .int 0, .int 0, .int 0, .null, .null, .null, .null, .null, .null, .null, .null, .null]))] H := hP
  have hD : va_D A [(h0, .inr (3, [.ref q_1, .int 0, .int 0, .null, .null, .null, .int 0])), (q_1, .inl (k_2, 40, .inr (.inr (.inr (.inr f_171))))), (q_173, .inr (7, [.int 0, .int 0, .int 0, .int 0, .null, .null, .null, .null, .null, .null, .null, .null, .null]))] := hD
  refine W.widen (k := 132) (n := 976) (by decide) (by decide) ?_
  refine lv_dup hx hb dX3_init_29 rfl ?_
  have hPc := hP.sub (ws' := [(q_173, .inr (7, [.int 0, .int 0, .int 0, .int 0, .null, .null, .null, .null, .null, .null, .null, .null, .null]))]) [2] rfl
  have hDc := hD.sub (ws' := [(q_173, .inr (7, [.int 0, .int 0, .int 0, .int 0, .null, .null, .null, .null, .null, .null, .null, .null, .null]))]) [2] (by decide) rfl
  have hKc := hK.sub (tys' := []) [] rfl
  have hFc := va_free (wc := [(q_173, .inr (7, [.int 0, .int 0, .int 0, .int 0, .null, .null, .null, .null, .null, .null, .null, .null, .null]))]) hD hS hA [2] rfl
  refine va_callv (va_runI (As := []) (rest := [.ref q_173, .int 13, .ref q_1]) ⟨hx, hb, hml, hown, hts⟩ (c_X7_init l dC dI H.size q_173) (cwI 0 hts gf_c_X3_init_c_X7_init rfl rfl rfl (hts (.initialized RX7) (List.mem_of_getElem? (i := 7) rfl)) (hts (.methodLink RX3 17 yX7_init) (List.mem_of_getElem? (i := 20) rfl)) (hts (.instanceMethod yX7_init) (List.mem_of_getElem? (i := 21) rfl)) rfl (by decide +kernel) ⟨Nat.le_of_ble_eq_true rfl, Nat.le_of_ble_eq_true rfl⟩) ⟨fun a U g mk q => by obtain ⟨q0, q1, qP, qK, qD⟩ := q; exact ⟨q0, q1, qP, va_K.moved (u := U) (U := U.calling g mk a) (Vm.Alike.refl U.vm) qK, qD⟩, fun U hU hW => ⟨rfl, by rw [hU], by rw [hU]; exact hPc, va_K.moved hW.alike hKc, hDc.weaken (fun _ _ _ _ => trivial)⟩⟩ rfl rfl hl.1 rfl (lv_room (Nat.le_of_ble_eq_true rfl)) dX3_init_30 ⟨Nat.le_of_ble_eq_true rfl, Nat.le_of_ble_eq_true rfl⟩) hS (fun q _ h => hFc q h) hFc (fun u t H1 locs ht hvm hw hB hz1 hk1 hS => ?_)
  obtain ⟨q_175, q_176, q_177, q_178, q_179, q_180, q_181, q_182, q_183, hP1, hK1, hD1⟩ := hB
  rw [ht] at hP1
  have hK1 := va_K.moved hvm.symm hK1
  obtain ⟨hP, hD⟩ := va_join (wr := [(h0, .inr (3, [.ref q_1, .int 0, .int 0, .null, .null, .null, .int 0])), (q_1, .inl (k_2, 40, .inr (.inr (.inr (.inr f_171)))))]) (w1 := [(q_173, .inr (7, [.int 0, .int 0, .int 0, .int 0, .ref q_175, .ref q_176, .ref q_177, .ref q_178, .ref q_179, .ref q_180, .ref q_181, .ref q_182, .ref q_183]))]) hP hD [2] [0, 1] rfl rfl (by decide) (by decide) hk1 hFc hP1 hD1
  generalize H1 = H at hP hS ⊢
  have hP : va_P (dC, dI) vwCl [(h0, .inr (3, [.ref q_1, .int 0, .int 0, .null, .null, .null, .int 0])), (q_1, .inl (k_2, 40, .inr (.inr (.inr (.inr f_171))))), (q_173, .inr (7, [.int 0, .int 0, .int 0, .int 0, .ref q_175, .ref q_176, .ref q_177, .ref q_178, .ref q_179, .ref q_180, .ref q_181, .ref q_182, .ref q_183]))] H := hP
  have hD : va_D A [(h0, .inr (3, [.ref q_1, .int 0, .int 0, .null, .null, .null, .int 0])), (q_1, .inl (k_2, 40, .inr (.inr (.inr (.inr f_171))))), (q_173, .inr (7, [.int 0, .int 0, .int 0, .int 0, .ref q_175, .ref q_176, .ref q_177, .ref q_178, .ref q_179, .ref q_180, .ref q_181, .ref q_182, .ref q_183]))] := hD
  refine W.widen (k := 141) (n := 1034) (by decide) (by decide) ?_
  refine va_astq (r := (RX7, TX7, 13)) hx hb hK hP hD hS 1 0 2 7 rfl rfl rfl rfl (by unfold vp_in; decide) dX3_init_33 (fun H locs hP hD hS => ?_)
  have hP : va_P (dC, dI) vwCl [(h0, .inr (3, [.ref q_1, .int 0, .int 0, .null, .null, .null, .int 0])), (q_1, .inl (k_2, 40, .inr (.inr (.inr (.inr (va_up f_171 (13 : Int32).toNatClampNeg (some q_173))))))), (q_173, .inr (7, [.int 0, .int 0, .int 0, .int 0, .ref q_175, .ref q_176, .ref q_177, .ref q_178, .ref q_179, .ref q_180, .ref q_181, .ref q_182, .ref q_183]))] H := hP
  have hD : va_D A [(h0, .inr (3, [.ref q_1, .int 0, .int 0, .null, .null, .null, .int 0])), (q_1, .inl (k_2, 40, .inr (.inr (.inr (.inr (va_up f_171 (13 : Int32).toNatClampNeg (some q_173))))))), (q_173, .inr (7, [.int 0, .int 0, .int 0, .int 0, .ref q_175, .ref q_176, .ref q_177, .ref q_178, .ref q_179, .ref q_180, .ref q_181, .ref q_182, .ref q_183]))] := hD
  refine lv_iinc (v := 14) (lv' := [(1, .int 14), (0, .ref h0)]) hx hb dX3_init_34 hl (k := 0) rfl (by decide) (by decide) rfl (fun ls hl => ?_)
  refine lv_goto (tgt := 15) hx hb dX3_init_37 (by decide) ?_
  have hP := hP.sub (ws' := [(h0, .inr (3, [.ref q_1, .int 0, .int 0, .null, .null, .null, .int 0])), (q_1, .inl (k_2, 40, .inr (.inr (.inr (.inr (va_up f_171 (13 : Int32).toNatClampNeg (some q_173)))))))]) [0, 1] rfl
  have hD := hD.sub (ws' := [(h0, .inr (3, [.ref q_1, .int 0, .int 0, .null, .null, .null, .int 0])), (q_1, .inl (k_2, 40, .inr (.inr (.inr (.inr (va_up f_171 (13 : Int32).toNatClampNeg (some q_173)))))))]) [0, 1] (by decide) rfl
  generalize (va_up f_171 (13 : Int32).toNatClampNeg (some q_173)) = f_184 at hP hD
  have hP : va_P (dC, dI) vwCl [(h0, .inr (3, [.ref q_1, .int 0, .int 0, .null, .null, .null, .int 0])), (q_1, .inl (k_2, 40, .inr (.inr (.inr (.inr f_184)))))] H := hP
  have hD : va_D A [(h0, .inr (3, [.ref q_1, .int 0, .int 0, .null, .null, .null, .int 0])), (q_1, .inl (k_2, 40, .inr (.inr (.inr (.inr f_184)))))] := hD
  refine lv_iload_n hx hb dX3_init_15 rfl (lv_at hl 0 rfl) ?_
  refine lv_bipush (v := 40) hx hb dX3_init_16 (by decide) ?_
  refine lv_icmp_ge (tgt := 40) hx hb dX3_init_18 (by decide) (fun c_185 => absurd c_185 (by decide)) (fun c_185 => ?_)
  refine lv_aload_n hx hb dX3_init_21 rfl (lv_at hl 1 rfl) ?_
  refine va_get (D := (dC, dI)) (ci := 3) (v := .ref q_1) (C := RX3) (T := TX3) (N := 7) hx hb hts iw_c_X3_init_X3 hown hK hP 0 rfl rfl 0 (by decide) (hts (.fieldLink RX3 13 "BuoyVote$History" "before" "[LBuoyVote$Sea;") (List.mem_of_getElem? (i := 5) rfl)) (fun _ h9 => h9) rfl dX3_init_22 ?_
  refine lv_iload_n hx hb dX3_init_25 rfl (lv_at hl 0 rfl) ?_
  refine va_new (ci := 7) (fs := [.int 0, .int 0, .int 0, .int 0, .null, .null, .null, .null, .null, .null, .null, .null, .null]) (C := RX7) (T := TX7) (N := 13) hx hb hts iw_c_X3_init_X7 tyX7 tyX7_ok hown (hts (.classLink RX3 11 RX7) (List.mem_of_getElem? (i := 4) rfl)) (hts (.instantiable RX7 13) (List.mem_of_getElem? (i := 6) rfl)) (hts (.initialized RX7) (List.mem_of_getElem? (i := 7) rfl)) hK hP hD hS hA rfl (vn_X7) (Nat.le_of_ble_eq_true rfl) (Nat.le_of_ble_eq_true rfl) dX3_init_26 (fun q_186 H hP hD hS => ?_)
  have hP : va_P (dC, dI) vwCl [(h0, .inr (3, [.ref q_1, .int 0, .int 0, .null, .null, .null, .int 0])), (q_1, .inl (k_2, 40, .inr (.inr (.inr (.inr f_184))))), (q_186, .inr (7, [.int 0, .int 0, .int 0, .int 0, .null, .null, .null, .null, .null, .null, .null, .null, .null]))] H := hP
  have hD : va_D A [(h0, .inr (3, [.ref q_1, .int 0, .int 0, .null, .null, .null, .int 0])), (q_1, .inl (k_2, 40, .inr (.inr (.inr (.inr f_184))))), (q_186, .inr (7, [.int 0, .int 0, .int 0, .int 0, .null, .null, .null, .null, .null, .null, .null, .null, .null]))] := hD
  refine W.widen (k := 142) (n := 1047) (by decide) (by decide) ?_
  refine lv_dup hx hb dX3_init_29 rfl ?_
  have hPc := hP.sub (ws' := [(q_186, .inr (7, [.int 0, .int 0, .int 0, .int 0, .null, .null, .null, .null, .null, .null, .null, .null, .null]))]) [2] rfl
  have hDc := hD.sub (ws' := [(q_186, .inr (7, [.int 0, .int 0, .int 0, .int 0, .null, .null, .null, .null, .null, .null, .null, .null, .null]))]) [2] (by decide) rfl
  have hKc := hK.sub (tys' := []) [] rfl
  have hFc := va_free (wc := [(q_186, .inr (7, [.int 0, .int 0, .int 0, .int 0, .null, .null, .null, .null, .null, .null, .null, .null, .null]))]) hD hS hA [2] rfl
  refine va_callv (va_runI (As := []) (rest := [.ref q_186, .int 14, .ref q_1]) ⟨hx, hb, hml, hown, hts⟩ (c_X7_init l dC dI H.size q_186) (cwI 0 hts gf_c_X3_init_c_X7_init rfl rfl rfl (hts (.initialized RX7) (List.mem_of_getElem? (i := 7) rfl)) (hts (.methodLink RX3 17 yX7_init) (List.mem_of_getElem? (i := 20) rfl)) (hts (.instanceMethod yX7_init) (List.mem_of_getElem? (i := 21) rfl)) rfl (by decide +kernel) ⟨Nat.le_of_ble_eq_true rfl, Nat.le_of_ble_eq_true rfl⟩) ⟨fun a U g mk q => by obtain ⟨q0, q1, qP, qK, qD⟩ := q; exact ⟨q0, q1, qP, va_K.moved (u := U) (U := U.calling g mk a) (Vm.Alike.refl U.vm) qK, qD⟩, fun U hU hW => ⟨rfl, by rw [hU], by rw [hU]; exact hPc, va_K.moved hW.alike hKc, hDc.weaken (fun _ _ _ _ => trivial)⟩⟩ rfl rfl hl.1 rfl (lv_room (Nat.le_of_ble_eq_true rfl)) dX3_init_30 ⟨Nat.le_of_ble_eq_true rfl, Nat.le_of_ble_eq_true rfl⟩) hS (fun q _ h => hFc q h) hFc (fun u t H1 locs ht hvm hw hB hz1 hk1 hS => ?_)
  obtain ⟨q_188, q_189, q_190, q_191, q_192, q_193, q_194, q_195, q_196, hP1, hK1, hD1⟩ := hB
  rw [ht] at hP1
  have hK1 := va_K.moved hvm.symm hK1
  obtain ⟨hP, hD⟩ := va_join (wr := [(h0, .inr (3, [.ref q_1, .int 0, .int 0, .null, .null, .null, .int 0])), (q_1, .inl (k_2, 40, .inr (.inr (.inr (.inr f_184)))))]) (w1 := [(q_186, .inr (7, [.int 0, .int 0, .int 0, .int 0, .ref q_188, .ref q_189, .ref q_190, .ref q_191, .ref q_192, .ref q_193, .ref q_194, .ref q_195, .ref q_196]))]) hP hD [2] [0, 1] rfl rfl (by decide) (by decide) hk1 hFc hP1 hD1
  generalize H1 = H at hP hS ⊢
  have hP : va_P (dC, dI) vwCl [(h0, .inr (3, [.ref q_1, .int 0, .int 0, .null, .null, .null, .int 0])), (q_1, .inl (k_2, 40, .inr (.inr (.inr (.inr f_184))))), (q_186, .inr (7, [.int 0, .int 0, .int 0, .int 0, .ref q_188, .ref q_189, .ref q_190, .ref q_191, .ref q_192, .ref q_193, .ref q_194, .ref q_195, .ref q_196]))] H := hP
  have hD : va_D A [(h0, .inr (3, [.ref q_1, .int 0, .int 0, .null, .null, .null, .int 0])), (q_1, .inl (k_2, 40, .inr (.inr (.inr (.inr f_184))))), (q_186, .inr (7, [.int 0, .int 0, .int 0, .int 0, .ref q_188, .ref q_189, .ref q_190, .ref q_191, .ref q_192, .ref q_193, .ref q_194, .ref q_195, .ref q_196]))] := hD
  refine W.widen (k := 151) (n := 1105) (by decide) (by decide) ?_
  refine va_astq (r := (RX7, TX7, 13)) hx hb hK hP hD hS 1 0 2 7 rfl rfl rfl rfl (by unfold vp_in; decide) dX3_init_33 (fun H locs hP hD hS => ?_)
  have hP : va_P (dC, dI) vwCl [(h0, .inr (3, [.ref q_1, .int 0, .int 0, .null, .null, .null, .int 0])), (q_1, .inl (k_2, 40, .inr (.inr (.inr (.inr (va_up f_184 (14 : Int32).toNatClampNeg (some q_186))))))), (q_186, .inr (7, [.int 0, .int 0, .int 0, .int 0, .ref q_188, .ref q_189, .ref q_190, .ref q_191, .ref q_192, .ref q_193, .ref q_194, .ref q_195, .ref q_196]))] H := hP
  have hD : va_D A [(h0, .inr (3, [.ref q_1, .int 0, .int 0, .null, .null, .null, .int 0])), (q_1, .inl (k_2, 40, .inr (.inr (.inr (.inr (va_up f_184 (14 : Int32).toNatClampNeg (some q_186))))))), (q_186, .inr (7, [.int 0, .int 0, .int 0, .int 0, .ref q_188, .ref q_189, .ref q_190, .ref q_191, .ref q_192, .ref q_193, .ref q_194, .ref q_195, .ref q_196]))] := hD
  refine lv_iinc (v := 15) (lv' := [(1, .int 15), (0, .ref h0)]) hx hb dX3_init_34 hl (k := 0) rfl (by decide) (by decide) rfl (fun ls hl => ?_)
  refine lv_goto (tgt := 15) hx hb dX3_init_37 (by decide) ?_
  have hP := hP.sub (ws' := [(h0, .inr (3, [.ref q_1, .int 0, .int 0, .null, .null, .null, .int 0])), (q_1, .inl (k_2, 40, .inr (.inr (.inr (.inr (va_up f_184 (14 : Int32).toNatClampNeg (some q_186)))))))]) [0, 1] rfl
  have hD := hD.sub (ws' := [(h0, .inr (3, [.ref q_1, .int 0, .int 0, .null, .null, .null, .int 0])), (q_1, .inl (k_2, 40, .inr (.inr (.inr (.inr (va_up f_184 (14 : Int32).toNatClampNeg (some q_186)))))))]) [0, 1] (by decide) rfl
  generalize (va_up f_184 (14 : Int32).toNatClampNeg (some q_186)) = f_197 at hP hD
  have hP : va_P (dC, dI) vwCl [(h0, .inr (3, [.ref q_1, .int 0, .int 0, .null, .null, .null, .int 0])), (q_1, .inl (k_2, 40, .inr (.inr (.inr (.inr f_197)))))] H := hP
  have hD : va_D A [(h0, .inr (3, [.ref q_1, .int 0, .int 0, .null, .null, .null, .int 0])), (q_1, .inl (k_2, 40, .inr (.inr (.inr (.inr f_197)))))] := hD
  refine lv_iload_n hx hb dX3_init_15 rfl (lv_at hl 0 rfl) ?_
  refine lv_bipush (v := 40) hx hb dX3_init_16 (by decide) ?_
  refine lv_icmp_ge (tgt := 40) hx hb dX3_init_18 (by decide) (fun c_198 => absurd c_198 (by decide)) (fun c_198 => ?_)
  refine lv_aload_n hx hb dX3_init_21 rfl (lv_at hl 1 rfl) ?_
  refine va_get (D := (dC, dI)) (ci := 3) (v := .ref q_1) (C := RX3) (T := TX3) (N := 7) hx hb hts iw_c_X3_init_X3 hown hK hP 0 rfl rfl 0 (by decide) (hts (.fieldLink RX3 13 "BuoyVote$History" "before" "[LBuoyVote$Sea;") (List.mem_of_getElem? (i := 5) rfl)) (fun _ h9 => h9) rfl dX3_init_22 ?_
  refine lv_iload_n hx hb dX3_init_25 rfl (lv_at hl 0 rfl) ?_
  refine va_new (ci := 7) (fs := [.int 0, .int 0, .int 0, .int 0, .null, .null, .null, .null, .null, .null, .null, .null, .null]) (C := RX7) (T := TX7) (N := 13) hx hb hts iw_c_X3_init_X7 tyX7 tyX7_ok hown (hts (.classLink RX3 11 RX7) (List.mem_of_getElem? (i := 4) rfl)) (hts (.instantiable RX7 13) (List.mem_of_getElem? (i := 6) rfl)) (hts (.initialized RX7) (List.mem_of_getElem? (i := 7) rfl)) hK hP hD hS hA rfl (vn_X7) (Nat.le_of_ble_eq_true rfl) (Nat.le_of_ble_eq_true rfl) dX3_init_26 (fun q_199 H hP hD hS => ?_)
  have hP : va_P (dC, dI) vwCl [(h0, .inr (3, [.ref q_1, .int 0, .int 0, .null, .null, .null, .int 0])), (q_1, .inl (k_2, 40, .inr (.inr (.inr (.inr f_197))))), (q_199, .inr (7, [.int 0, .int 0, .int 0, .int 0, .null, .null, .null, .null, .null, .null, .null, .null, .null]))] H := hP
  have hD : va_D A [(h0, .inr (3, [.ref q_1, .int 0, .int 0, .null, .null, .null, .int 0])), (q_1, .inl (k_2, 40, .inr (.inr (.inr (.inr f_197))))), (q_199, .inr (7, [.int 0, .int 0, .int 0, .int 0, .null, .null, .null, .null, .null, .null, .null, .null, .null]))] := hD
  refine W.widen (k := 152) (n := 1118) (by decide) (by decide) ?_
  refine lv_dup hx hb dX3_init_29 rfl ?_
  have hPc := hP.sub (ws' := [(q_199, .inr (7, [.int 0, .int 0, .int 0, .int 0, .null, .null, .null, .null, .null, .null, .null, .null, .null]))]) [2] rfl
  have hDc := hD.sub (ws' := [(q_199, .inr (7, [.int 0, .int 0, .int 0, .int 0, .null, .null, .null, .null, .null, .null, .null, .null, .null]))]) [2] (by decide) rfl
  have hKc := hK.sub (tys' := []) [] rfl
  have hFc := va_free (wc := [(q_199, .inr (7, [.int 0, .int 0, .int 0, .int 0, .null, .null, .null, .null, .null, .null, .null, .null, .null]))]) hD hS hA [2] rfl
  refine va_callv (va_runI (As := []) (rest := [.ref q_199, .int 15, .ref q_1]) ⟨hx, hb, hml, hown, hts⟩ (c_X7_init l dC dI H.size q_199) (cwI 0 hts gf_c_X3_init_c_X7_init rfl rfl rfl (hts (.initialized RX7) (List.mem_of_getElem? (i := 7) rfl)) (hts (.methodLink RX3 17 yX7_init) (List.mem_of_getElem? (i := 20) rfl)) (hts (.instanceMethod yX7_init) (List.mem_of_getElem? (i := 21) rfl)) rfl (by decide +kernel) ⟨Nat.le_of_ble_eq_true rfl, Nat.le_of_ble_eq_true rfl⟩) ⟨fun a U g mk q => by obtain ⟨q0, q1, qP, qK, qD⟩ := q; exact ⟨q0, q1, qP, va_K.moved (u := U) (U := U.calling g mk a) (Vm.Alike.refl U.vm) qK, qD⟩, fun U hU hW => ⟨rfl, by rw [hU], by rw [hU]; exact hPc, va_K.moved hW.alike hKc, hDc.weaken (fun _ _ _ _ => trivial)⟩⟩ rfl rfl hl.1 rfl (lv_room (Nat.le_of_ble_eq_true rfl)) dX3_init_30 ⟨Nat.le_of_ble_eq_true rfl, Nat.le_of_ble_eq_true rfl⟩) hS (fun q _ h => hFc q h) hFc (fun u t H1 locs ht hvm hw hB hz1 hk1 hS => ?_)
  obtain ⟨q_201, q_202, q_203, q_204, q_205, q_206, q_207, q_208, q_209, hP1, hK1, hD1⟩ := hB
  rw [ht] at hP1
  have hK1 := va_K.moved hvm.symm hK1
  obtain ⟨hP, hD⟩ := va_join (wr := [(h0, .inr (3, [.ref q_1, .int 0, .int 0, .null, .null, .null, .int 0])), (q_1, .inl (k_2, 40, .inr (.inr (.inr (.inr f_197)))))]) (w1 := [(q_199, .inr (7, [.int 0, .int 0, .int 0, .int 0, .ref q_201, .ref q_202, .ref q_203, .ref q_204, .ref q_205, .ref q_206, .ref q_207, .ref q_208, .ref q_209]))]) hP hD [2] [0, 1] rfl rfl (by decide) (by decide) hk1 hFc hP1 hD1
  generalize H1 = H at hP hS ⊢
  have hP : va_P (dC, dI) vwCl [(h0, .inr (3, [.ref q_1, .int 0, .int 0, .null, .null, .null, .int 0])), (q_1, .inl (k_2, 40, .inr (.inr (.inr (.inr f_197))))), (q_199, .inr (7, [.int 0, .int 0, .int 0, .int 0, .ref q_201, .ref q_202, .ref q_203, .ref q_204, .ref q_205, .ref q_206, .ref q_207, .ref q_208, .ref q_209]))] H := hP
  have hD : va_D A [(h0, .inr (3, [.ref q_1, .int 0, .int 0, .null, .null, .null, .int 0])), (q_1, .inl (k_2, 40, .inr (.inr (.inr (.inr f_197))))), (q_199, .inr (7, [.int 0, .int 0, .int 0, .int 0, .ref q_201, .ref q_202, .ref q_203, .ref q_204, .ref q_205, .ref q_206, .ref q_207, .ref q_208, .ref q_209]))] := hD
  refine W.widen (k := 161) (n := 1176) (by decide) (by decide) ?_
  refine va_astq (r := (RX7, TX7, 13)) hx hb hK hP hD hS 1 0 2 7 rfl rfl rfl rfl (by unfold vp_in; decide) dX3_init_33 (fun H locs hP hD hS => ?_)
  have hP : va_P (dC, dI) vwCl [(h0, .inr (3, [.ref q_1, .int 0, .int 0, .null, .null, .null, .int 0])), (q_1, .inl (k_2, 40, .inr (.inr (.inr (.inr (va_up f_197 (15 : Int32).toNatClampNeg (some q_199))))))), (q_199, .inr (7, [.int 0, .int 0, .int 0, .int 0, .ref q_201, .ref q_202, .ref q_203, .ref q_204, .ref q_205, .ref q_206, .ref q_207, .ref q_208, .ref q_209]))] H := hP
  have hD : va_D A [(h0, .inr (3, [.ref q_1, .int 0, .int 0, .null, .null, .null, .int 0])), (q_1, .inl (k_2, 40, .inr (.inr (.inr (.inr (va_up f_197 (15 : Int32).toNatClampNeg (some q_199))))))), (q_199, .inr (7, [.int 0, .int 0, .int 0, .int 0, .ref q_201, .ref q_202, .ref q_203, .ref q_204, .ref q_205, .ref q_206, .ref q_207, .ref q_208, .ref q_209]))] := hD
  refine lv_iinc (v := 16) (lv' := [(1, .int 16), (0, .ref h0)]) hx hb dX3_init_34 hl (k := 0) rfl (by decide) (by decide) rfl (fun ls hl => ?_)
  refine lv_goto (tgt := 15) hx hb dX3_init_37 (by decide) ?_
  have hP := hP.sub (ws' := [(h0, .inr (3, [.ref q_1, .int 0, .int 0, .null, .null, .null, .int 0])), (q_1, .inl (k_2, 40, .inr (.inr (.inr (.inr (va_up f_197 (15 : Int32).toNatClampNeg (some q_199)))))))]) [0, 1] rfl
  have hD := hD.sub (ws' := [(h0, .inr (3, [.ref q_1, .int 0, .int 0, .null, .null, .null, .int 0])), (q_1, .inl (k_2, 40, .inr (.inr (.inr (.inr (va_up f_197 (15 : Int32).toNatClampNeg (some q_199)))))))]) [0, 1] (by decide) rfl
  generalize (va_up f_197 (15 : Int32).toNatClampNeg (some q_199)) = f_210 at hP hD
  have hP : va_P (dC, dI) vwCl [(h0, .inr (3, [.ref q_1, .int 0, .int 0, .null, .null, .null, .int 0])), (q_1, .inl (k_2, 40, .inr (.inr (.inr (.inr f_210)))))] H := hP
  have hD : va_D A [(h0, .inr (3, [.ref q_1, .int 0, .int 0, .null, .null, .null, .int 0])), (q_1, .inl (k_2, 40, .inr (.inr (.inr (.inr f_210)))))] := hD
  refine lv_iload_n hx hb dX3_init_15 rfl (lv_at hl 0 rfl) ?_
  refine lv_bipush (v := 40) hx hb dX3_init_16 (by decide) ?_
  refine lv_icmp_ge (tgt := 40) hx hb dX3_init_18 (by decide) (fun c_211 => absurd c_211 (by decide)) (fun c_211 => ?_)
  refine lv_aload_n hx hb dX3_init_21 rfl (lv_at hl 1 rfl) ?_
  refine va_get (D := (dC, dI)) (ci := 3) (v := .ref q_1) (C := RX3) (T := TX3) (N := 7) hx hb hts iw_c_X3_init_X3 hown hK hP 0 rfl rfl 0 (by decide) (hts (.fieldLink RX3 13 "BuoyVote$History" "before" "[LBuoyVote$Sea;") (List.mem_of_getElem? (i := 5) rfl)) (fun _ h9 => h9) rfl dX3_init_22 ?_
  refine lv_iload_n hx hb dX3_init_25 rfl (lv_at hl 0 rfl) ?_
  refine va_new (ci := 7) (fs := [.int 0, .int 0, .int 0, .int 0, .null, .null, .null, .null, .null, .null, .null, .null, .null]) (C := RX7) (T := TX7) (N := 13) hx hb hts iw_c_X3_init_X7 tyX7 tyX7_ok hown (hts (.classLink RX3 11 RX7) (List.mem_of_getElem? (i := 4) rfl)) (hts (.instantiable RX7 13) (List.mem_of_getElem? (i := 6) rfl)) (hts (.initialized RX7) (List.mem_of_getElem? (i := 7) rfl)) hK hP hD hS hA rfl (vn_X7) (Nat.le_of_ble_eq_true rfl) (Nat.le_of_ble_eq_true rfl) dX3_init_26 (fun q_212 H hP hD hS => ?_)
  have hP : va_P (dC, dI) vwCl [(h0, .inr (3, [.ref q_1, .int 0, .int 0, .null, .null, .null, .int 0])), (q_1, .inl (k_2, 40, .inr (.inr (.inr (.inr f_210))))), (q_212, .inr (7, [.int 0, .int 0, .int 0, .int 0, .null, .null, .null, .null, .null, .null, .null, .null, .null]))] H := hP
  have hD : va_D A [(h0, .inr (3, [.ref q_1, .int 0, .int 0, .null, .null, .null, .int 0])), (q_1, .inl (k_2, 40, .inr (.inr (.inr (.inr f_210))))), (q_212, .inr (7, [.int 0, .int 0, .int 0, .int 0, .null, .null, .null, .null, .null, .null, .null, .null, .null]))] := hD
  refine W.widen (k := 162) (n := 1189) (by decide) (by decide) ?_
  refine lv_dup hx hb dX3_init_29 rfl ?_
  have hPc := hP.sub (ws' := [(q_212, .inr (7, [.int 0, .int 0, .int 0, .int 0, .null, .null, .null, .null, .null, .null, .null, .null, .null]))]) [2] rfl
  have hDc := hD.sub (ws' := [(q_212, .inr (7, [.int 0, .int 0, .int 0, .int 0, .null, .null, .null, .null, .null, .null, .null, .null, .null]))]) [2] (by decide) rfl
  have hKc := hK.sub (tys' := []) [] rfl
  have hFc := va_free (wc := [(q_212, .inr (7, [.int 0, .int 0, .int 0, .int 0, .null, .null, .null, .null, .null, .null, .null, .null, .null]))]) hD hS hA [2] rfl
  refine va_callv (va_runI (As := []) (rest := [.ref q_212, .int 16, .ref q_1]) ⟨hx, hb, hml, hown, hts⟩ (c_X7_init l dC dI H.size q_212) (cwI 0 hts gf_c_X3_init_c_X7_init rfl rfl rfl (hts (.initialized RX7) (List.mem_of_getElem? (i := 7) rfl)) (hts (.methodLink RX3 17 yX7_init) (List.mem_of_getElem? (i := 20) rfl)) (hts (.instanceMethod yX7_init) (List.mem_of_getElem? (i := 21) rfl)) rfl (by decide +kernel) ⟨Nat.le_of_ble_eq_true rfl, Nat.le_of_ble_eq_true rfl⟩) ⟨fun a U g mk q => by obtain ⟨q0, q1, qP, qK, qD⟩ := q; exact ⟨q0, q1, qP, va_K.moved (u := U) (U := U.calling g mk a) (Vm.Alike.refl U.vm) qK, qD⟩, fun U hU hW => ⟨rfl, by rw [hU], by rw [hU]; exact hPc, va_K.moved hW.alike hKc, hDc.weaken (fun _ _ _ _ => trivial)⟩⟩ rfl rfl hl.1 rfl (lv_room (Nat.le_of_ble_eq_true rfl)) dX3_init_30 ⟨Nat.le_of_ble_eq_true rfl, Nat.le_of_ble_eq_true rfl⟩) hS (fun q _ h => hFc q h) hFc (fun u t H1 locs ht hvm hw hB hz1 hk1 hS => ?_)
  obtain ⟨q_214, q_215, q_216, q_217, q_218, q_219, q_220, q_221, q_222, hP1, hK1, hD1⟩ := hB
  rw [ht] at hP1
  have hK1 := va_K.moved hvm.symm hK1
  obtain ⟨hP, hD⟩ := va_join (wr := [(h0, .inr (3, [.ref q_1, .int 0, .int 0, .null, .null, .null, .int 0])), (q_1, .inl (k_2, 40, .inr (.inr (.inr (.inr f_210)))))]) (w1 := [(q_212, .inr (7, [.int 0, .int 0, .int 0, .int 0, .ref q_214, .ref q_215, .ref q_216, .ref q_217, .ref q_218, .ref q_219, .ref q_220, .ref q_221, .ref q_222]))]) hP hD [2] [0, 1] rfl rfl (by decide) (by decide) hk1 hFc hP1 hD1
  generalize H1 = H at hP hS ⊢
  have hP : va_P (dC, dI) vwCl [(h0, .inr (3, [.ref q_1, .int 0, .int 0, .null, .null, .null, .int 0])), (q_1, .inl (k_2, 40, .inr (.inr (.inr (.inr f_210))))), (q_212, .inr (7, [.int 0, .int 0, .int 0, .int 0, .ref q_214, .ref q_215, .ref q_216, .ref q_217, .ref q_218, .ref q_219, .ref q_220, .ref q_221, .ref q_222]))] H := hP
  have hD : va_D A [(h0, .inr (3, [.ref q_1, .int 0, .int 0, .null, .null, .null, .int 0])), (q_1, .inl (k_2, 40, .inr (.inr (.inr (.inr f_210))))), (q_212, .inr (7, [.int 0, .int 0, .int 0, .int 0, .ref q_214, .ref q_215, .ref q_216, .ref q_217, .ref q_218, .ref q_219, .ref q_220, .ref q_221, .ref q_222]))] := hD
  refine W.widen (k := 171) (n := 1247) (by decide) (by decide) ?_
  refine va_astq (r := (RX7, TX7, 13)) hx hb hK hP hD hS 1 0 2 7 rfl rfl rfl rfl (by unfold vp_in; decide) dX3_init_33 (fun H locs hP hD hS => ?_)
  have hP : va_P (dC, dI) vwCl [(h0, .inr (3, [.ref q_1, .int 0, .int 0, .null, .null, .null, .int 0])), (q_1, .inl (k_2, 40, .inr (.inr (.inr (.inr (va_up f_210 (16 : Int32).toNatClampNeg (some q_212))))))), (q_212, .inr (7, [.int 0, .int 0, .int 0, .int 0, .ref q_214, .ref q_215, .ref q_216, .ref q_217, .ref q_218, .ref q_219, .ref q_220, .ref q_221, .ref q_222]))] H := hP
  have hD : va_D A [(h0, .inr (3, [.ref q_1, .int 0, .int 0, .null, .null, .null, .int 0])), (q_1, .inl (k_2, 40, .inr (.inr (.inr (.inr (va_up f_210 (16 : Int32).toNatClampNeg (some q_212))))))), (q_212, .inr (7, [.int 0, .int 0, .int 0, .int 0, .ref q_214, .ref q_215, .ref q_216, .ref q_217, .ref q_218, .ref q_219, .ref q_220, .ref q_221, .ref q_222]))] := hD
  refine lv_iinc (v := 17) (lv' := [(1, .int 17), (0, .ref h0)]) hx hb dX3_init_34 hl (k := 0) rfl (by decide) (by decide) rfl (fun ls hl => ?_)
  refine lv_goto (tgt := 15) hx hb dX3_init_37 (by decide) ?_
  have hP := hP.sub (ws' := [(h0, .inr (3, [.ref q_1, .int 0, .int 0, .null, .null, .null, .int 0])), (q_1, .inl (k_2, 40, .inr (.inr (.inr (.inr (va_up f_210 (16 : Int32).toNatClampNeg (some q_212)))))))]) [0, 1] rfl
  have hD := hD.sub (ws' := [(h0, .inr (3, [.ref q_1, .int 0, .int 0, .null, .null, .null, .int 0])), (q_1, .inl (k_2, 40, .inr (.inr (.inr (.inr (va_up f_210 (16 : Int32).toNatClampNeg (some q_212)))))))]) [0, 1] (by decide) rfl
  generalize (va_up f_210 (16 : Int32).toNatClampNeg (some q_212)) = f_223 at hP hD
  have hP : va_P (dC, dI) vwCl [(h0, .inr (3, [.ref q_1, .int 0, .int 0, .null, .null, .null, .int 0])), (q_1, .inl (k_2, 40, .inr (.inr (.inr (.inr f_223)))))] H := hP
  have hD : va_D A [(h0, .inr (3, [.ref q_1, .int 0, .int 0, .null, .null, .null, .int 0])), (q_1, .inl (k_2, 40, .inr (.inr (.inr (.inr f_223)))))] := hD
  refine lv_iload_n hx hb dX3_init_15 rfl (lv_at hl 0 rfl) ?_
  refine lv_bipush (v := 40) hx hb dX3_init_16 (by decide) ?_
  refine lv_icmp_ge (tgt := 40) hx hb dX3_init_18 (by decide) (fun c_224 => absurd c_224 (by decide)) (fun c_224 => ?_)
  refine lv_aload_n hx hb dX3_init_21 rfl (lv_at hl 1 rfl) ?_
  refine va_get (D := (dC, dI)) (ci := 3) (v := .ref q_1) (C := RX3) (T := TX3) (N := 7) hx hb hts iw_c_X3_init_X3 hown hK hP 0 rfl rfl 0 (by decide) (hts (.fieldLink RX3 13 "BuoyVote$History" "before" "[LBuoyVote$Sea;") (List.mem_of_getElem? (i := 5) rfl)) (fun _ h9 => h9) rfl dX3_init_22 ?_
  refine lv_iload_n hx hb dX3_init_25 rfl (lv_at hl 0 rfl) ?_
  refine va_new (ci := 7) (fs := [.int 0, .int 0, .int 0, .int 0, .null, .null, .null, .null, .null, .null, .null, .null, .null]) (C := RX7) (T := TX7) (N := 13) hx hb hts iw_c_X3_init_X7 tyX7 tyX7_ok hown (hts (.classLink RX3 11 RX7) (List.mem_of_getElem? (i := 4) rfl)) (hts (.instantiable RX7 13) (List.mem_of_getElem? (i := 6) rfl)) (hts (.initialized RX7) (List.mem_of_getElem? (i := 7) rfl)) hK hP hD hS hA rfl (vn_X7) (Nat.le_of_ble_eq_true rfl) (Nat.le_of_ble_eq_true rfl) dX3_init_26 (fun q_225 H hP hD hS => ?_)
  have hP : va_P (dC, dI) vwCl [(h0, .inr (3, [.ref q_1, .int 0, .int 0, .null, .null, .null, .int 0])), (q_1, .inl (k_2, 40, .inr (.inr (.inr (.inr f_223))))), (q_225, .inr (7, [.int 0, .int 0, .int 0, .int 0, .null, .null, .null, .null, .null, .null, .null, .null, .null]))] H := hP
  have hD : va_D A [(h0, .inr (3, [.ref q_1, .int 0, .int 0, .null, .null, .null, .int 0])), (q_1, .inl (k_2, 40, .inr (.inr (.inr (.inr f_223))))), (q_225, .inr (7, [.int 0, .int 0, .int 0, .int 0, .null, .null, .null, .null, .null, .null, .null, .null, .null]))] := hD
  refine W.widen (k := 172) (n := 1260) (by decide) (by decide) ?_
  refine lv_dup hx hb dX3_init_29 rfl ?_
  have hPc := hP.sub (ws' := [(q_225, .inr (7, [.int 0, .int 0, .int 0, .int 0, .null, .null, .null, .null, .null, .null, .null, .null, .null]))]) [2] rfl
  have hDc := hD.sub (ws' := [(q_225, .inr (7, [.int 0, .int 0, .int 0, .int 0, .null, .null, .null, .null, .null, .null, .null, .null, .null]))]) [2] (by decide) rfl
  have hKc := hK.sub (tys' := []) [] rfl
  have hFc := va_free (wc := [(q_225, .inr (7, [.int 0, .int 0, .int 0, .int 0, .null, .null, .null, .null, .null, .null, .null, .null, .null]))]) hD hS hA [2] rfl
  refine va_callv (va_runI (As := []) (rest := [.ref q_225, .int 17, .ref q_1]) ⟨hx, hb, hml, hown, hts⟩ (c_X7_init l dC dI H.size q_225) (cwI 0 hts gf_c_X3_init_c_X7_init rfl rfl rfl (hts (.initialized RX7) (List.mem_of_getElem? (i := 7) rfl)) (hts (.methodLink RX3 17 yX7_init) (List.mem_of_getElem? (i := 20) rfl)) (hts (.instanceMethod yX7_init) (List.mem_of_getElem? (i := 21) rfl)) rfl (by decide +kernel) ⟨Nat.le_of_ble_eq_true rfl, Nat.le_of_ble_eq_true rfl⟩) ⟨fun a U g mk q => by obtain ⟨q0, q1, qP, qK, qD⟩ := q; exact ⟨q0, q1, qP, va_K.moved (u := U) (U := U.calling g mk a) (Vm.Alike.refl U.vm) qK, qD⟩, fun U hU hW => ⟨rfl, by rw [hU], by rw [hU]; exact hPc, va_K.moved hW.alike hKc, hDc.weaken (fun _ _ _ _ => trivial)⟩⟩ rfl rfl hl.1 rfl (lv_room (Nat.le_of_ble_eq_true rfl)) dX3_init_30 ⟨Nat.le_of_ble_eq_true rfl, Nat.le_of_ble_eq_true rfl⟩) hS (fun q _ h => hFc q h) hFc (fun u t H1 locs ht hvm hw hB hz1 hk1 hS => ?_)
  obtain ⟨q_227, q_228, q_229, q_230, q_231, q_232, q_233, q_234, q_235, hP1, hK1, hD1⟩ := hB
  rw [ht] at hP1
  have hK1 := va_K.moved hvm.symm hK1
  obtain ⟨hP, hD⟩ := va_join (wr := [(h0, .inr (3, [.ref q_1, .int 0, .int 0, .null, .null, .null, .int 0])), (q_1, .inl (k_2, 40, .inr (.inr (.inr (.inr f_223)))))]) (w1 := [(q_225, .inr (7, [.int 0, .int 0, .int 0, .int 0, .ref q_227, .ref q_228, .ref q_229, .ref q_230, .ref q_231, .ref q_232, .ref q_233, .ref q_234, .ref q_235]))]) hP hD [2] [0, 1] rfl rfl (by decide) (by decide) hk1 hFc hP1 hD1
  generalize H1 = H at hP hS ⊢
  have hP : va_P (dC, dI) vwCl [(h0, .inr (3, [.ref q_1, .int 0, .int 0, .null, .null, .null, .int 0])), (q_1, .inl (k_2, 40, .inr (.inr (.inr (.inr f_223))))), (q_225, .inr (7, [.int 0, .int 0, .int 0, .int 0, .ref q_227, .ref q_228, .ref q_229, .ref q_230, .ref q_231, .ref q_232, .ref q_233, .ref q_234, .ref q_235]))] H := hP
  have hD : va_D A [(h0, .inr (3, [.ref q_1, .int 0, .int 0, .null, .null, .null, .int 0])), (q_1, .inl (k_2, 40, .inr (.inr (.inr (.inr f_223))))), (q_225, .inr (7, [.int 0, .int 0, .int 0, .int 0, .ref q_227, .ref q_228, .ref q_229, .ref q_230, .ref q_231, .ref q_232, .ref q_233, .ref q_234, .ref q_235]))] := hD
  refine W.widen (k := 181) (n := 1318) (by decide) (by decide) ?_
  refine va_astq (r := (RX7, TX7, 13)) hx hb hK hP hD hS 1 0 2 7 rfl rfl rfl rfl (by unfold vp_in; decide) dX3_init_33 (fun H locs hP hD hS => ?_)
  have hP : va_P (dC, dI) vwCl [(h0, .inr (3, [.ref q_1, .int 0, .int 0, .null, .null, .null, .int 0])), (q_1, .inl (k_2, 40, .inr (.inr (.inr (.inr (va_up f_223 (17 : Int32).toNatClampNeg (some q_225))))))), (q_225, .inr (7, [.int 0, .int 0, .int 0, .int 0, .ref q_227, .ref q_228, .ref q_229, .ref q_230, .ref q_231, .ref q_232, .ref q_233, .ref q_234, .ref q_235]))] H := hP
  have hD : va_D A [(h0, .inr (3, [.ref q_1, .int 0, .int 0, .null, .null, .null, .int 0])), (q_1, .inl (k_2, 40, .inr (.inr (.inr (.inr (va_up f_223 (17 : Int32).toNatClampNeg (some q_225))))))), (q_225, .inr (7, [.int 0, .int 0, .int 0, .int 0, .ref q_227, .ref q_228, .ref q_229, .ref q_230, .ref q_231, .ref q_232, .ref q_233, .ref q_234, .ref q_235]))] := hD
  refine lv_iinc (v := 18) (lv' := [(1, .int 18), (0, .ref h0)]) hx hb dX3_init_34 hl (k := 0) rfl (by decide) (by decide) rfl (fun ls hl => ?_)
  refine lv_goto (tgt := 15) hx hb dX3_init_37 (by decide) ?_
  have hP := hP.sub (ws' := [(h0, .inr (3, [.ref q_1, .int 0, .int 0, .null, .null, .null, .int 0])), (q_1, .inl (k_2, 40, .inr (.inr (.inr (.inr (va_up f_223 (17 : Int32).toNatClampNeg (some q_225)))))))]) [0, 1] rfl
  have hD := hD.sub (ws' := [(h0, .inr (3, [.ref q_1, .int 0, .int 0, .null, .null, .null, .int 0])), (q_1, .inl (k_2, 40, .inr (.inr (.inr (.inr (va_up f_223 (17 : Int32).toNatClampNeg (some q_225)))))))]) [0, 1] (by decide) rfl
  generalize (va_up f_223 (17 : Int32).toNatClampNeg (some q_225)) = f_236 at hP hD
  have hP : va_P (dC, dI) vwCl [(h0, .inr (3, [.ref q_1, .int 0, .int 0, .null, .null, .null, .int 0])), (q_1, .inl (k_2, 40, .inr (.inr (.inr (.inr f_236)))))] H := hP
  have hD : va_D A [(h0, .inr (3, [.ref q_1, .int 0, .int 0, .null, .null, .null, .int 0])), (q_1, .inl (k_2, 40, .inr (.inr (.inr (.inr f_236)))))] := hD
  refine lv_iload_n hx hb dX3_init_15 rfl (lv_at hl 0 rfl) ?_
  refine lv_bipush (v := 40) hx hb dX3_init_16 (by decide) ?_
  refine lv_icmp_ge (tgt := 40) hx hb dX3_init_18 (by decide) (fun c_237 => absurd c_237 (by decide)) (fun c_237 => ?_)
  refine lv_aload_n hx hb dX3_init_21 rfl (lv_at hl 1 rfl) ?_
  refine va_get (D := (dC, dI)) (ci := 3) (v := .ref q_1) (C := RX3) (T := TX3) (N := 7) hx hb hts iw_c_X3_init_X3 hown hK hP 0 rfl rfl 0 (by decide) (hts (.fieldLink RX3 13 "BuoyVote$History" "before" "[LBuoyVote$Sea;") (List.mem_of_getElem? (i := 5) rfl)) (fun _ h9 => h9) rfl dX3_init_22 ?_
  refine lv_iload_n hx hb dX3_init_25 rfl (lv_at hl 0 rfl) ?_
  refine va_new (ci := 7) (fs := [.int 0, .int 0, .int 0, .int 0, .null, .null, .null, .null, .null, .null, .null, .null, .null]) (C := RX7) (T := TX7) (N := 13) hx hb hts iw_c_X3_init_X7 tyX7 tyX7_ok hown (hts (.classLink RX3 11 RX7) (List.mem_of_getElem? (i := 4) rfl)) (hts (.instantiable RX7 13) (List.mem_of_getElem? (i := 6) rfl)) (hts (.initialized RX7) (List.mem_of_getElem? (i := 7) rfl)) hK hP hD hS hA rfl (vn_X7) (Nat.le_of_ble_eq_true rfl) (Nat.le_of_ble_eq_true rfl) dX3_init_26 (fun q_238 H hP hD hS => ?_)
  have hP : va_P (dC, dI) vwCl [(h0, .inr (3, [.ref q_1, .int 0, .int 0, .null, .null, .null, .int 0])), (q_1, .inl (k_2, 40, .inr (.inr (.inr (.inr f_236))))), (q_238, .inr (7, [.int 0, .int 0, .int 0, .int 0, .null, .null, .null, .null, .null, .null, .null, .null, .null]))] H := hP
  have hD : va_D A [(h0, .inr (3, [.ref q_1, .int 0, .int 0, .null, .null, .null, .int 0])), (q_1, .inl (k_2, 40, .inr (.inr (.inr (.inr f_236))))), (q_238, .inr (7, [.int 0, .int 0, .int 0, .int 0, .null, .null, .null, .null, .null, .null, .null, .null, .null]))] := hD
  refine W.widen (k := 182) (n := 1331) (by decide) (by decide) ?_
  refine lv_dup hx hb dX3_init_29 rfl ?_
  have hPc := hP.sub (ws' := [(q_238, .inr (7, [.int 0, .int 0, .int 0, .int 0, .null, .null, .null, .null, .null, .null, .null, .null, .null]))]) [2] rfl
  have hDc := hD.sub (ws' := [(q_238, .inr (7, [.int 0, .int 0, .int 0, .int 0, .null, .null, .null, .null, .null, .null, .null, .null, .null]))]) [2] (by decide) rfl
  have hKc := hK.sub (tys' := []) [] rfl
  have hFc := va_free (wc := [(q_238, .inr (7, [.int 0, .int 0, .int 0, .int 0, .null, .null, .null, .null, .null, .null, .null, .null, .null]))]) hD hS hA [2] rfl
  refine va_callv (va_runI (As := []) (rest := [.ref q_238, .int 18, .ref q_1]) ⟨hx, hb, hml, hown, hts⟩ (c_X7_init l dC dI H.size q_238) (cwI 0 hts gf_c_X3_init_c_X7_init rfl rfl rfl (hts (.initialized RX7) (List.mem_of_getElem? (i := 7) rfl)) (hts (.methodLink RX3 17 yX7_init) (List.mem_of_getElem? (i := 20) rfl)) (hts (.instanceMethod yX7_init) (List.mem_of_getElem? (i := 21) rfl)) rfl (by decide +kernel) ⟨Nat.le_of_ble_eq_true rfl, Nat.le_of_ble_eq_true rfl⟩) ⟨fun a U g mk q => by obtain ⟨q0, q1, qP, qK, qD⟩ := q; exact ⟨q0, q1, qP, va_K.moved (u := U) (U := U.calling g mk a) (Vm.Alike.refl U.vm) qK, qD⟩, fun U hU hW => ⟨rfl, by rw [hU], by rw [hU]; exact hPc, va_K.moved hW.alike hKc, hDc.weaken (fun _ _ _ _ => trivial)⟩⟩ rfl rfl hl.1 rfl (lv_room (Nat.le_of_ble_eq_true rfl)) dX3_init_30 ⟨Nat.le_of_ble_eq_true rfl, Nat.le_of_ble_eq_true rfl⟩) hS (fun q _ h => hFc q h) hFc (fun u t H1 locs ht hvm hw hB hz1 hk1 hS => ?_)
  obtain ⟨q_240, q_241, q_242, q_243, q_244, q_245, q_246, q_247, q_248, hP1, hK1, hD1⟩ := hB
  rw [ht] at hP1
  have hK1 := va_K.moved hvm.symm hK1
  obtain ⟨hP, hD⟩ := va_join (wr := [(h0, .inr (3, [.ref q_1, .int 0, .int 0, .null, .null, .null, .int 0])), (q_1, .inl (k_2, 40, .inr (.inr (.inr (.inr f_236)))))]) (w1 := [(q_238, .inr (7, [.int 0, .int 0, .int 0, .int 0, .ref q_240, .ref q_241, .ref q_242, .ref q_243, .ref q_244, .ref q_245, .ref q_246, .ref q_247, .ref q_248]))]) hP hD [2] [0, 1] rfl rfl (by decide) (by decide) hk1 hFc hP1 hD1
  generalize H1 = H at hP hS ⊢
  have hP : va_P (dC, dI) vwCl [(h0, .inr (3, [.ref q_1, .int 0, .int 0, .null, .null, .null, .int 0])), (q_1, .inl (k_2, 40, .inr (.inr (.inr (.inr f_236))))), (q_238, .inr (7, [.int 0, .int 0, .int 0, .int 0, .ref q_240, .ref q_241, .ref q_242, .ref q_243, .ref q_244, .ref q_245, .ref q_246, .ref q_247, .ref q_248]))] H := hP
  have hD : va_D A [(h0, .inr (3, [.ref q_1, .int 0, .int 0, .null, .null, .null, .int 0])), (q_1, .inl (k_2, 40, .inr (.inr (.inr (.inr f_236))))), (q_238, .inr (7, [.int 0, .int 0, .int 0, .int 0, .ref q_240, .ref q_241, .ref q_242, .ref q_243, .ref q_244, .ref q_245, .ref q_246, .ref q_247, .ref q_248]))] := hD
  refine W.widen (k := 191) (n := 1389) (by decide) (by decide) ?_
  refine va_astq (r := (RX7, TX7, 13)) hx hb hK hP hD hS 1 0 2 7 rfl rfl rfl rfl (by unfold vp_in; decide) dX3_init_33 (fun H locs hP hD hS => ?_)
  have hP : va_P (dC, dI) vwCl [(h0, .inr (3, [.ref q_1, .int 0, .int 0, .null, .null, .null, .int 0])), (q_1, .inl (k_2, 40, .inr (.inr (.inr (.inr (va_up f_236 (18 : Int32).toNatClampNeg (some q_238))))))), (q_238, .inr (7, [.int 0, .int 0, .int 0, .int 0, .ref q_240, .ref q_241, .ref q_242, .ref q_243, .ref q_244, .ref q_245, .ref q_246, .ref q_247, .ref q_248]))] H := hP
  have hD : va_D A [(h0, .inr (3, [.ref q_1, .int 0, .int 0, .null, .null, .null, .int 0])), (q_1, .inl (k_2, 40, .inr (.inr (.inr (.inr (va_up f_236 (18 : Int32).toNatClampNeg (some q_238))))))), (q_238, .inr (7, [.int 0, .int 0, .int 0, .int 0, .ref q_240, .ref q_241, .ref q_242, .ref q_243, .ref q_244, .ref q_245, .ref q_246, .ref q_247, .ref q_248]))] := hD
  refine lv_iinc (v := 19) (lv' := [(1, .int 19), (0, .ref h0)]) hx hb dX3_init_34 hl (k := 0) rfl (by decide) (by decide) rfl (fun ls hl => ?_)
  refine lv_goto (tgt := 15) hx hb dX3_init_37 (by decide) ?_
  have hP := hP.sub (ws' := [(h0, .inr (3, [.ref q_1, .int 0, .int 0, .null, .null, .null, .int 0])), (q_1, .inl (k_2, 40, .inr (.inr (.inr (.inr (va_up f_236 (18 : Int32).toNatClampNeg (some q_238)))))))]) [0, 1] rfl
  have hD := hD.sub (ws' := [(h0, .inr (3, [.ref q_1, .int 0, .int 0, .null, .null, .null, .int 0])), (q_1, .inl (k_2, 40, .inr (.inr (.inr (.inr (va_up f_236 (18 : Int32).toNatClampNeg (some q_238)))))))]) [0, 1] (by decide) rfl
  generalize (va_up f_236 (18 : Int32).toNatClampNeg (some q_238)) = f_249 at hP hD
  have hP : va_P (dC, dI) vwCl [(h0, .inr (3, [.ref q_1, .int 0, .int 0, .null, .null, .null, .int 0])), (q_1, .inl (k_2, 40, .inr (.inr (.inr (.inr f_249)))))] H := hP
  have hD : va_D A [(h0, .inr (3, [.ref q_1, .int 0, .int 0, .null, .null, .null, .int 0])), (q_1, .inl (k_2, 40, .inr (.inr (.inr (.inr f_249)))))] := hD
  refine lv_iload_n hx hb dX3_init_15 rfl (lv_at hl 0 rfl) ?_
  refine lv_bipush (v := 40) hx hb dX3_init_16 (by decide) ?_
  refine lv_icmp_ge (tgt := 40) hx hb dX3_init_18 (by decide) (fun c_250 => absurd c_250 (by decide)) (fun c_250 => ?_)
  refine lv_aload_n hx hb dX3_init_21 rfl (lv_at hl 1 rfl) ?_
  refine va_get (D := (dC, dI)) (ci := 3) (v := .ref q_1) (C := RX3) (T := TX3) (N := 7) hx hb hts iw_c_X3_init_X3 hown hK hP 0 rfl rfl 0 (by decide) (hts (.fieldLink RX3 13 "BuoyVote$History" "before" "[LBuoyVote$Sea;") (List.mem_of_getElem? (i := 5) rfl)) (fun _ h9 => h9) rfl dX3_init_22 ?_
  refine lv_iload_n hx hb dX3_init_25 rfl (lv_at hl 0 rfl) ?_
  refine va_new (ci := 7) (fs := [.int 0, .int 0, .int 0, .int 0, .null, .null, .null, .null, .null, .null, .null, .null, .null]) (C := RX7) (T := TX7) (N := 13) hx hb hts iw_c_X3_init_X7 tyX7 tyX7_ok hown (hts (.classLink RX3 11 RX7) (List.mem_of_getElem? (i := 4) rfl)) (hts (.instantiable RX7 13) (List.mem_of_getElem? (i := 6) rfl)) (hts (.initialized RX7) (List.mem_of_getElem? (i := 7) rfl)) hK hP hD hS hA rfl (vn_X7) (Nat.le_of_ble_eq_true rfl) (Nat.le_of_ble_eq_true rfl) dX3_init_26 (fun q_251 H hP hD hS => ?_)
  have hP : va_P (dC, dI) vwCl [(h0, .inr (3, [.ref q_1, .int 0, .int 0, .null, .null, .null, .int 0])), (q_1, .inl (k_2, 40, .inr (.inr (.inr (.inr f_249))))), (q_251, .inr (7, [.int 0, .int 0, .int 0, .int 0, .null, .null, .null, .null, .null, .null, .null, .null, .null]))] H := hP
  have hD : va_D A [(h0, .inr (3, [.ref q_1, .int 0, .int 0, .null, .null, .null, .int 0])), (q_1, .inl (k_2, 40, .inr (.inr (.inr (.inr f_249))))), (q_251, .inr (7, [.int 0, .int 0, .int 0, .int 0, .null, .null, .null, .null, .null, .null, .null, .null, .null]))] := hD
  refine W.widen (k := 192) (n := 1402) (by decide) (by decide) ?_
  refine lv_dup hx hb dX3_init_29 rfl ?_
  have hPc := hP.sub (ws' := [(q_251, .inr (7, [.int 0, .int 0, .int 0, .int 0, .null, .null, .null, .null, .null, .null, .null, .null, .null]))]) [2] rfl
  have hDc := hD.sub (ws' := [(q_251, .inr (7, [.int 0, .int 0, .int 0, .int 0, .null, .null, .null, .null, .null, .null, .null, .null, .null]))]) [2] (by decide) rfl
  have hKc := hK.sub (tys' := []) [] rfl
  have hFc := va_free (wc := [(q_251, .inr (7, [.int 0, .int 0, .int 0, .int 0, .null, .null, .null, .null, .null, .null, .null, .null, .null]))]) hD hS hA [2] rfl
  refine va_callv (va_runI (As := []) (rest := [.ref q_251, .int 19, .ref q_1]) ⟨hx, hb, hml, hown, hts⟩ (c_X7_init l dC dI H.size q_251) (cwI 0 hts gf_c_X3_init_c_X7_init rfl rfl rfl (hts (.initialized RX7) (List.mem_of_getElem? (i := 7) rfl)) (hts (.methodLink RX3 17 yX7_init) (List.mem_of_getElem? (i := 20) rfl)) (hts (.instanceMethod yX7_init) (List.mem_of_getElem? (i := 21) rfl)) rfl (by decide +kernel) ⟨Nat.le_of_ble_eq_true rfl, Nat.le_of_ble_eq_true rfl⟩) ⟨fun a U g mk q => by obtain ⟨q0, q1, qP, qK, qD⟩ := q; exact ⟨q0, q1, qP, va_K.moved (u := U) (U := U.calling g mk a) (Vm.Alike.refl U.vm) qK, qD⟩, fun U hU hW => ⟨rfl, by rw [hU], by rw [hU]; exact hPc, va_K.moved hW.alike hKc, hDc.weaken (fun _ _ _ _ => trivial)⟩⟩ rfl rfl hl.1 rfl (lv_room (Nat.le_of_ble_eq_true rfl)) dX3_init_30 ⟨Nat.le_of_ble_eq_true rfl, Nat.le_of_ble_eq_true rfl⟩) hS (fun q _ h => hFc q h) hFc (fun u t H1 locs ht hvm hw hB hz1 hk1 hS => ?_)
  obtain ⟨q_253, q_254, q_255, q_256, q_257, q_258, q_259, q_260, q_261, hP1, hK1, hD1⟩ := hB
  rw [ht] at hP1
  have hK1 := va_K.moved hvm.symm hK1
  obtain ⟨hP, hD⟩ := va_join (wr := [(h0, .inr (3, [.ref q_1, .int 0, .int 0, .null, .null, .null, .int 0])), (q_1, .inl (k_2, 40, .inr (.inr (.inr (.inr f_249)))))]) (w1 := [(q_251, .inr (7, [.int 0, .int 0, .int 0, .int 0, .ref q_253, .ref q_254, .ref q_255, .ref q_256, .ref q_257, .ref q_258, .ref q_259, .ref q_260, .ref q_261]))]) hP hD [2] [0, 1] rfl rfl (by decide) (by decide) hk1 hFc hP1 hD1
  generalize H1 = H at hP hS ⊢
  have hP : va_P (dC, dI) vwCl [(h0, .inr (3, [.ref q_1, .int 0, .int 0, .null, .null, .null, .int 0])), (q_1, .inl (k_2, 40, .inr (.inr (.inr (.inr f_249))))), (q_251, .inr (7, [.int 0, .int 0, .int 0, .int 0, .ref q_253, .ref q_254, .ref q_255, .ref q_256, .ref q_257, .ref q_258, .ref q_259, .ref q_260, .ref q_261]))] H := hP
  have hD : va_D A [(h0, .inr (3, [.ref q_1, .int 0, .int 0, .null, .null, .null, .int 0])), (q_1, .inl (k_2, 40, .inr (.inr (.inr (.inr f_249))))), (q_251, .inr (7, [.int 0, .int 0, .int 0, .int 0, .ref q_253, .ref q_254, .ref q_255, .ref q_256, .ref q_257, .ref q_258, .ref q_259, .ref q_260, .ref q_261]))] := hD
  refine W.widen (k := 201) (n := 1460) (by decide) (by decide) ?_
  refine va_astq (r := (RX7, TX7, 13)) hx hb hK hP hD hS 1 0 2 7 rfl rfl rfl rfl (by unfold vp_in; decide) dX3_init_33 (fun H locs hP hD hS => ?_)
  have hP : va_P (dC, dI) vwCl [(h0, .inr (3, [.ref q_1, .int 0, .int 0, .null, .null, .null, .int 0])), (q_1, .inl (k_2, 40, .inr (.inr (.inr (.inr (va_up f_249 (19 : Int32).toNatClampNeg (some q_251))))))), (q_251, .inr (7, [.int 0, .int 0, .int 0, .int 0, .ref q_253, .ref q_254, .ref q_255, .ref q_256, .ref q_257, .ref q_258, .ref q_259, .ref q_260, .ref q_261]))] H := hP
  have hD : va_D A [(h0, .inr (3, [.ref q_1, .int 0, .int 0, .null, .null, .null, .int 0])), (q_1, .inl (k_2, 40, .inr (.inr (.inr (.inr (va_up f_249 (19 : Int32).toNatClampNeg (some q_251))))))), (q_251, .inr (7, [.int 0, .int 0, .int 0, .int 0, .ref q_253, .ref q_254, .ref q_255, .ref q_256, .ref q_257, .ref q_258, .ref q_259, .ref q_260, .ref q_261]))] := hD
  refine lv_iinc (v := 20) (lv' := [(1, .int 20), (0, .ref h0)]) hx hb dX3_init_34 hl (k := 0) rfl (by decide) (by decide) rfl (fun ls hl => ?_)
  refine lv_goto (tgt := 15) hx hb dX3_init_37 (by decide) ?_
  have hP := hP.sub (ws' := [(h0, .inr (3, [.ref q_1, .int 0, .int 0, .null, .null, .null, .int 0])), (q_1, .inl (k_2, 40, .inr (.inr (.inr (.inr (va_up f_249 (19 : Int32).toNatClampNeg (some q_251)))))))]) [0, 1] rfl
  have hD := hD.sub (ws' := [(h0, .inr (3, [.ref q_1, .int 0, .int 0, .null, .null, .null, .int 0])), (q_1, .inl (k_2, 40, .inr (.inr (.inr (.inr (va_up f_249 (19 : Int32).toNatClampNeg (some q_251)))))))]) [0, 1] (by decide) rfl
  generalize (va_up f_249 (19 : Int32).toNatClampNeg (some q_251)) = f_262 at hP hD
  have hP : va_P (dC, dI) vwCl [(h0, .inr (3, [.ref q_1, .int 0, .int 0, .null, .null, .null, .int 0])), (q_1, .inl (k_2, 40, .inr (.inr (.inr (.inr f_262)))))] H := hP
  have hD : va_D A [(h0, .inr (3, [.ref q_1, .int 0, .int 0, .null, .null, .null, .int 0])), (q_1, .inl (k_2, 40, .inr (.inr (.inr (.inr f_262)))))] := hD
  refine lv_iload_n hx hb dX3_init_15 rfl (lv_at hl 0 rfl) ?_
  refine lv_bipush (v := 40) hx hb dX3_init_16 (by decide) ?_
  refine lv_icmp_ge (tgt := 40) hx hb dX3_init_18 (by decide) (fun c_263 => absurd c_263 (by decide)) (fun c_263 => ?_)
  refine lv_aload_n hx hb dX3_init_21 rfl (lv_at hl 1 rfl) ?_
  refine va_get (D := (dC, dI)) (ci := 3) (v := .ref q_1) (C := RX3) (T := TX3) (N := 7) hx hb hts iw_c_X3_init_X3 hown hK hP 0 rfl rfl 0 (by decide) (hts (.fieldLink RX3 13 "BuoyVote$History" "before" "[LBuoyVote$Sea;") (List.mem_of_getElem? (i := 5) rfl)) (fun _ h9 => h9) rfl dX3_init_22 ?_
  refine lv_iload_n hx hb dX3_init_25 rfl (lv_at hl 0 rfl) ?_
  refine va_new (ci := 7) (fs := [.int 0, .int 0, .int 0, .int 0, .null, .null, .null, .null, .null, .null, .null, .null, .null]) (C := RX7) (T := TX7) (N := 13) hx hb hts iw_c_X3_init_X7 tyX7 tyX7_ok hown (hts (.classLink RX3 11 RX7) (List.mem_of_getElem? (i := 4) rfl)) (hts (.instantiable RX7 13) (List.mem_of_getElem? (i := 6) rfl)) (hts (.initialized RX7) (List.mem_of_getElem? (i := 7) rfl)) hK hP hD hS hA rfl (vn_X7) (Nat.le_of_ble_eq_true rfl) (Nat.le_of_ble_eq_true rfl) dX3_init_26 (fun q_264 H hP hD hS => ?_)
  have hP : va_P (dC, dI) vwCl [(h0, .inr (3, [.ref q_1, .int 0, .int 0, .null, .null, .null, .int 0])), (q_1, .inl (k_2, 40, .inr (.inr (.inr (.inr f_262))))), (q_264, .inr (7, [.int 0, .int 0, .int 0, .int 0, .null, .null, .null, .null, .null, .null, .null, .null, .null]))] H := hP
  have hD : va_D A [(h0, .inr (3, [.ref q_1, .int 0, .int 0, .null, .null, .null, .int 0])), (q_1, .inl (k_2, 40, .inr (.inr (.inr (.inr f_262))))), (q_264, .inr (7, [.int 0, .int 0, .int 0, .int 0, .null, .null, .null, .null, .null, .null, .null, .null, .null]))] := hD
  refine W.widen (k := 202) (n := 1473) (by decide) (by decide) ?_
  refine lv_dup hx hb dX3_init_29 rfl ?_
  have hPc := hP.sub (ws' := [(q_264, .inr (7, [.int 0, .int 0, .int 0, .int 0, .null, .null, .null, .null, .null, .null, .null, .null, .null]))]) [2] rfl
  have hDc := hD.sub (ws' := [(q_264, .inr (7, [.int 0, .int 0, .int 0, .int 0, .null, .null, .null, .null, .null, .null, .null, .null, .null]))]) [2] (by decide) rfl
  have hKc := hK.sub (tys' := []) [] rfl
  have hFc := va_free (wc := [(q_264, .inr (7, [.int 0, .int 0, .int 0, .int 0, .null, .null, .null, .null, .null, .null, .null, .null, .null]))]) hD hS hA [2] rfl
  refine va_callv (va_runI (As := []) (rest := [.ref q_264, .int 20, .ref q_1]) ⟨hx, hb, hml, hown, hts⟩ (c_X7_init l dC dI H.size q_264) (cwI 0 hts gf_c_X3_init_c_X7_init rfl rfl rfl (hts (.initialized RX7) (List.mem_of_getElem? (i := 7) rfl)) (hts (.methodLink RX3 17 yX7_init) (List.mem_of_getElem? (i := 20) rfl)) (hts (.instanceMethod yX7_init) (List.mem_of_getElem? (i := 21) rfl)) rfl (by decide +kernel) ⟨Nat.le_of_ble_eq_true rfl, Nat.le_of_ble_eq_true rfl⟩) ⟨fun a U g mk q => by obtain ⟨q0, q1, qP, qK, qD⟩ := q; exact ⟨q0, q1, qP, va_K.moved (u := U) (U := U.calling g mk a) (Vm.Alike.refl U.vm) qK, qD⟩, fun U hU hW => ⟨rfl, by rw [hU], by rw [hU]; exact hPc, va_K.moved hW.alike hKc, hDc.weaken (fun _ _ _ _ => trivial)⟩⟩ rfl rfl hl.1 rfl (lv_room (Nat.le_of_ble_eq_true rfl)) dX3_init_30 ⟨Nat.le_of_ble_eq_true rfl, Nat.le_of_ble_eq_true rfl⟩) hS (fun q _ h => hFc q h) hFc (fun u t H1 locs ht hvm hw hB hz1 hk1 hS => ?_)
  obtain ⟨q_266, q_267, q_268, q_269, q_270, q_271, q_272, q_273, q_274, hP1, hK1, hD1⟩ := hB
  rw [ht] at hP1
  have hK1 := va_K.moved hvm.symm hK1
  obtain ⟨hP, hD⟩ := va_join (wr := [(h0, .inr (3, [.ref q_1, .int 0, .int 0, .null, .null, .null, .int 0])), (q_1, .inl (k_2, 40, .inr (.inr (.inr (.inr f_262)))))]) (w1 := [(q_264, .inr (7, [.int 0, .int 0, .int 0, .int 0, .ref q_266, .ref q_267, .ref q_268, .ref q_269, .ref q_270, .ref q_271, .ref q_272, .ref q_273, .ref q_274]))]) hP hD [2] [0, 1] rfl rfl (by decide) (by decide) hk1 hFc hP1 hD1
  generalize H1 = H at hP hS ⊢
  have hP : va_P (dC, dI) vwCl [(h0, .inr (3, [.ref q_1, .int 0, .int 0, .null, .null, .null, .int 0])), (q_1, .inl (k_2, 40, .inr (.inr (.inr (.inr f_262))))), (q_264, .inr (7, [.int 0, .int 0, .int 0, .int 0, .ref q_266, .ref q_267, .ref q_268, .ref q_269, .ref q_270, .ref q_271, .ref q_272, .ref q_273, .ref q_274]))] H := hP
  have hD : va_D A [(h0, .inr (3, [.ref q_1, .int 0, .int 0, .null, .null, .null, .int 0])), (q_1, .inl (k_2, 40, .inr (.inr (.inr (.inr f_262))))), (q_264, .inr (7, [.int 0, .int 0, .int 0, .int 0, .ref q_266, .ref q_267, .ref q_268, .ref q_269, .ref q_270, .ref q_271, .ref q_272, .ref q_273, .ref q_274]))] := hD
  refine W.widen (k := 211) (n := 1531) (by decide) (by decide) ?_
  refine va_astq (r := (RX7, TX7, 13)) hx hb hK hP hD hS 1 0 2 7 rfl rfl rfl rfl (by unfold vp_in; decide) dX3_init_33 (fun H locs hP hD hS => ?_)
  have hP : va_P (dC, dI) vwCl [(h0, .inr (3, [.ref q_1, .int 0, .int 0, .null, .null, .null, .int 0])), (q_1, .inl (k_2, 40, .inr (.inr (.inr (.inr (va_up f_262 (20 : Int32).toNatClampNeg (some q_264))))))), (q_264, .inr (7, [.int 0, .int 0, .int 0, .int 0, .ref q_266, .ref q_267, .ref q_268, .ref q_269, .ref q_270, .ref q_271, .ref q_272, .ref q_273, .ref q_274]))] H := hP
  have hD : va_D A [(h0, .inr (3, [.ref q_1, .int 0, .int 0, .null, .null, .null, .int 0])), (q_1, .inl (k_2, 40, .inr (.inr (.inr (.inr (va_up f_262 (20 : Int32).toNatClampNeg (some q_264))))))), (q_264, .inr (7, [.int 0, .int 0, .int 0, .int 0, .ref q_266, .ref q_267, .ref q_268, .ref q_269, .ref q_270, .ref q_271, .ref q_272, .ref q_273, .ref q_274]))] := hD
  refine lv_iinc (v := 21) (lv' := [(1, .int 21), (0, .ref h0)]) hx hb dX3_init_34 hl (k := 0) rfl (by decide) (by decide) rfl (fun ls hl => ?_)
  refine lv_goto (tgt := 15) hx hb dX3_init_37 (by decide) ?_
  have hP := hP.sub (ws' := [(h0, .inr (3, [.ref q_1, .int 0, .int 0, .null, .null, .null, .int 0])), (q_1, .inl (k_2, 40, .inr (.inr (.inr (.inr (va_up f_262 (20 : Int32).toNatClampNeg (some q_264)))))))]) [0, 1] rfl
  have hD := hD.sub (ws' := [(h0, .inr (3, [.ref q_1, .int 0, .int 0, .null, .null, .null, .int 0])), (q_1, .inl (k_2, 40, .inr (.inr (.inr (.inr (va_up f_262 (20 : Int32).toNatClampNeg (some q_264)))))))]) [0, 1] (by decide) rfl
  generalize (va_up f_262 (20 : Int32).toNatClampNeg (some q_264)) = f_275 at hP hD
  have hP : va_P (dC, dI) vwCl [(h0, .inr (3, [.ref q_1, .int 0, .int 0, .null, .null, .null, .int 0])), (q_1, .inl (k_2, 40, .inr (.inr (.inr (.inr f_275)))))] H := hP
  have hD : va_D A [(h0, .inr (3, [.ref q_1, .int 0, .int 0, .null, .null, .null, .int 0])), (q_1, .inl (k_2, 40, .inr (.inr (.inr (.inr f_275)))))] := hD
  refine lv_iload_n hx hb dX3_init_15 rfl (lv_at hl 0 rfl) ?_
  refine lv_bipush (v := 40) hx hb dX3_init_16 (by decide) ?_
  refine lv_icmp_ge (tgt := 40) hx hb dX3_init_18 (by decide) (fun c_276 => absurd c_276 (by decide)) (fun c_276 => ?_)
  refine lv_aload_n hx hb dX3_init_21 rfl (lv_at hl 1 rfl) ?_
  refine va_get (D := (dC, dI)) (ci := 3) (v := .ref q_1) (C := RX3) (T := TX3) (N := 7) hx hb hts iw_c_X3_init_X3 hown hK hP 0 rfl rfl 0 (by decide) (hts (.fieldLink RX3 13 "BuoyVote$History" "before" "[LBuoyVote$Sea;") (List.mem_of_getElem? (i := 5) rfl)) (fun _ h9 => h9) rfl dX3_init_22 ?_
  refine lv_iload_n hx hb dX3_init_25 rfl (lv_at hl 0 rfl) ?_
  refine va_new (ci := 7) (fs := [.int 0, .int 0, .int 0, .int 0, .null, .null, .null, .null, .null, .null, .null, .null, .null]) (C := RX7) (T := TX7) (N := 13) hx hb hts iw_c_X3_init_X7 tyX7 tyX7_ok hown (hts (.classLink RX3 11 RX7) (List.mem_of_getElem? (i := 4) rfl)) (hts (.instantiable RX7 13) (List.mem_of_getElem? (i := 6) rfl)) (hts (.initialized RX7) (List.mem_of_getElem? (i := 7) rfl)) hK hP hD hS hA rfl (vn_X7) (Nat.le_of_ble_eq_true rfl) (Nat.le_of_ble_eq_true rfl) dX3_init_26 (fun q_277 H hP hD hS => ?_)
  have hP : va_P (dC, dI) vwCl [(h0, .inr (3, [.ref q_1, .int 0, .int 0, .null, .null, .null, .int 0])), (q_1, .inl (k_2, 40, .inr (.inr (.inr (.inr f_275))))), (q_277, .inr (7, [.int 0, .int 0, .int 0, .int 0, .null, .null, .null, .null, .null, .null, .null, .null, .null]))] H := hP
  have hD : va_D A [(h0, .inr (3, [.ref q_1, .int 0, .int 0, .null, .null, .null, .int 0])), (q_1, .inl (k_2, 40, .inr (.inr (.inr (.inr f_275))))), (q_277, .inr (7, [.int 0, .int 0, .int 0, .int 0, .null, .null, .null, .null, .null, .null, .null, .null, .null]))] := hD
  refine W.widen (k := 212) (n := 1544) (by decide) (by decide) ?_
  refine lv_dup hx hb dX3_init_29 rfl ?_
  have hPc := hP.sub (ws' := [(q_277, .inr (7, [.int 0, .int 0, .int 0, .int 0, .null, .null, .null, .null, .null, .null, .null, .null, .null]))]) [2] rfl
  have hDc := hD.sub (ws' := [(q_277, .inr (7, [.int 0, .int 0, .int 0, .int 0, .null, .null, .null, .null, .null, .null, .null, .null, .null]))]) [2] (by decide) rfl
  have hKc := hK.sub (tys' := []) [] rfl
  have hFc := va_free (wc := [(q_277, .inr (7, [.int 0, .int 0, .int 0, .int 0, .null, .null, .null, .null, .null, .null, .null, .null, .null]))]) hD hS hA [2] rfl
  refine va_callv (va_runI (As := []) (rest := [.ref q_277, .int 21, .ref q_1]) ⟨hx, hb, hml, hown, hts⟩ (c_X7_init l dC dI H.size q_277) (cwI 0 hts gf_c_X3_init_c_X7_init rfl rfl rfl (hts (.initialized RX7) (List.mem_of_getElem? (i := 7) rfl)) (hts (.methodLink RX3 17 yX7_init) (List.mem_of_getElem? (i := 20) rfl)) (hts (.instanceMethod yX7_init) (List.mem_of_getElem? (i := 21) rfl)) rfl (by decide +kernel) ⟨Nat.le_of_ble_eq_true rfl, Nat.le_of_ble_eq_true rfl⟩) ⟨fun a U g mk q => by obtain ⟨q0, q1, qP, qK, qD⟩ := q; exact ⟨q0, q1, qP, va_K.moved (u := U) (U := U.calling g mk a) (Vm.Alike.refl U.vm) qK, qD⟩, fun U hU hW => ⟨rfl, by rw [hU], by rw [hU]; exact hPc, va_K.moved hW.alike hKc, hDc.weaken (fun _ _ _ _ => trivial)⟩⟩ rfl rfl hl.1 rfl (lv_room (Nat.le_of_ble_eq_true rfl)) dX3_init_30 ⟨Nat.le_of_ble_eq_true rfl, Nat.le_of_ble_eq_true rfl⟩) hS (fun q _ h => hFc q h) hFc (fun u t H1 locs ht hvm hw hB hz1 hk1 hS => ?_)
  obtain ⟨q_279, q_280, q_281, q_282, q_283, q_284, q_285, q_286, q_287, hP1, hK1, hD1⟩ := hB
  rw [ht] at hP1
  have hK1 := va_K.moved hvm.symm hK1
  obtain ⟨hP, hD⟩ := va_join (wr := [(h0, .inr (3, [.ref q_1, .int 0, .int 0, .null, .null, .null, .int 0])), (q_1, .inl (k_2, 40, .inr (.inr (.inr (.inr f_275)))))]) (w1 := [(q_277, .inr (7, [.int 0, .int 0, .int 0, .int 0, .ref q_279, .ref q_280, .ref q_281, .ref q_282, .ref q_283, .ref q_284, .ref q_285, .ref q_286, .ref q_287]))]) hP hD [2] [0, 1] rfl rfl (by decide) (by decide) hk1 hFc hP1 hD1
  generalize H1 = H at hP hS ⊢
  have hP : va_P (dC, dI) vwCl [(h0, .inr (3, [.ref q_1, .int 0, .int 0, .null, .null, .null, .int 0])), (q_1, .inl (k_2, 40, .inr (.inr (.inr (.inr f_275))))), (q_277, .inr (7, [.int 0, .int 0, .int 0, .int 0, .ref q_279, .ref q_280, .ref q_281, .ref q_282, .ref q_283, .ref q_284, .ref q_285, .ref q_286, .ref q_287]))] H := hP
  have hD : va_D A [(h0, .inr (3, [.ref q_1, .int 0, .int 0, .null, .null, .null, .int 0])), (q_1, .inl (k_2, 40, .inr (.inr (.inr (.inr f_275))))), (q_277, .inr (7, [.int 0, .int 0, .int 0, .int 0, .ref q_279, .ref q_280, .ref q_281, .ref q_282, .ref q_283, .ref q_284, .ref q_285, .ref q_286, .ref q_287]))] := hD
  refine W.widen (k := 221) (n := 1602) (by decide) (by decide) ?_
  refine va_astq (r := (RX7, TX7, 13)) hx hb hK hP hD hS 1 0 2 7 rfl rfl rfl rfl (by unfold vp_in; decide) dX3_init_33 (fun H locs hP hD hS => ?_)
  have hP : va_P (dC, dI) vwCl [(h0, .inr (3, [.ref q_1, .int 0, .int 0, .null, .null, .null, .int 0])), (q_1, .inl (k_2, 40, .inr (.inr (.inr (.inr (va_up f_275 (21 : Int32).toNatClampNeg (some q_277))))))), (q_277, .inr (7, [.int 0, .int 0, .int 0, .int 0, .ref q_279, .ref q_280, .ref q_281, .ref q_282, .ref q_283, .ref q_284, .ref q_285, .ref q_286, .ref q_287]))] H := hP
  have hD : va_D A [(h0, .inr (3, [.ref q_1, .int 0, .int 0, .null, .null, .null, .int 0])), (q_1, .inl (k_2, 40, .inr (.inr (.inr (.inr (va_up f_275 (21 : Int32).toNatClampNeg (some q_277))))))), (q_277, .inr (7, [.int 0, .int 0, .int 0, .int 0, .ref q_279, .ref q_280, .ref q_281, .ref q_282, .ref q_283, .ref q_284, .ref q_285, .ref q_286, .ref q_287]))] := hD
  refine lv_iinc (v := 22) (lv' := [(1, .int 22), (0, .ref h0)]) hx hb dX3_init_34 hl (k := 0) rfl (by decide) (by decide) rfl (fun ls hl => ?_)
  refine lv_goto (tgt := 15) hx hb dX3_init_37 (by decide) ?_
  have hP := hP.sub (ws' := [(h0, .inr (3, [.ref q_1, .int 0, .int 0, .null, .null, .null, .int 0])), (q_1, .inl (k_2, 40, .inr (.inr (.inr (.inr (va_up f_275 (21 : Int32).toNatClampNeg (some q_277)))))))]) [0, 1] rfl
  have hD := hD.sub (ws' := [(h0, .inr (3, [.ref q_1, .int 0, .int 0, .null, .null, .null, .int 0])), (q_1, .inl (k_2, 40, .inr (.inr (.inr (.inr (va_up f_275 (21 : Int32).toNatClampNeg (some q_277)))))))]) [0, 1] (by decide) rfl
  generalize (va_up f_275 (21 : Int32).toNatClampNeg (some q_277)) = f_288 at hP hD
  have hP : va_P (dC, dI) vwCl [(h0, .inr (3, [.ref q_1, .int 0, .int 0, .null, .null, .null, .int 0])), (q_1, .inl (k_2, 40, .inr (.inr (.inr (.inr f_288)))))] H := hP
  have hD : va_D A [(h0, .inr (3, [.ref q_1, .int 0, .int 0, .null, .null, .null, .int 0])), (q_1, .inl (k_2, 40, .inr (.inr (.inr (.inr f_288)))))] := hD
  refine lv_iload_n hx hb dX3_init_15 rfl (lv_at hl 0 rfl) ?_
  refine lv_bipush (v := 40) hx hb dX3_init_16 (by decide) ?_
  refine lv_icmp_ge (tgt := 40) hx hb dX3_init_18 (by decide) (fun c_289 => absurd c_289 (by decide)) (fun c_289 => ?_)
  refine lv_aload_n hx hb dX3_init_21 rfl (lv_at hl 1 rfl) ?_
  refine va_get (D := (dC, dI)) (ci := 3) (v := .ref q_1) (C := RX3) (T := TX3) (N := 7) hx hb hts iw_c_X3_init_X3 hown hK hP 0 rfl rfl 0 (by decide) (hts (.fieldLink RX3 13 "BuoyVote$History" "before" "[LBuoyVote$Sea;") (List.mem_of_getElem? (i := 5) rfl)) (fun _ h9 => h9) rfl dX3_init_22 ?_
  refine lv_iload_n hx hb dX3_init_25 rfl (lv_at hl 0 rfl) ?_
  refine va_new (ci := 7) (fs := [.int 0, .int 0, .int 0, .int 0, .null, .null, .null, .null, .null, .null, .null, .null, .null]) (C := RX7) (T := TX7) (N := 13) hx hb hts iw_c_X3_init_X7 tyX7 tyX7_ok hown (hts (.classLink RX3 11 RX7) (List.mem_of_getElem? (i := 4) rfl)) (hts (.instantiable RX7 13) (List.mem_of_getElem? (i := 6) rfl)) (hts (.initialized RX7) (List.mem_of_getElem? (i := 7) rfl)) hK hP hD hS hA rfl (vn_X7) (Nat.le_of_ble_eq_true rfl) (Nat.le_of_ble_eq_true rfl) dX3_init_26 (fun q_290 H hP hD hS => ?_)
  have hP : va_P (dC, dI) vwCl [(h0, .inr (3, [.ref q_1, .int 0, .int 0, .null, .null, .null, .int 0])), (q_1, .inl (k_2, 40, .inr (.inr (.inr (.inr f_288))))), (q_290, .inr (7, [.int 0, .int 0, .int 0, .int 0, .null, .null, .null, .null, .null, .null, .null, .null, .null]))] H := hP
  have hD : va_D A [(h0, .inr (3, [.ref q_1, .int 0, .int 0, .null, .null, .null, .int 0])), (q_1, .inl (k_2, 40, .inr (.inr (.inr (.inr f_288))))), (q_290, .inr (7, [.int 0, .int 0, .int 0, .int 0, .null, .null, .null, .null, .null, .null, .null, .null, .null]))] := hD
  refine W.widen (k := 222) (n := 1615) (by decide) (by decide) ?_
  refine lv_dup hx hb dX3_init_29 rfl ?_
  have hPc := hP.sub (ws' := [(q_290, .inr (7, [.int 0, .int 0, .int 0, .int 0, .null, .null, .null, .null, .null, .null, .null, .null, .null]))]) [2] rfl
  have hDc := hD.sub (ws' := [(q_290, .inr (7, [.int 0, .int 0, .int 0, .int 0, .null, .null, .null, .null, .null, .null, .null, .null, .null]))]) [2] (by decide) rfl
  have hKc := hK.sub (tys' := []) [] rfl
  have hFc := va_free (wc := [(q_290, .inr (7, [.int 0, .int 0, .int 0, .int 0, .null, .null, .null, .null, .null, .null, .null, .null, .null]))]) hD hS hA [2] rfl
  refine va_callv (va_runI (As := []) (rest := [.ref q_290, .int 22, .ref q_1]) ⟨hx, hb, hml, hown, hts⟩ (c_X7_init l dC dI H.size q_290) (cwI 0 hts gf_c_X3_init_c_X7_init rfl rfl rfl (hts (.initialized RX7) (List.mem_of_getElem? (i := 7) rfl)) (hts (.methodLink RX3 17 yX7_init) (List.mem_of_getElem? (i := 20) rfl)) (hts (.instanceMethod yX7_init) (List.mem_of_getElem? (i := 21) rfl)) rfl (by decide +kernel) ⟨Nat.le_of_ble_eq_true rfl, Nat.le_of_ble_eq_true rfl⟩) ⟨fun a U g mk q => by obtain ⟨q0, q1, qP, qK, qD⟩ := q; exact ⟨q0, q1, qP, va_K.moved (u := U) (U := U.calling g mk a) (Vm.Alike.refl U.vm) qK, qD⟩, fun U hU hW => ⟨rfl, by rw [hU], by rw [hU]; exact hPc, va_K.moved hW.alike hKc, hDc.weaken (fun _ _ _ _ => trivial)⟩⟩ rfl rfl hl.1 rfl (lv_room (Nat.le_of_ble_eq_true rfl)) dX3_init_30 ⟨Nat.le_of_ble_eq_true rfl, Nat.le_of_ble_eq_true rfl⟩) hS (fun q _ h => hFc q h) hFc (fun u t H1 locs ht hvm hw hB hz1 hk1 hS => ?_)
  obtain ⟨q_292, q_293, q_294, q_295, q_296, q_297, q_298, q_299, q_300, hP1, hK1, hD1⟩ := hB
  rw [ht] at hP1
  have hK1 := va_K.moved hvm.symm hK1
  obtain ⟨hP, hD⟩ := va_join (wr := [(h0, .inr (3, [.ref q_1, .int 0, .int 0, .null, .null, .null, .int 0])), (q_1, .inl (k_2, 40, .inr (.inr (.inr (.inr f_288)))))]) (w1 := [(q_290, .inr (7, [.int 0, .int 0, .int 0, .int 0, .ref q_292, .ref q_293, .ref q_294, .ref q_295, .ref q_296, .ref q_297, .ref q_298, .ref q_299, .ref q_300]))]) hP hD [2] [0, 1] rfl rfl (by decide) (by decide) hk1 hFc hP1 hD1
  generalize H1 = H at hP hS ⊢
  have hP : va_P (dC, dI) vwCl [(h0, .inr (3, [.ref q_1, .int 0, .int 0, .null, .null, .null, .int 0])), (q_1, .inl (k_2, 40, .inr (.inr (.inr (.inr f_288))))), (q_290, .inr (7, [.int 0, .int 0, .int 0, .int 0, .ref q_292, .ref q_293, .ref q_294, .ref q_295, .ref q_296, .ref q_297, .ref q_298, .ref q_299, .ref q_300]))] H := hP
  have hD : va_D A [(h0, .inr (3, [.ref q_1, .int 0, .int 0, .null, .null, .null, .int 0])), (q_1, .inl (k_2, 40, .inr (.inr (.inr (.inr f_288))))), (q_290, .inr (7, [.int 0, .int 0, .int 0, .int 0, .ref q_292, .ref q_293, .ref q_294, .ref q_295, .ref q_296, .ref q_297, .ref q_298, .ref q_299, .ref q_300]))] := hD
  refine W.widen (k := 231) (n := 1673) (by decide) (by decide) ?_
  refine va_astq (r := (RX7, TX7, 13)) hx hb hK hP hD hS 1 0 2 7 rfl rfl rfl rfl (by unfold vp_in; decide) dX3_init_33 (fun H locs hP hD hS => ?_)
  have hP : va_P (dC, dI) vwCl [(h0, .inr (3, [.ref q_1, .int 0, .int 0, .null, .null, .null, .int 0])), (q_1, .inl (k_2, 40, .inr (.inr (.inr (.inr (va_up f_288 (22 : Int32).toNatClampNeg (some q_290))))))), (q_290, .inr (7, [.int 0, .int 0, .int 0, .int 0, .ref q_292, .ref q_293, .ref q_294, .ref q_295, .ref q_296, .ref q_297, .ref q_298, .ref q_299, .ref q_300]))] H := hP
  have hD : va_D A [(h0, .inr (3, [.ref q_1, .int 0, .int 0, .null, .null, .null, .int 0])), (q_1, .inl (k_2, 40, .inr (.inr (.inr (.inr (va_up f_288 (22 : Int32).toNatClampNeg (some q_290))))))), (q_290, .inr (7, [.int 0, .int 0, .int 0, .int 0, .ref q_292, .ref q_293, .ref q_294, .ref q_295, .ref q_296, .ref q_297, .ref q_298, .ref q_299, .ref q_300]))] := hD
  refine lv_iinc (v := 23) (lv' := [(1, .int 23), (0, .ref h0)]) hx hb dX3_init_34 hl (k := 0) rfl (by decide) (by decide) rfl (fun ls hl => ?_)
  refine lv_goto (tgt := 15) hx hb dX3_init_37 (by decide) ?_
  have hP := hP.sub (ws' := [(h0, .inr (3, [.ref q_1, .int 0, .int 0, .null, .null, .null, .int 0])), (q_1, .inl (k_2, 40, .inr (.inr (.inr (.inr (va_up f_288 (22 : Int32).toNatClampNeg (some q_290)))))))]) [0, 1] rfl
  have hD := hD.sub (ws' := [(h0, .inr (3, [.ref q_1, .int 0, .int 0, .null, .null, .null, .int 0])), (q_1, .inl (k_2, 40, .inr (.inr (.inr (.inr (va_up f_288 (22 : Int32).toNatClampNeg (some q_290)))))))]) [0, 1] (by decide) rfl
  generalize (va_up f_288 (22 : Int32).toNatClampNeg (some q_290)) = f_301 at hP hD
  have hP : va_P (dC, dI) vwCl [(h0, .inr (3, [.ref q_1, .int 0, .int 0, .null, .null, .null, .int 0])), (q_1, .inl (k_2, 40, .inr (.inr (.inr (.inr f_301)))))] H := hP
  have hD : va_D A [(h0, .inr (3, [.ref q_1, .int 0, .int 0, .null, .null, .null, .int 0])), (q_1, .inl (k_2, 40, .inr (.inr (.inr (.inr f_301)))))] := hD
  refine lv_iload_n hx hb dX3_init_15 rfl (lv_at hl 0 rfl) ?_
  refine lv_bipush (v := 40) hx hb dX3_init_16 (by decide) ?_
  refine lv_icmp_ge (tgt := 40) hx hb dX3_init_18 (by decide) (fun c_302 => absurd c_302 (by decide)) (fun c_302 => ?_)
  refine lv_aload_n hx hb dX3_init_21 rfl (lv_at hl 1 rfl) ?_
  refine va_get (D := (dC, dI)) (ci := 3) (v := .ref q_1) (C := RX3) (T := TX3) (N := 7) hx hb hts iw_c_X3_init_X3 hown hK hP 0 rfl rfl 0 (by decide) (hts (.fieldLink RX3 13 "BuoyVote$History" "before" "[LBuoyVote$Sea;") (List.mem_of_getElem? (i := 5) rfl)) (fun _ h9 => h9) rfl dX3_init_22 ?_
  refine lv_iload_n hx hb dX3_init_25 rfl (lv_at hl 0 rfl) ?_
  refine va_new (ci := 7) (fs := [.int 0, .int 0, .int 0, .int 0, .null, .null, .null, .null, .null, .null, .null, .null, .null]) (C := RX7) (T := TX7) (N := 13) hx hb hts iw_c_X3_init_X7 tyX7 tyX7_ok hown (hts (.classLink RX3 11 RX7) (List.mem_of_getElem? (i := 4) rfl)) (hts (.instantiable RX7 13) (List.mem_of_getElem? (i := 6) rfl)) (hts (.initialized RX7) (List.mem_of_getElem? (i := 7) rfl)) hK hP hD hS hA rfl (vn_X7) (Nat.le_of_ble_eq_true rfl) (Nat.le_of_ble_eq_true rfl) dX3_init_26 (fun q_303 H hP hD hS => ?_)
  have hP : va_P (dC, dI) vwCl [(h0, .inr (3, [.ref q_1, .int 0, .int 0, .null, .null, .null, .int 0])), (q_1, .inl (k_2, 40, .inr (.inr (.inr (.inr f_301))))), (q_303, .inr (7, [.int 0, .int 0, .int 0, .int 0, .null, .null, .null, .null, .null, .null, .null, .null, .null]))] H := hP
  have hD : va_D A [(h0, .inr (3, [.ref q_1, .int 0, .int 0, .null, .null, .null, .int 0])), (q_1, .inl (k_2, 40, .inr (.inr (.inr (.inr f_301))))), (q_303, .inr (7, [.int 0, .int 0, .int 0, .int 0, .null, .null, .null, .null, .null, .null, .null, .null, .null]))] := hD
  refine W.widen (k := 232) (n := 1686) (by decide) (by decide) ?_
  refine lv_dup hx hb dX3_init_29 rfl ?_
  have hPc := hP.sub (ws' := [(q_303, .inr (7, [.int 0, .int 0, .int 0, .int 0, .null, .null, .null, .null, .null, .null, .null, .null, .null]))]) [2] rfl
  have hDc := hD.sub (ws' := [(q_303, .inr (7, [.int 0, .int 0, .int 0, .int 0, .null, .null, .null, .null, .null, .null, .null, .null, .null]))]) [2] (by decide) rfl
  have hKc := hK.sub (tys' := []) [] rfl
  have hFc := va_free (wc := [(q_303, .inr (7, [.int 0, .int 0, .int 0, .int 0, .null, .null, .null, .null, .null, .null, .null, .null, .null]))]) hD hS hA [2] rfl
  refine va_callv (va_runI (As := []) (rest := [.ref q_303, .int 23, .ref q_1]) ⟨hx, hb, hml, hown, hts⟩ (c_X7_init l dC dI H.size q_303) (cwI 0 hts gf_c_X3_init_c_X7_init rfl rfl rfl (hts (.initialized RX7) (List.mem_of_getElem? (i := 7) rfl)) (hts (.methodLink RX3 17 yX7_init) (List.mem_of_getElem? (i := 20) rfl)) (hts (.instanceMethod yX7_init) (List.mem_of_getElem? (i := 21) rfl)) rfl (by decide +kernel) ⟨Nat.le_of_ble_eq_true rfl, Nat.le_of_ble_eq_true rfl⟩) ⟨fun a U g mk q => by obtain ⟨q0, q1, qP, qK, qD⟩ := q; exact ⟨q0, q1, qP, va_K.moved (u := U) (U := U.calling g mk a) (Vm.Alike.refl U.vm) qK, qD⟩, fun U hU hW => ⟨rfl, by rw [hU], by rw [hU]; exact hPc, va_K.moved hW.alike hKc, hDc.weaken (fun _ _ _ _ => trivial)⟩⟩ rfl rfl hl.1 rfl (lv_room (Nat.le_of_ble_eq_true rfl)) dX3_init_30 ⟨Nat.le_of_ble_eq_true rfl, Nat.le_of_ble_eq_true rfl⟩) hS (fun q _ h => hFc q h) hFc (fun u t H1 locs ht hvm hw hB hz1 hk1 hS => ?_)
  obtain ⟨q_305, q_306, q_307, q_308, q_309, q_310, q_311, q_312, q_313, hP1, hK1, hD1⟩ := hB
  rw [ht] at hP1
  have hK1 := va_K.moved hvm.symm hK1
  obtain ⟨hP, hD⟩ := va_join (wr := [(h0, .inr (3, [.ref q_1, .int 0, .int 0, .null, .null, .null, .int 0])), (q_1, .inl (k_2, 40, .inr (.inr (.inr (.inr f_301)))))]) (w1 := [(q_303, .inr (7, [.int 0, .int 0, .int 0, .int 0, .ref q_305, .ref q_306, .ref q_307, .ref q_308, .ref q_309, .ref q_310, .ref q_311, .ref q_312, .ref q_313]))]) hP hD [2] [0, 1] rfl rfl (by decide) (by decide) hk1 hFc hP1 hD1
  generalize H1 = H at hP hS ⊢
  have hP : va_P (dC, dI) vwCl [(h0, .inr (3, [.ref q_1, .int 0, .int 0, .null, .null, .null, .int 0])), (q_1, .inl (k_2, 40, .inr (.inr (.inr (.inr f_301))))), (q_303, .inr (7, [.int 0, .int 0, .int 0, .int 0, .ref q_305, .ref q_306, .ref q_307, .ref q_308, .ref q_309, .ref q_310, .ref q_311, .ref q_312, .ref q_313]))] H := hP
  have hD : va_D A [(h0, .inr (3, [.ref q_1, .int 0, .int 0, .null, .null, .null, .int 0])), (q_1, .inl (k_2, 40, .inr (.inr (.inr (.inr f_301))))), (q_303, .inr (7, [.int 0, .int 0, .int 0, .int 0, .ref q_305, .ref q_306, .ref q_307, .ref q_308, .ref q_309, .ref q_310, .ref q_311, .ref q_312, .ref q_313]))] := hD
  refine W.widen (k := 241) (n := 1744) (by decide) (by decide) ?_
  refine va_astq (r := (RX7, TX7, 13)) hx hb hK hP hD hS 1 0 2 7 rfl rfl rfl rfl (by unfold vp_in; decide) dX3_init_33 (fun H locs hP hD hS => ?_)
  have hP : va_P (dC, dI) vwCl [(h0, .inr (3, [.ref q_1, .int 0, .int 0, .null, .null, .null, .int 0])), (q_1, .inl (k_2, 40, .inr (.inr (.inr (.inr (va_up f_301 (23 : Int32).toNatClampNeg (some q_303))))))), (q_303, .inr (7, [.int 0, .int 0, .int 0, .int 0, .ref q_305, .ref q_306, .ref q_307, .ref q_308, .ref q_309, .ref q_310, .ref q_311, .ref q_312, .ref q_313]))] H := hP
  have hD : va_D A [(h0, .inr (3, [.ref q_1, .int 0, .int 0, .null, .null, .null, .int 0])), (q_1, .inl (k_2, 40, .inr (.inr (.inr (.inr (va_up f_301 (23 : Int32).toNatClampNeg (some q_303))))))), (q_303, .inr (7, [.int 0, .int 0, .int 0, .int 0, .ref q_305, .ref q_306, .ref q_307, .ref q_308, .ref q_309, .ref q_310, .ref q_311, .ref q_312, .ref q_313]))] := hD
  refine lv_iinc (v := 24) (lv' := [(1, .int 24), (0, .ref h0)]) hx hb dX3_init_34 hl (k := 0) rfl (by decide) (by decide) rfl (fun ls hl => ?_)
  refine lv_goto (tgt := 15) hx hb dX3_init_37 (by decide) ?_
  have hP := hP.sub (ws' := [(h0, .inr (3, [.ref q_1, .int 0, .int 0, .null, .null, .null, .int 0])), (q_1, .inl (k_2, 40, .inr (.inr (.inr (.inr (va_up f_301 (23 : Int32).toNatClampNeg (some q_303)))))))]) [0, 1] rfl
  have hD := hD.sub (ws' := [(h0, .inr (3, [.ref q_1, .int 0, .int 0, .null, .null, .null, .int 0])), (q_1, .inl (k_2, 40, .inr (.inr (.inr (.inr (va_up f_301 (23 : Int32).toNatClampNeg (some q_303)))))))]) [0, 1] (by decide) rfl
  generalize (va_up f_301 (23 : Int32).toNatClampNeg (some q_303)) = f_314 at hP hD
  have hP : va_P (dC, dI) vwCl [(h0, .inr (3, [.ref q_1, .int 0, .int 0, .null, .null, .null, .int 0])), (q_1, .inl (k_2, 40, .inr (.inr (.inr (.inr f_314)))))] H := hP
  have hD : va_D A [(h0, .inr (3, [.ref q_1, .int 0, .int 0, .null, .null, .null, .int 0])), (q_1, .inl (k_2, 40, .inr (.inr (.inr (.inr f_314)))))] := hD
  refine lv_iload_n hx hb dX3_init_15 rfl (lv_at hl 0 rfl) ?_
  refine lv_bipush (v := 40) hx hb dX3_init_16 (by decide) ?_
  refine lv_icmp_ge (tgt := 40) hx hb dX3_init_18 (by decide) (fun c_315 => absurd c_315 (by decide)) (fun c_315 => ?_)
  refine lv_aload_n hx hb dX3_init_21 rfl (lv_at hl 1 rfl) ?_
  refine va_get (D := (dC, dI)) (ci := 3) (v := .ref q_1) (C := RX3) (T := TX3) (N := 7) hx hb hts iw_c_X3_init_X3 hown hK hP 0 rfl rfl 0 (by decide) (hts (.fieldLink RX3 13 "BuoyVote$History" "before" "[LBuoyVote$Sea;") (List.mem_of_getElem? (i := 5) rfl)) (fun _ h9 => h9) rfl dX3_init_22 ?_
  refine lv_iload_n hx hb dX3_init_25 rfl (lv_at hl 0 rfl) ?_
  refine va_new (ci := 7) (fs := [.int 0, .int 0, .int 0, .int 0, .null, .null, .null, .null, .null, .null, .null, .null, .null]) (C := RX7) (T := TX7) (N := 13) hx hb hts iw_c_X3_init_X7 tyX7 tyX7_ok hown (hts (.classLink RX3 11 RX7) (List.mem_of_getElem? (i := 4) rfl)) (hts (.instantiable RX7 13) (List.mem_of_getElem? (i := 6) rfl)) (hts (.initialized RX7) (List.mem_of_getElem? (i := 7) rfl)) hK hP hD hS hA rfl (vn_X7) (Nat.le_of_ble_eq_true rfl) (Nat.le_of_ble_eq_true rfl) dX3_init_26 (fun q_316 H hP hD hS => ?_)
  have hP : va_P (dC, dI) vwCl [(h0, .inr (3, [.ref q_1, .int 0, .int 0, .null, .null, .null, .int 0])), (q_1, .inl (k_2, 40, .inr (.inr (.inr (.inr f_314))))), (q_316, .inr (7, [.int 0, .int 0, .int 0, .int 0, .null, .null, .null, .null, .null, .null, .null, .null, .null]))] H := hP
  have hD : va_D A [(h0, .inr (3, [.ref q_1, .int 0, .int 0, .null, .null, .null, .int 0])), (q_1, .inl (k_2, 40, .inr (.inr (.inr (.inr f_314))))), (q_316, .inr (7, [.int 0, .int 0, .int 0, .int 0, .null, .null, .null, .null, .null, .null, .null, .null, .null]))] := hD
  refine W.widen (k := 242) (n := 1757) (by decide) (by decide) ?_
  refine lv_dup hx hb dX3_init_29 rfl ?_
  have hPc := hP.sub (ws' := [(q_316, .inr (7, [.int 0, .int 0, .int 0, .int 0, .null, .null, .null, .null, .null, .null, .null, .null, .null]))]) [2] rfl
  have hDc := hD.sub (ws' := [(q_316, .inr (7, [.int 0, .int 0, .int 0, .int 0, .null, .null, .null, .null, .null, .null, .null, .null, .null]))]) [2] (by decide) rfl
  have hKc := hK.sub (tys' := []) [] rfl
  have hFc := va_free (wc := [(q_316, .inr (7, [.int 0, .int 0, .int 0, .int 0, .null, .null, .null, .null, .null, .null, .null, .null, .null]))]) hD hS hA [2] rfl
  refine va_callv (va_runI (As := []) (rest := [.ref q_316, .int 24, .ref q_1]) ⟨hx, hb, hml, hown, hts⟩ (c_X7_init l dC dI H.size q_316) (cwI 0 hts gf_c_X3_init_c_X7_init rfl rfl rfl (hts (.initialized RX7) (List.mem_of_getElem? (i := 7) rfl)) (hts (.methodLink RX3 17 yX7_init) (List.mem_of_getElem? (i := 20) rfl)) (hts (.instanceMethod yX7_init) (List.mem_of_getElem? (i := 21) rfl)) rfl (by decide +kernel) ⟨Nat.le_of_ble_eq_true rfl, Nat.le_of_ble_eq_true rfl⟩) ⟨fun a U g mk q => by obtain ⟨q0, q1, qP, qK, qD⟩ := q; exact ⟨q0, q1, qP, va_K.moved (u := U) (U := U.calling g mk a) (Vm.Alike.refl U.vm) qK, qD⟩, fun U hU hW => ⟨rfl, by rw [hU], by rw [hU]; exact hPc, va_K.moved hW.alike hKc, hDc.weaken (fun _ _ _ _ => trivial)⟩⟩ rfl rfl hl.1 rfl (lv_room (Nat.le_of_ble_eq_true rfl)) dX3_init_30 ⟨Nat.le_of_ble_eq_true rfl, Nat.le_of_ble_eq_true rfl⟩) hS (fun q _ h => hFc q h) hFc (fun u t H1 locs ht hvm hw hB hz1 hk1 hS => ?_)
  obtain ⟨q_318, q_319, q_320, q_321, q_322, q_323, q_324, q_325, q_326, hP1, hK1, hD1⟩ := hB
  rw [ht] at hP1
  have hK1 := va_K.moved hvm.symm hK1
  obtain ⟨hP, hD⟩ := va_join (wr := [(h0, .inr (3, [.ref q_1, .int 0, .int 0, .null, .null, .null, .int 0])), (q_1, .inl (k_2, 40, .inr (.inr (.inr (.inr f_314)))))]) (w1 := [(q_316, .inr (7, [.int 0, .int 0, .int 0, .int 0, .ref q_318, .ref q_319, .ref q_320, .ref q_321, .ref q_322, .ref q_323, .ref q_324, .ref q_325, .ref q_326]))]) hP hD [2] [0, 1] rfl rfl (by decide) (by decide) hk1 hFc hP1 hD1
  generalize H1 = H at hP hS ⊢
  have hP : va_P (dC, dI) vwCl [(h0, .inr (3, [.ref q_1, .int 0, .int 0, .null, .null, .null, .int 0])), (q_1, .inl (k_2, 40, .inr (.inr (.inr (.inr f_314))))), (q_316, .inr (7, [.int 0, .int 0, .int 0, .int 0, .ref q_318, .ref q_319, .ref q_320, .ref q_321, .ref q_322, .ref q_323, .ref q_324, .ref q_325, .ref q_326]))] H := hP
  have hD : va_D A [(h0, .inr (3, [.ref q_1, .int 0, .int 0, .null, .null, .null, .int 0])), (q_1, .inl (k_2, 40, .inr (.inr (.inr (.inr f_314))))), (q_316, .inr (7, [.int 0, .int 0, .int 0, .int 0, .ref q_318, .ref q_319, .ref q_320, .ref q_321, .ref q_322, .ref q_323, .ref q_324, .ref q_325, .ref q_326]))] := hD
  refine W.widen (k := 251) (n := 1815) (by decide) (by decide) ?_
  refine va_astq (r := (RX7, TX7, 13)) hx hb hK hP hD hS 1 0 2 7 rfl rfl rfl rfl (by unfold vp_in; decide) dX3_init_33 (fun H locs hP hD hS => ?_)
  have hP : va_P (dC, dI) vwCl [(h0, .inr (3, [.ref q_1, .int 0, .int 0, .null, .null, .null, .int 0])), (q_1, .inl (k_2, 40, .inr (.inr (.inr (.inr (va_up f_314 (24 : Int32).toNatClampNeg (some q_316))))))), (q_316, .inr (7, [.int 0, .int 0, .int 0, .int 0, .ref q_318, .ref q_319, .ref q_320, .ref q_321, .ref q_322, .ref q_323, .ref q_324, .ref q_325, .ref q_326]))] H := hP
  have hD : va_D A [(h0, .inr (3, [.ref q_1, .int 0, .int 0, .null, .null, .null, .int 0])), (q_1, .inl (k_2, 40, .inr (.inr (.inr (.inr (va_up f_314 (24 : Int32).toNatClampNeg (some q_316))))))), (q_316, .inr (7, [.int 0, .int 0, .int 0, .int 0, .ref q_318, .ref q_319, .ref q_320, .ref q_321, .ref q_322, .ref q_323, .ref q_324, .ref q_325, .ref q_326]))] := hD
  refine lv_iinc (v := 25) (lv' := [(1, .int 25), (0, .ref h0)]) hx hb dX3_init_34 hl (k := 0) rfl (by decide) (by decide) rfl (fun ls hl => ?_)
  refine lv_goto (tgt := 15) hx hb dX3_init_37 (by decide) ?_
  have hP := hP.sub (ws' := [(h0, .inr (3, [.ref q_1, .int 0, .int 0, .null, .null, .null, .int 0])), (q_1, .inl (k_2, 40, .inr (.inr (.inr (.inr (va_up f_314 (24 : Int32).toNatClampNeg (some q_316)))))))]) [0, 1] rfl
  have hD := hD.sub (ws' := [(h0, .inr (3, [.ref q_1, .int 0, .int 0, .null, .null, .null, .int 0])), (q_1, .inl (k_2, 40, .inr (.inr (.inr (.inr (va_up f_314 (24 : Int32).toNatClampNeg (some q_316)))))))]) [0, 1] (by decide) rfl
  generalize (va_up f_314 (24 : Int32).toNatClampNeg (some q_316)) = f_327 at hP hD
  have hP : va_P (dC, dI) vwCl [(h0, .inr (3, [.ref q_1, .int 0, .int 0, .null, .null, .null, .int 0])), (q_1, .inl (k_2, 40, .inr (.inr (.inr (.inr f_327)))))] H := hP
  have hD : va_D A [(h0, .inr (3, [.ref q_1, .int 0, .int 0, .null, .null, .null, .int 0])), (q_1, .inl (k_2, 40, .inr (.inr (.inr (.inr f_327)))))] := hD
  refine lv_iload_n hx hb dX3_init_15 rfl (lv_at hl 0 rfl) ?_
  refine lv_bipush (v := 40) hx hb dX3_init_16 (by decide) ?_
  refine lv_icmp_ge (tgt := 40) hx hb dX3_init_18 (by decide) (fun c_328 => absurd c_328 (by decide)) (fun c_328 => ?_)
  refine lv_aload_n hx hb dX3_init_21 rfl (lv_at hl 1 rfl) ?_
  refine va_get (D := (dC, dI)) (ci := 3) (v := .ref q_1) (C := RX3) (T := TX3) (N := 7) hx hb hts iw_c_X3_init_X3 hown hK hP 0 rfl rfl 0 (by decide) (hts (.fieldLink RX3 13 "BuoyVote$History" "before" "[LBuoyVote$Sea;") (List.mem_of_getElem? (i := 5) rfl)) (fun _ h9 => h9) rfl dX3_init_22 ?_
  refine lv_iload_n hx hb dX3_init_25 rfl (lv_at hl 0 rfl) ?_
  refine va_new (ci := 7) (fs := [.int 0, .int 0, .int 0, .int 0, .null, .null, .null, .null, .null, .null, .null, .null, .null]) (C := RX7) (T := TX7) (N := 13) hx hb hts iw_c_X3_init_X7 tyX7 tyX7_ok hown (hts (.classLink RX3 11 RX7) (List.mem_of_getElem? (i := 4) rfl)) (hts (.instantiable RX7 13) (List.mem_of_getElem? (i := 6) rfl)) (hts (.initialized RX7) (List.mem_of_getElem? (i := 7) rfl)) hK hP hD hS hA rfl (vn_X7) (Nat.le_of_ble_eq_true rfl) (Nat.le_of_ble_eq_true rfl) dX3_init_26 (fun q_329 H hP hD hS => ?_)
  have hP : va_P (dC, dI) vwCl [(h0, .inr (3, [.ref q_1, .int 0, .int 0, .null, .null, .null, .int 0])), (q_1, .inl (k_2, 40, .inr (.inr (.inr (.inr f_327))))), (q_329, .inr (7, [.int 0, .int 0, .int 0, .int 0, .null, .null, .null, .null, .null, .null, .null, .null, .null]))] H := hP
  have hD : va_D A [(h0, .inr (3, [.ref q_1, .int 0, .int 0, .null, .null, .null, .int 0])), (q_1, .inl (k_2, 40, .inr (.inr (.inr (.inr f_327))))), (q_329, .inr (7, [.int 0, .int 0, .int 0, .int 0, .null, .null, .null, .null, .null, .null, .null, .null, .null]))] := hD
  refine W.widen (k := 252) (n := 1828) (by decide) (by decide) ?_
  refine lv_dup hx hb dX3_init_29 rfl ?_
  have hPc := hP.sub (ws' := [(q_329, .inr (7, [.int 0, .int 0, .int 0, .int 0, .null, .null, .null, .null, .null, .null, .null, .null, .null]))]) [2] rfl
  have hDc := hD.sub (ws' := [(q_329, .inr (7, [.int 0, .int 0, .int 0, .int 0, .null, .null, .null, .null, .null, .null, .null, .null, .null]))]) [2] (by decide) rfl
  have hKc := hK.sub (tys' := []) [] rfl
  have hFc := va_free (wc := [(q_329, .inr (7, [.int 0, .int 0, .int 0, .int 0, .null, .null, .null, .null, .null, .null, .null, .null, .null]))]) hD hS hA [2] rfl
  refine va_callv (va_runI (As := []) (rest := [.ref q_329, .int 25, .ref q_1]) ⟨hx, hb, hml, hown, hts⟩ (c_X7_init l dC dI H.size q_329) (cwI 0 hts gf_c_X3_init_c_X7_init rfl rfl rfl (hts (.initialized RX7) (List.mem_of_getElem? (i := 7) rfl)) (hts (.methodLink RX3 17 yX7_init) (List.mem_of_getElem? (i := 20) rfl)) (hts (.instanceMethod yX7_init) (List.mem_of_getElem? (i := 21) rfl)) rfl (by decide +kernel) ⟨Nat.le_of_ble_eq_true rfl, Nat.le_of_ble_eq_true rfl⟩) ⟨fun a U g mk q => by obtain ⟨q0, q1, qP, qK, qD⟩ := q; exact ⟨q0, q1, qP, va_K.moved (u := U) (U := U.calling g mk a) (Vm.Alike.refl U.vm) qK, qD⟩, fun U hU hW => ⟨rfl, by rw [hU], by rw [hU]; exact hPc, va_K.moved hW.alike hKc, hDc.weaken (fun _ _ _ _ => trivial)⟩⟩ rfl rfl hl.1 rfl (lv_room (Nat.le_of_ble_eq_true rfl)) dX3_init_30 ⟨Nat.le_of_ble_eq_true rfl, Nat.le_of_ble_eq_true rfl⟩) hS (fun q _ h => hFc q h) hFc (fun u t H1 locs ht hvm hw hB hz1 hk1 hS => ?_)
  obtain ⟨q_331, q_332, q_333, q_334, q_335, q_336, q_337, q_338, q_339, hP1, hK1, hD1⟩ := hB
  rw [ht] at hP1
  have hK1 := va_K.moved hvm.symm hK1
  obtain ⟨hP, hD⟩ := va_join (wr := [(h0, .inr (3, [.ref q_1, .int 0, .int 0, .null, .null, .null, .int 0])), (q_1, .inl (k_2, 40, .inr (.inr (.inr (.inr f_327)))))]) (w1 := [(q_329, .inr (7, [.int 0, .int 0, .int 0, .int 0, .ref q_331, .ref q_332, .ref q_333, .ref q_334, .ref q_335, .ref q_336, .ref q_337, .ref q_338, .ref q_339]))]) hP hD [2] [0, 1] rfl rfl (by decide) (by decide) hk1 hFc hP1 hD1
  generalize H1 = H at hP hS ⊢
  have hP : va_P (dC, dI) vwCl [(h0, .inr (3, [.ref q_1, .int 0, .int 0, .null, .null, .null, .int 0])), (q_1, .inl (k_2, 40, .inr (.inr (.inr (.inr f_327))))), (q_329, .inr (7, [.int 0, .int 0, .int 0, .int 0, .ref q_331, .ref q_332, .ref q_333, .ref q_334, .ref q_335, .ref q_336, .ref q_337, .ref q_338, .ref q_339]))] H := hP
  have hD : va_D A [(h0, .inr (3, [.ref q_1, .int 0, .int 0, .null, .null, .null, .int 0])), (q_1, .inl (k_2, 40, .inr (.inr (.inr (.inr f_327))))), (q_329, .inr (7, [.int 0, .int 0, .int 0, .int 0, .ref q_331, .ref q_332, .ref q_333, .ref q_334, .ref q_335, .ref q_336, .ref q_337, .ref q_338, .ref q_339]))] := hD
  refine W.widen (k := 261) (n := 1886) (by decide) (by decide) ?_
  refine va_astq (r := (RX7, TX7, 13)) hx hb hK hP hD hS 1 0 2 7 rfl rfl rfl rfl (by unfold vp_in; decide) dX3_init_33 (fun H locs hP hD hS => ?_)
  have hP : va_P (dC, dI) vwCl [(h0, .inr (3, [.ref q_1, .int 0, .int 0, .null, .null, .null, .int 0])), (q_1, .inl (k_2, 40, .inr (.inr (.inr (.inr (va_up f_327 (25 : Int32).toNatClampNeg (some q_329))))))), (q_329, .inr (7, [.int 0, .int 0, .int 0, .int 0, .ref q_331, .ref q_332, .ref q_333, .ref q_334, .ref q_335, .ref q_336, .ref q_337, .ref q_338, .ref q_339]))] H := hP
  have hD : va_D A [(h0, .inr (3, [.ref q_1, .int 0, .int 0, .null, .null, .null, .int 0])), (q_1, .inl (k_2, 40, .inr (.inr (.inr (.inr (va_up f_327 (25 : Int32).toNatClampNeg (some q_329))))))), (q_329, .inr (7, [.int 0, .int 0, .int 0, .int 0, .ref q_331, .ref q_332, .ref q_333, .ref q_334, .ref q_335, .ref q_336, .ref q_337, .ref q_338, .ref q_339]))] := hD
  refine lv_iinc (v := 26) (lv' := [(1, .int 26), (0, .ref h0)]) hx hb dX3_init_34 hl (k := 0) rfl (by decide) (by decide) rfl (fun ls hl => ?_)
  refine lv_goto (tgt := 15) hx hb dX3_init_37 (by decide) ?_
  have hP := hP.sub (ws' := [(h0, .inr (3, [.ref q_1, .int 0, .int 0, .null, .null, .null, .int 0])), (q_1, .inl (k_2, 40, .inr (.inr (.inr (.inr (va_up f_327 (25 : Int32).toNatClampNeg (some q_329)))))))]) [0, 1] rfl
  have hD := hD.sub (ws' := [(h0, .inr (3, [.ref q_1, .int 0, .int 0, .null, .null, .null, .int 0])), (q_1, .inl (k_2, 40, .inr (.inr (.inr (.inr (va_up f_327 (25 : Int32).toNatClampNeg (some q_329)))))))]) [0, 1] (by decide) rfl
  generalize (va_up f_327 (25 : Int32).toNatClampNeg (some q_329)) = f_340 at hP hD
  have hP : va_P (dC, dI) vwCl [(h0, .inr (3, [.ref q_1, .int 0, .int 0, .null, .null, .null, .int 0])), (q_1, .inl (k_2, 40, .inr (.inr (.inr (.inr f_340)))))] H := hP
  have hD : va_D A [(h0, .inr (3, [.ref q_1, .int 0, .int 0, .null, .null, .null, .int 0])), (q_1, .inl (k_2, 40, .inr (.inr (.inr (.inr f_340)))))] := hD
  refine lv_iload_n hx hb dX3_init_15 rfl (lv_at hl 0 rfl) ?_
  refine lv_bipush (v := 40) hx hb dX3_init_16 (by decide) ?_
  refine lv_icmp_ge (tgt := 40) hx hb dX3_init_18 (by decide) (fun c_341 => absurd c_341 (by decide)) (fun c_341 => ?_)
  refine lv_aload_n hx hb dX3_init_21 rfl (lv_at hl 1 rfl) ?_
  refine va_get (D := (dC, dI)) (ci := 3) (v := .ref q_1) (C := RX3) (T := TX3) (N := 7) hx hb hts iw_c_X3_init_X3 hown hK hP 0 rfl rfl 0 (by decide) (hts (.fieldLink RX3 13 "BuoyVote$History" "before" "[LBuoyVote$Sea;") (List.mem_of_getElem? (i := 5) rfl)) (fun _ h9 => h9) rfl dX3_init_22 ?_
  refine lv_iload_n hx hb dX3_init_25 rfl (lv_at hl 0 rfl) ?_
  refine va_new (ci := 7) (fs := [.int 0, .int 0, .int 0, .int 0, .null, .null, .null, .null, .null, .null, .null, .null, .null]) (C := RX7) (T := TX7) (N := 13) hx hb hts iw_c_X3_init_X7 tyX7 tyX7_ok hown (hts (.classLink RX3 11 RX7) (List.mem_of_getElem? (i := 4) rfl)) (hts (.instantiable RX7 13) (List.mem_of_getElem? (i := 6) rfl)) (hts (.initialized RX7) (List.mem_of_getElem? (i := 7) rfl)) hK hP hD hS hA rfl (vn_X7) (Nat.le_of_ble_eq_true rfl) (Nat.le_of_ble_eq_true rfl) dX3_init_26 (fun q_342 H hP hD hS => ?_)
  have hP : va_P (dC, dI) vwCl [(h0, .inr (3, [.ref q_1, .int 0, .int 0, .null, .null, .null, .int 0])), (q_1, .inl (k_2, 40, .inr (.inr (.inr (.inr f_340))))), (q_342, .inr (7, [.int 0, .int 0, .int 0, .int 0, .null, .null, .null, .null, .null, .null, .null, .null, .null]))] H := hP
  have hD : va_D A [(h0, .inr (3, [.ref q_1, .int 0, .int 0, .null, .null, .null, .int 0])), (q_1, .inl (k_2, 40, .inr (.inr (.inr (.inr f_340))))), (q_342, .inr (7, [.int 0, .int 0, .int 0, .int 0, .null, .null, .null, .null, .null, .null, .null, .null, .null]))] := hD
  refine W.widen (k := 262) (n := 1899) (by decide) (by decide) ?_
  refine lv_dup hx hb dX3_init_29 rfl ?_
  have hPc := hP.sub (ws' := [(q_342, .inr (7, [.int 0, .int 0, .int 0, .int 0, .null, .null, .null, .null, .null, .null, .null, .null, .null]))]) [2] rfl
  have hDc := hD.sub (ws' := [(q_342, .inr (7, [.int 0, .int 0, .int 0, .int 0, .null, .null, .null, .null, .null, .null, .null, .null, .null]))]) [2] (by decide) rfl
  have hKc := hK.sub (tys' := []) [] rfl
  have hFc := va_free (wc := [(q_342, .inr (7, [.int 0, .int 0, .int 0, .int 0, .null, .null, .null, .null, .null, .null, .null, .null, .null]))]) hD hS hA [2] rfl
  refine va_callv (va_runI (As := []) (rest := [.ref q_342, .int 26, .ref q_1]) ⟨hx, hb, hml, hown, hts⟩ (c_X7_init l dC dI H.size q_342) (cwI 0 hts gf_c_X3_init_c_X7_init rfl rfl rfl (hts (.initialized RX7) (List.mem_of_getElem? (i := 7) rfl)) (hts (.methodLink RX3 17 yX7_init) (List.mem_of_getElem? (i := 20) rfl)) (hts (.instanceMethod yX7_init) (List.mem_of_getElem? (i := 21) rfl)) rfl (by decide +kernel) ⟨Nat.le_of_ble_eq_true rfl, Nat.le_of_ble_eq_true rfl⟩) ⟨fun a U g mk q => by obtain ⟨q0, q1, qP, qK, qD⟩ := q; exact ⟨q0, q1, qP, va_K.moved (u := U) (U := U.calling g mk a) (Vm.Alike.refl U.vm) qK, qD⟩, fun U hU hW => ⟨rfl, by rw [hU], by rw [hU]; exact hPc, va_K.moved hW.alike hKc, hDc.weaken (fun _ _ _ _ => trivial)⟩⟩ rfl rfl hl.1 rfl (lv_room (Nat.le_of_ble_eq_true rfl)) dX3_init_30 ⟨Nat.le_of_ble_eq_true rfl, Nat.le_of_ble_eq_true rfl⟩) hS (fun q _ h => hFc q h) hFc (fun u t H1 locs ht hvm hw hB hz1 hk1 hS => ?_)
  obtain ⟨q_344, q_345, q_346, q_347, q_348, q_349, q_350, q_351, q_352, hP1, hK1, hD1⟩ := hB
  rw [ht] at hP1
  have hK1 := va_K.moved hvm.symm hK1
  obtain ⟨hP, hD⟩ := va_join (wr := [(h0, .inr (3, [.ref q_1, .int 0, .int 0, .null, .null, .null, .int 0])), (q_1, .inl (k_2, 40, .inr (.inr (.inr (.inr f_340)))))]) (w1 := [(q_342, .inr (7, [.int 0, .int 0, .int 0, .int 0, .ref q_344, .ref q_345, .ref q_346, .ref q_347, .ref q_348, .ref q_349, .ref q_350, .ref q_351, .ref q_352]))]) hP hD [2] [0, 1] rfl rfl (by decide) (by decide) hk1 hFc hP1 hD1
  generalize H1 = H at hP hS ⊢
  have hP : va_P (dC, dI) vwCl [(h0, .inr (3, [.ref q_1, .int 0, .int 0, .null, .null, .null, .int 0])), (q_1, .inl (k_2, 40, .inr (.inr (.inr (.inr f_340))))), (q_342, .inr (7, [.int 0, .int 0, .int 0, .int 0, .ref q_344, .ref q_345, .ref q_346, .ref q_347, .ref q_348, .ref q_349, .ref q_350, .ref q_351, .ref q_352]))] H := hP
  have hD : va_D A [(h0, .inr (3, [.ref q_1, .int 0, .int 0, .null, .null, .null, .int 0])), (q_1, .inl (k_2, 40, .inr (.inr (.inr (.inr f_340))))), (q_342, .inr (7, [.int 0, .int 0, .int 0, .int 0, .ref q_344, .ref q_345, .ref q_346, .ref q_347, .ref q_348, .ref q_349, .ref q_350, .ref q_351, .ref q_352]))] := hD
  refine W.widen (k := 271) (n := 1957) (by decide) (by decide) ?_
  refine va_astq (r := (RX7, TX7, 13)) hx hb hK hP hD hS 1 0 2 7 rfl rfl rfl rfl (by unfold vp_in; decide) dX3_init_33 (fun H locs hP hD hS => ?_)
  have hP : va_P (dC, dI) vwCl [(h0, .inr (3, [.ref q_1, .int 0, .int 0, .null, .null, .null, .int 0])), (q_1, .inl (k_2, 40, .inr (.inr (.inr (.inr (va_up f_340 (26 : Int32).toNatClampNeg (some q_342))))))), (q_342, .inr (7, [.int 0, .int 0, .int 0, .int 0, .ref q_344, .ref q_345, .ref q_346, .ref q_347, .ref q_348, .ref q_349, .ref q_350, .ref q_351, .ref q_352]))] H := hP
  have hD : va_D A [(h0, .inr (3, [.ref q_1, .int 0, .int 0, .null, .null, .null, .int 0])), (q_1, .inl (k_2, 40, .inr (.inr (.inr (.inr (va_up f_340 (26 : Int32).toNatClampNeg (some q_342))))))), (q_342, .inr (7, [.int 0, .int 0, .int 0, .int 0, .ref q_344, .ref q_345, .ref q_346, .ref q_347, .ref q_348, .ref q_349, .ref q_350, .ref q_351, .ref q_352]))] := hD
  refine lv_iinc (v := 27) (lv' := [(1, .int 27), (0, .ref h0)]) hx hb dX3_init_34 hl (k := 0) rfl (by decide) (by decide) rfl (fun ls hl => ?_)
  refine lv_goto (tgt := 15) hx hb dX3_init_37 (by decide) ?_
  have hP := hP.sub (ws' := [(h0, .inr (3, [.ref q_1, .int 0, .int 0, .null, .null, .null, .int 0])), (q_1, .inl (k_2, 40, .inr (.inr (.inr (.inr (va_up f_340 (26 : Int32).toNatClampNeg (some q_342)))))))]) [0, 1] rfl
  have hD := hD.sub (ws' := [(h0, .inr (3, [.ref q_1, .int 0, .int 0, .null, .null, .null, .int 0])), (q_1, .inl (k_2, 40, .inr (.inr (.inr (.inr (va_up f_340 (26 : Int32).toNatClampNeg (some q_342)))))))]) [0, 1] (by decide) rfl
  generalize (va_up f_340 (26 : Int32).toNatClampNeg (some q_342)) = f_353 at hP hD
  have hP : va_P (dC, dI) vwCl [(h0, .inr (3, [.ref q_1, .int 0, .int 0, .null, .null, .null, .int 0])), (q_1, .inl (k_2, 40, .inr (.inr (.inr (.inr f_353)))))] H := hP
  have hD : va_D A [(h0, .inr (3, [.ref q_1, .int 0, .int 0, .null, .null, .null, .int 0])), (q_1, .inl (k_2, 40, .inr (.inr (.inr (.inr f_353)))))] := hD
  refine lv_iload_n hx hb dX3_init_15 rfl (lv_at hl 0 rfl) ?_
  refine lv_bipush (v := 40) hx hb dX3_init_16 (by decide) ?_
  refine lv_icmp_ge (tgt := 40) hx hb dX3_init_18 (by decide) (fun c_354 => absurd c_354 (by decide)) (fun c_354 => ?_)
  refine lv_aload_n hx hb dX3_init_21 rfl (lv_at hl 1 rfl) ?_
  refine va_get (D := (dC, dI)) (ci := 3) (v := .ref q_1) (C := RX3) (T := TX3) (N := 7) hx hb hts iw_c_X3_init_X3 hown hK hP 0 rfl rfl 0 (by decide) (hts (.fieldLink RX3 13 "BuoyVote$History" "before" "[LBuoyVote$Sea;") (List.mem_of_getElem? (i := 5) rfl)) (fun _ h9 => h9) rfl dX3_init_22 ?_
  refine lv_iload_n hx hb dX3_init_25 rfl (lv_at hl 0 rfl) ?_
  refine va_new (ci := 7) (fs := [.int 0, .int 0, .int 0, .int 0, .null, .null, .null, .null, .null, .null, .null, .null, .null]) (C := RX7) (T := TX7) (N := 13) hx hb hts iw_c_X3_init_X7 tyX7 tyX7_ok hown (hts (.classLink RX3 11 RX7) (List.mem_of_getElem? (i := 4) rfl)) (hts (.instantiable RX7 13) (List.mem_of_getElem? (i := 6) rfl)) (hts (.initialized RX7) (List.mem_of_getElem? (i := 7) rfl)) hK hP hD hS hA rfl (vn_X7) (Nat.le_of_ble_eq_true rfl) (Nat.le_of_ble_eq_true rfl) dX3_init_26 (fun q_355 H hP hD hS => ?_)
  have hP : va_P (dC, dI) vwCl [(h0, .inr (3, [.ref q_1, .int 0, .int 0, .null, .null, .null, .int 0])), (q_1, .inl (k_2, 40, .inr (.inr (.inr (.inr f_353))))), (q_355, .inr (7, [.int 0, .int 0, .int 0, .int 0, .null, .null, .null, .null, .null, .null, .null, .null, .null]))] H := hP
  have hD : va_D A [(h0, .inr (3, [.ref q_1, .int 0, .int 0, .null, .null, .null, .int 0])), (q_1, .inl (k_2, 40, .inr (.inr (.inr (.inr f_353))))), (q_355, .inr (7, [.int 0, .int 0, .int 0, .int 0, .null, .null, .null, .null, .null, .null, .null, .null, .null]))] := hD
  refine W.widen (k := 272) (n := 1970) (by decide) (by decide) ?_
  refine lv_dup hx hb dX3_init_29 rfl ?_
  have hPc := hP.sub (ws' := [(q_355, .inr (7, [.int 0, .int 0, .int 0, .int 0, .null, .null, .null, .null, .null, .null, .null, .null, .null]))]) [2] rfl
  have hDc := hD.sub (ws' := [(q_355, .inr (7, [.int 0, .int 0, .int 0, .int 0, .null, .null, .null, .null, .null, .null, .null, .null, .null]))]) [2] (by decide) rfl
  have hKc := hK.sub (tys' := []) [] rfl
  have hFc := va_free (wc := [(q_355, .inr (7, [.int 0, .int 0, .int 0, .int 0, .null, .null, .null, .null, .null, .null, .null, .null, .null]))]) hD hS hA [2] rfl
  refine va_callv (va_runI (As := []) (rest := [.ref q_355, .int 27, .ref q_1]) ⟨hx, hb, hml, hown, hts⟩ (c_X7_init l dC dI H.size q_355) (cwI 0 hts gf_c_X3_init_c_X7_init rfl rfl rfl (hts (.initialized RX7) (List.mem_of_getElem? (i := 7) rfl)) (hts (.methodLink RX3 17 yX7_init) (List.mem_of_getElem? (i := 20) rfl)) (hts (.instanceMethod yX7_init) (List.mem_of_getElem? (i := 21) rfl)) rfl (by decide +kernel) ⟨Nat.le_of_ble_eq_true rfl, Nat.le_of_ble_eq_true rfl⟩) ⟨fun a U g mk q => by obtain ⟨q0, q1, qP, qK, qD⟩ := q; exact ⟨q0, q1, qP, va_K.moved (u := U) (U := U.calling g mk a) (Vm.Alike.refl U.vm) qK, qD⟩, fun U hU hW => ⟨rfl, by rw [hU], by rw [hU]; exact hPc, va_K.moved hW.alike hKc, hDc.weaken (fun _ _ _ _ => trivial)⟩⟩ rfl rfl hl.1 rfl (lv_room (Nat.le_of_ble_eq_true rfl)) dX3_init_30 ⟨Nat.le_of_ble_eq_true rfl, Nat.le_of_ble_eq_true rfl⟩) hS (fun q _ h => hFc q h) hFc (fun u t H1 locs ht hvm hw hB hz1 hk1 hS => ?_)
  obtain ⟨q_357, q_358, q_359, q_360, q_361, q_362, q_363, q_364, q_365, hP1, hK1, hD1⟩ := hB
  rw [ht] at hP1
  have hK1 := va_K.moved hvm.symm hK1
  obtain ⟨hP, hD⟩ := va_join (wr := [(h0, .inr (3, [.ref q_1, .int 0, .int 0, .null, .null, .null, .int 0])), (q_1, .inl (k_2, 40, .inr (.inr (.inr (.inr f_353)))))]) (w1 := [(q_355, .inr (7, [.int 0, .int 0, .int 0, .int 0, .ref q_357, .ref q_358, .ref q_359, .ref q_360, .ref q_361, .ref q_362, .ref q_363, .ref q_364, .ref q_365]))]) hP hD [2] [0, 1] rfl rfl (by decide) (by decide) hk1 hFc hP1 hD1
  generalize H1 = H at hP hS ⊢
  have hP : va_P (dC, dI) vwCl [(h0, .inr (3, [.ref q_1, .int 0, .int 0, .null, .null, .null, .int 0])), (q_1, .inl (k_2, 40, .inr (.inr (.inr (.inr f_353))))), (q_355, .inr (7, [.int 0, .int 0, .int 0, .int 0, .ref q_357, .ref q_358, .ref q_359, .ref q_360, .ref q_361, .ref q_362, .ref q_363, .ref q_364, .ref q_365]))] H := hP
  have hD : va_D A [(h0, .inr (3, [.ref q_1, .int 0, .int 0, .null, .null, .null, .int 0])), (q_1, .inl (k_2, 40, .inr (.inr (.inr (.inr f_353))))), (q_355, .inr (7, [.int 0, .int 0, .int 0, .int 0, .ref q_357, .ref q_358, .ref q_359, .ref q_360, .ref q_361, .ref q_362, .ref q_363, .ref q_364, .ref q_365]))] := hD
  refine W.widen (k := 281) (n := 2028) (by decide) (by decide) ?_
  refine va_astq (r := (RX7, TX7, 13)) hx hb hK hP hD hS 1 0 2 7 rfl rfl rfl rfl (by unfold vp_in; decide) dX3_init_33 (fun H locs hP hD hS => ?_)
  have hP : va_P (dC, dI) vwCl [(h0, .inr (3, [.ref q_1, .int 0, .int 0, .null, .null, .null, .int 0])), (q_1, .inl (k_2, 40, .inr (.inr (.inr (.inr (va_up f_353 (27 : Int32).toNatClampNeg (some q_355))))))), (q_355, .inr (7, [.int 0, .int 0, .int 0, .int 0, .ref q_357, .ref q_358, .ref q_359, .ref q_360, .ref q_361, .ref q_362, .ref q_363, .ref q_364, .ref q_365]))] H := hP
  have hD : va_D A [(h0, .inr (3, [.ref q_1, .int 0, .int 0, .null, .null, .null, .int 0])), (q_1, .inl (k_2, 40, .inr (.inr (.inr (.inr (va_up f_353 (27 : Int32).toNatClampNeg (some q_355))))))), (q_355, .inr (7, [.int 0, .int 0, .int 0, .int 0, .ref q_357, .ref q_358, .ref q_359, .ref q_360, .ref q_361, .ref q_362, .ref q_363, .ref q_364, .ref q_365]))] := hD
  refine lv_iinc (v := 28) (lv' := [(1, .int 28), (0, .ref h0)]) hx hb dX3_init_34 hl (k := 0) rfl (by decide) (by decide) rfl (fun ls hl => ?_)
  refine lv_goto (tgt := 15) hx hb dX3_init_37 (by decide) ?_
  have hP := hP.sub (ws' := [(h0, .inr (3, [.ref q_1, .int 0, .int 0, .null, .null, .null, .int 0])), (q_1, .inl (k_2, 40, .inr (.inr (.inr (.inr (va_up f_353 (27 : Int32).toNatClampNeg (some q_355)))))))]) [0, 1] rfl
  have hD := hD.sub (ws' := [(h0, .inr (3, [.ref q_1, .int 0, .int 0, .null, .null, .null, .int 0])), (q_1, .inl (k_2, 40, .inr (.inr (.inr (.inr (va_up f_353 (27 : Int32).toNatClampNeg (some q_355)))))))]) [0, 1] (by decide) rfl
  generalize (va_up f_353 (27 : Int32).toNatClampNeg (some q_355)) = f_366 at hP hD
  have hP : va_P (dC, dI) vwCl [(h0, .inr (3, [.ref q_1, .int 0, .int 0, .null, .null, .null, .int 0])), (q_1, .inl (k_2, 40, .inr (.inr (.inr (.inr f_366)))))] H := hP
  have hD : va_D A [(h0, .inr (3, [.ref q_1, .int 0, .int 0, .null, .null, .null, .int 0])), (q_1, .inl (k_2, 40, .inr (.inr (.inr (.inr f_366)))))] := hD
  refine lv_iload_n hx hb dX3_init_15 rfl (lv_at hl 0 rfl) ?_
  refine lv_bipush (v := 40) hx hb dX3_init_16 (by decide) ?_
  refine lv_icmp_ge (tgt := 40) hx hb dX3_init_18 (by decide) (fun c_367 => absurd c_367 (by decide)) (fun c_367 => ?_)
  refine lv_aload_n hx hb dX3_init_21 rfl (lv_at hl 1 rfl) ?_
  refine va_get (D := (dC, dI)) (ci := 3) (v := .ref q_1) (C := RX3) (T := TX3) (N := 7) hx hb hts iw_c_X3_init_X3 hown hK hP 0 rfl rfl 0 (by decide) (hts (.fieldLink RX3 13 "BuoyVote$History" "before" "[LBuoyVote$Sea;") (List.mem_of_getElem? (i := 5) rfl)) (fun _ h9 => h9) rfl dX3_init_22 ?_
  refine lv_iload_n hx hb dX3_init_25 rfl (lv_at hl 0 rfl) ?_
  refine va_new (ci := 7) (fs := [.int 0, .int 0, .int 0, .int 0, .null, .null, .null, .null, .null, .null, .null, .null, .null]) (C := RX7) (T := TX7) (N := 13) hx hb hts iw_c_X3_init_X7 tyX7 tyX7_ok hown (hts (.classLink RX3 11 RX7) (List.mem_of_getElem? (i := 4) rfl)) (hts (.instantiable RX7 13) (List.mem_of_getElem? (i := 6) rfl)) (hts (.initialized RX7) (List.mem_of_getElem? (i := 7) rfl)) hK hP hD hS hA rfl (vn_X7) (Nat.le_of_ble_eq_true rfl) (Nat.le_of_ble_eq_true rfl) dX3_init_26 (fun q_368 H hP hD hS => ?_)
  have hP : va_P (dC, dI) vwCl [(h0, .inr (3, [.ref q_1, .int 0, .int 0, .null, .null, .null, .int 0])), (q_1, .inl (k_2, 40, .inr (.inr (.inr (.inr f_366))))), (q_368, .inr (7, [.int 0, .int 0, .int 0, .int 0, .null, .null, .null, .null, .null, .null, .null, .null, .null]))] H := hP
  have hD : va_D A [(h0, .inr (3, [.ref q_1, .int 0, .int 0, .null, .null, .null, .int 0])), (q_1, .inl (k_2, 40, .inr (.inr (.inr (.inr f_366))))), (q_368, .inr (7, [.int 0, .int 0, .int 0, .int 0, .null, .null, .null, .null, .null, .null, .null, .null, .null]))] := hD
  refine W.widen (k := 282) (n := 2041) (by decide) (by decide) ?_
  refine lv_dup hx hb dX3_init_29 rfl ?_
  have hPc := hP.sub (ws' := [(q_368, .inr (7, [.int 0, .int 0, .int 0, .int 0, .null, .null, .null, .null, .null, .null, .null, .null, .null]))]) [2] rfl
  have hDc := hD.sub (ws' := [(q_368, .inr (7, [.int 0, .int 0, .int 0, .int 0, .null, .null, .null, .null, .null, .null, .null, .null, .null]))]) [2] (by decide) rfl
  have hKc := hK.sub (tys' := []) [] rfl
  have hFc := va_free (wc := [(q_368, .inr (7, [.int 0, .int 0, .int 0, .int 0, .null, .null, .null, .null, .null, .null, .null, .null, .null]))]) hD hS hA [2] rfl
  refine va_callv (va_runI (As := []) (rest := [.ref q_368, .int 28, .ref q_1]) ⟨hx, hb, hml, hown, hts⟩ (c_X7_init l dC dI H.size q_368) (cwI 0 hts gf_c_X3_init_c_X7_init rfl rfl rfl (hts (.initialized RX7) (List.mem_of_getElem? (i := 7) rfl)) (hts (.methodLink RX3 17 yX7_init) (List.mem_of_getElem? (i := 20) rfl)) (hts (.instanceMethod yX7_init) (List.mem_of_getElem? (i := 21) rfl)) rfl (by decide +kernel) ⟨Nat.le_of_ble_eq_true rfl, Nat.le_of_ble_eq_true rfl⟩) ⟨fun a U g mk q => by obtain ⟨q0, q1, qP, qK, qD⟩ := q; exact ⟨q0, q1, qP, va_K.moved (u := U) (U := U.calling g mk a) (Vm.Alike.refl U.vm) qK, qD⟩, fun U hU hW => ⟨rfl, by rw [hU], by rw [hU]; exact hPc, va_K.moved hW.alike hKc, hDc.weaken (fun _ _ _ _ => trivial)⟩⟩ rfl rfl hl.1 rfl (lv_room (Nat.le_of_ble_eq_true rfl)) dX3_init_30 ⟨Nat.le_of_ble_eq_true rfl, Nat.le_of_ble_eq_true rfl⟩) hS (fun q _ h => hFc q h) hFc (fun u t H1 locs ht hvm hw hB hz1 hk1 hS => ?_)
  obtain ⟨q_370, q_371, q_372, q_373, q_374, q_375, q_376, q_377, q_378, hP1, hK1, hD1⟩ := hB
  rw [ht] at hP1
  have hK1 := va_K.moved hvm.symm hK1
  obtain ⟨hP, hD⟩ := va_join (wr := [(h0, .inr (3, [.ref q_1, .int 0, .int 0, .null, .null, .null, .int 0])), (q_1, .inl (k_2, 40, .inr (.inr (.inr (.inr f_366)))))]) (w1 := [(q_368, .inr (7, [.int 0, .int 0, .int 0, .int 0, .ref q_370, .ref q_371, .ref q_372, .ref q_373, .ref q_374, .ref q_375, .ref q_376, .ref q_377, .ref q_378]))]) hP hD [2] [0, 1] rfl rfl (by decide) (by decide) hk1 hFc hP1 hD1
  generalize H1 = H at hP hS ⊢
  have hP : va_P (dC, dI) vwCl [(h0, .inr (3, [.ref q_1, .int 0, .int 0, .null, .null, .null, .int 0])), (q_1, .inl (k_2, 40, .inr (.inr (.inr (.inr f_366))))), (q_368, .inr (7, [.int 0, .int 0, .int 0, .int 0, .ref q_370, .ref q_371, .ref q_372, .ref q_373, .ref q_374, .ref q_375, .ref q_376, .ref q_377, .ref q_378]))] H := hP
  have hD : va_D A [(h0, .inr (3, [.ref q_1, .int 0, .int 0, .null, .null, .null, .int 0])), (q_1, .inl (k_2, 40, .inr (.inr (.inr (.inr f_366))))), (q_368, .inr (7, [.int 0, .int 0, .int 0, .int 0, .ref q_370, .ref q_371, .ref q_372, .ref q_373, .ref q_374, .ref q_375, .ref q_376, .ref q_377, .ref q_378]))] := hD
  refine W.widen (k := 291) (n := 2099) (by decide) (by decide) ?_
  refine va_astq (r := (RX7, TX7, 13)) hx hb hK hP hD hS 1 0 2 7 rfl rfl rfl rfl (by unfold vp_in; decide) dX3_init_33 (fun H locs hP hD hS => ?_)
  have hP : va_P (dC, dI) vwCl [(h0, .inr (3, [.ref q_1, .int 0, .int 0, .null, .null, .null, .int 0])), (q_1, .inl (k_2, 40, .inr (.inr (.inr (.inr (va_up f_366 (28 : Int32).toNatClampNeg (some q_368))))))), (q_368, .inr (7, [.int 0, .int 0, .int 0, .int 0, .ref q_370, .ref q_371, .ref q_372, .ref q_373, .ref q_374, .ref q_375, .ref q_376, .ref q_377, .ref q_378]))] H := hP
  have hD : va_D A [(h0, .inr (3, [.ref q_1, .int 0, .int 0, .null, .null, .null, .int 0])), (q_1, .inl (k_2, 40, .inr (.inr (.inr (.inr (va_up f_366 (28 : Int32).toNatClampNeg (some q_368))))))), (q_368, .inr (7, [.int 0, .int 0, .int 0, .int 0, .ref q_370, .ref q_371, .ref q_372, .ref q_373, .ref q_374, .ref q_375, .ref q_376, .ref q_377, .ref q_378]))] := hD
  refine lv_iinc (v := 29) (lv' := [(1, .int 29), (0, .ref h0)]) hx hb dX3_init_34 hl (k := 0) rfl (by decide) (by decide) rfl (fun ls hl => ?_)
  refine lv_goto (tgt := 15) hx hb dX3_init_37 (by decide) ?_
  have hP := hP.sub (ws' := [(h0, .inr (3, [.ref q_1, .int 0, .int 0, .null, .null, .null, .int 0])), (q_1, .inl (k_2, 40, .inr (.inr (.inr (.inr (va_up f_366 (28 : Int32).toNatClampNeg (some q_368)))))))]) [0, 1] rfl
  have hD := hD.sub (ws' := [(h0, .inr (3, [.ref q_1, .int 0, .int 0, .null, .null, .null, .int 0])), (q_1, .inl (k_2, 40, .inr (.inr (.inr (.inr (va_up f_366 (28 : Int32).toNatClampNeg (some q_368)))))))]) [0, 1] (by decide) rfl
  generalize (va_up f_366 (28 : Int32).toNatClampNeg (some q_368)) = f_379 at hP hD
  have hP : va_P (dC, dI) vwCl [(h0, .inr (3, [.ref q_1, .int 0, .int 0, .null, .null, .null, .int 0])), (q_1, .inl (k_2, 40, .inr (.inr (.inr (.inr f_379)))))] H := hP
  have hD : va_D A [(h0, .inr (3, [.ref q_1, .int 0, .int 0, .null, .null, .null, .int 0])), (q_1, .inl (k_2, 40, .inr (.inr (.inr (.inr f_379)))))] := hD
  refine lv_iload_n hx hb dX3_init_15 rfl (lv_at hl 0 rfl) ?_
  refine lv_bipush (v := 40) hx hb dX3_init_16 (by decide) ?_
  refine lv_icmp_ge (tgt := 40) hx hb dX3_init_18 (by decide) (fun c_380 => absurd c_380 (by decide)) (fun c_380 => ?_)
  refine lv_aload_n hx hb dX3_init_21 rfl (lv_at hl 1 rfl) ?_
  refine va_get (D := (dC, dI)) (ci := 3) (v := .ref q_1) (C := RX3) (T := TX3) (N := 7) hx hb hts iw_c_X3_init_X3 hown hK hP 0 rfl rfl 0 (by decide) (hts (.fieldLink RX3 13 "BuoyVote$History" "before" "[LBuoyVote$Sea;") (List.mem_of_getElem? (i := 5) rfl)) (fun _ h9 => h9) rfl dX3_init_22 ?_
  refine lv_iload_n hx hb dX3_init_25 rfl (lv_at hl 0 rfl) ?_
  refine va_new (ci := 7) (fs := [.int 0, .int 0, .int 0, .int 0, .null, .null, .null, .null, .null, .null, .null, .null, .null]) (C := RX7) (T := TX7) (N := 13) hx hb hts iw_c_X3_init_X7 tyX7 tyX7_ok hown (hts (.classLink RX3 11 RX7) (List.mem_of_getElem? (i := 4) rfl)) (hts (.instantiable RX7 13) (List.mem_of_getElem? (i := 6) rfl)) (hts (.initialized RX7) (List.mem_of_getElem? (i := 7) rfl)) hK hP hD hS hA rfl (vn_X7) (Nat.le_of_ble_eq_true rfl) (Nat.le_of_ble_eq_true rfl) dX3_init_26 (fun q_381 H hP hD hS => ?_)
  have hP : va_P (dC, dI) vwCl [(h0, .inr (3, [.ref q_1, .int 0, .int 0, .null, .null, .null, .int 0])), (q_1, .inl (k_2, 40, .inr (.inr (.inr (.inr f_379))))), (q_381, .inr (7, [.int 0, .int 0, .int 0, .int 0, .null, .null, .null, .null, .null, .null, .null, .null, .null]))] H := hP
  have hD : va_D A [(h0, .inr (3, [.ref q_1, .int 0, .int 0, .null, .null, .null, .int 0])), (q_1, .inl (k_2, 40, .inr (.inr (.inr (.inr f_379))))), (q_381, .inr (7, [.int 0, .int 0, .int 0, .int 0, .null, .null, .null, .null, .null, .null, .null, .null, .null]))] := hD
  refine W.widen (k := 292) (n := 2112) (by decide) (by decide) ?_
  refine lv_dup hx hb dX3_init_29 rfl ?_
  have hPc := hP.sub (ws' := [(q_381, .inr (7, [.int 0, .int 0, .int 0, .int 0, .null, .null, .null, .null, .null, .null, .null, .null, .null]))]) [2] rfl
  have hDc := hD.sub (ws' := [(q_381, .inr (7, [.int 0, .int 0, .int 0, .int 0, .null, .null, .null, .null, .null, .null, .null, .null, .null]))]) [2] (by decide) rfl
  have hKc := hK.sub (tys' := []) [] rfl
  have hFc := va_free (wc := [(q_381, .inr (7, [.int 0, .int 0, .int 0, .int 0, .null, .null, .null, .null, .null, .null, .null, .null, .null]))]) hD hS hA [2] rfl
  refine va_callv (va_runI (As := []) (rest := [.ref q_381, .int 29, .ref q_1]) ⟨hx, hb, hml, hown, hts⟩ (c_X7_init l dC dI H.size q_381) (cwI 0 hts gf_c_X3_init_c_X7_init rfl rfl rfl (hts (.initialized RX7) (List.mem_of_getElem? (i := 7) rfl)) (hts (.methodLink RX3 17 yX7_init) (List.mem_of_getElem? (i := 20) rfl)) (hts (.instanceMethod yX7_init) (List.mem_of_getElem? (i := 21) rfl)) rfl (by decide +kernel) ⟨Nat.le_of_ble_eq_true rfl, Nat.le_of_ble_eq_true rfl⟩) ⟨fun a U g mk q => by obtain ⟨q0, q1, qP, qK, qD⟩ := q; exact ⟨q0, q1, qP, va_K.moved (u := U) (U := U.calling g mk a) (Vm.Alike.refl U.vm) qK, qD⟩, fun U hU hW => ⟨rfl, by rw [hU], by rw [hU]; exact hPc, va_K.moved hW.alike hKc, hDc.weaken (fun _ _ _ _ => trivial)⟩⟩ rfl rfl hl.1 rfl (lv_room (Nat.le_of_ble_eq_true rfl)) dX3_init_30 ⟨Nat.le_of_ble_eq_true rfl, Nat.le_of_ble_eq_true rfl⟩) hS (fun q _ h => hFc q h) hFc (fun u t H1 locs ht hvm hw hB hz1 hk1 hS => ?_)
  obtain ⟨q_383, q_384, q_385, q_386, q_387, q_388, q_389, q_390, q_391, hP1, hK1, hD1⟩ := hB
  rw [ht] at hP1
  have hK1 := va_K.moved hvm.symm hK1
  obtain ⟨hP, hD⟩ := va_join (wr := [(h0, .inr (3, [.ref q_1, .int 0, .int 0, .null, .null, .null, .int 0])), (q_1, .inl (k_2, 40, .inr (.inr (.inr (.inr f_379)))))]) (w1 := [(q_381, .inr (7, [.int 0, .int 0, .int 0, .int 0, .ref q_383, .ref q_384, .ref q_385, .ref q_386, .ref q_387, .ref q_388, .ref q_389, .ref q_390, .ref q_391]))]) hP hD [2] [0, 1] rfl rfl (by decide) (by decide) hk1 hFc hP1 hD1
  generalize H1 = H at hP hS ⊢
  have hP : va_P (dC, dI) vwCl [(h0, .inr (3, [.ref q_1, .int 0, .int 0, .null, .null, .null, .int 0])), (q_1, .inl (k_2, 40, .inr (.inr (.inr (.inr f_379))))), (q_381, .inr (7, [.int 0, .int 0, .int 0, .int 0, .ref q_383, .ref q_384, .ref q_385, .ref q_386, .ref q_387, .ref q_388, .ref q_389, .ref q_390, .ref q_391]))] H := hP
  have hD : va_D A [(h0, .inr (3, [.ref q_1, .int 0, .int 0, .null, .null, .null, .int 0])), (q_1, .inl (k_2, 40, .inr (.inr (.inr (.inr f_379))))), (q_381, .inr (7, [.int 0, .int 0, .int 0, .int 0, .ref q_383, .ref q_384, .ref q_385, .ref q_386, .ref q_387, .ref q_388, .ref q_389, .ref q_390, .ref q_391]))] := hD
  refine W.widen (k := 301) (n := 2170) (by decide) (by decide) ?_
  refine va_astq (r := (RX7, TX7, 13)) hx hb hK hP hD hS 1 0 2 7 rfl rfl rfl rfl (by unfold vp_in; decide) dX3_init_33 (fun H locs hP hD hS => ?_)
  have hP : va_P (dC, dI) vwCl [(h0, .inr (3, [.ref q_1, .int 0, .int 0, .null, .null, .null, .int 0])), (q_1, .inl (k_2, 40, .inr (.inr (.inr (.inr (va_up f_379 (29 : Int32).toNatClampNeg (some q_381))))))), (q_381, .inr (7, [.int 0, .int 0, .int 0, .int 0, .ref q_383, .ref q_384, .ref q_385, .ref q_386, .ref q_387, .ref q_388, .ref q_389, .ref q_390, .ref q_391]))] H := hP
  have hD : va_D A [(h0, .inr (3, [.ref q_1, .int 0, .int 0, .null, .null, .null, .int 0])), (q_1, .inl (k_2, 40, .inr (.inr (.inr (.inr (va_up f_379 (29 : Int32).toNatClampNeg (some q_381))))))), (q_381, .inr (7, [.int 0, .int 0, .int 0, .int 0, .ref q_383, .ref q_384, .ref q_385, .ref q_386, .ref q_387, .ref q_388, .ref q_389, .ref q_390, .ref q_391]))] := hD
  refine lv_iinc (v := 30) (lv' := [(1, .int 30), (0, .ref h0)]) hx hb dX3_init_34 hl (k := 0) rfl (by decide) (by decide) rfl (fun ls hl => ?_)
  refine lv_goto (tgt := 15) hx hb dX3_init_37 (by decide) ?_
  have hP := hP.sub (ws' := [(h0, .inr (3, [.ref q_1, .int 0, .int 0, .null, .null, .null, .int 0])), (q_1, .inl (k_2, 40, .inr (.inr (.inr (.inr (va_up f_379 (29 : Int32).toNatClampNeg (some q_381)))))))]) [0, 1] rfl
  have hD := hD.sub (ws' := [(h0, .inr (3, [.ref q_1, .int 0, .int 0, .null, .null, .null, .int 0])), (q_1, .inl (k_2, 40, .inr (.inr (.inr (.inr (va_up f_379 (29 : Int32).toNatClampNeg (some q_381)))))))]) [0, 1] (by decide) rfl
  generalize (va_up f_379 (29 : Int32).toNatClampNeg (some q_381)) = f_392 at hP hD
  have hP : va_P (dC, dI) vwCl [(h0, .inr (3, [.ref q_1, .int 0, .int 0, .null, .null, .null, .int 0])), (q_1, .inl (k_2, 40, .inr (.inr (.inr (.inr f_392)))))] H := hP
  have hD : va_D A [(h0, .inr (3, [.ref q_1, .int 0, .int 0, .null, .null, .null, .int 0])), (q_1, .inl (k_2, 40, .inr (.inr (.inr (.inr f_392)))))] := hD
  refine lv_iload_n hx hb dX3_init_15 rfl (lv_at hl 0 rfl) ?_
  refine lv_bipush (v := 40) hx hb dX3_init_16 (by decide) ?_
  refine lv_icmp_ge (tgt := 40) hx hb dX3_init_18 (by decide) (fun c_393 => absurd c_393 (by decide)) (fun c_393 => ?_)
  refine lv_aload_n hx hb dX3_init_21 rfl (lv_at hl 1 rfl) ?_
  refine va_get (D := (dC, dI)) (ci := 3) (v := .ref q_1) (C := RX3) (T := TX3) (N := 7) hx hb hts iw_c_X3_init_X3 hown hK hP 0 rfl rfl 0 (by decide) (hts (.fieldLink RX3 13 "BuoyVote$History" "before" "[LBuoyVote$Sea;") (List.mem_of_getElem? (i := 5) rfl)) (fun _ h9 => h9) rfl dX3_init_22 ?_
  refine lv_iload_n hx hb dX3_init_25 rfl (lv_at hl 0 rfl) ?_
  refine va_new (ci := 7) (fs := [.int 0, .int 0, .int 0, .int 0, .null, .null, .null, .null, .null, .null, .null, .null, .null]) (C := RX7) (T := TX7) (N := 13) hx hb hts iw_c_X3_init_X7 tyX7 tyX7_ok hown (hts (.classLink RX3 11 RX7) (List.mem_of_getElem? (i := 4) rfl)) (hts (.instantiable RX7 13) (List.mem_of_getElem? (i := 6) rfl)) (hts (.initialized RX7) (List.mem_of_getElem? (i := 7) rfl)) hK hP hD hS hA rfl (vn_X7) (Nat.le_of_ble_eq_true rfl) (Nat.le_of_ble_eq_true rfl) dX3_init_26 (fun q_394 H hP hD hS => ?_)
  have hP : va_P (dC, dI) vwCl [(h0, .inr (3, [.ref q_1, .int 0, .int 0, .null, .null, .null, .int 0])), (q_1, .inl (k_2, 40, .inr (.inr (.inr (.inr f_392))))), (q_394, .inr (7, [.int 0, .int 0, .int 0, .int 0, .null, .null, .null, .null, .null, .null, .null, .null, .null]))] H := hP
  have hD : va_D A [(h0, .inr (3, [.ref q_1, .int 0, .int 0, .null, .null, .null, .int 0])), (q_1, .inl (k_2, 40, .inr (.inr (.inr (.inr f_392))))), (q_394, .inr (7, [.int 0, .int 0, .int 0, .int 0, .null, .null, .null, .null, .null, .null, .null, .null, .null]))] := hD
  refine W.widen (k := 302) (n := 2183) (by decide) (by decide) ?_
  refine lv_dup hx hb dX3_init_29 rfl ?_
  have hPc := hP.sub (ws' := [(q_394, .inr (7, [.int 0, .int 0, .int 0, .int 0, .null, .null, .null, .null, .null, .null, .null, .null, .null]))]) [2] rfl
  have hDc := hD.sub (ws' := [(q_394, .inr (7, [.int 0, .int 0, .int 0, .int 0, .null, .null, .null, .null, .null, .null, .null, .null, .null]))]) [2] (by decide) rfl
  have hKc := hK.sub (tys' := []) [] rfl
  have hFc := va_free (wc := [(q_394, .inr (7, [.int 0, .int 0, .int 0, .int 0, .null, .null, .null, .null, .null, .null, .null, .null, .null]))]) hD hS hA [2] rfl
  refine va_callv (va_runI (As := []) (rest := [.ref q_394, .int 30, .ref q_1]) ⟨hx, hb, hml, hown, hts⟩ (c_X7_init l dC dI H.size q_394) (cwI 0 hts gf_c_X3_init_c_X7_init rfl rfl rfl (hts (.initialized RX7) (List.mem_of_getElem? (i := 7) rfl)) (hts (.methodLink RX3 17 yX7_init) (List.mem_of_getElem? (i := 20) rfl)) (hts (.instanceMethod yX7_init) (List.mem_of_getElem? (i := 21) rfl)) rfl (by decide +kernel) ⟨Nat.le_of_ble_eq_true rfl, Nat.le_of_ble_eq_true rfl⟩) ⟨fun a U g mk q => by obtain ⟨q0, q1, qP, qK, qD⟩ := q; exact ⟨q0, q1, qP, va_K.moved (u := U) (U := U.calling g mk a) (Vm.Alike.refl U.vm) qK, qD⟩, fun U hU hW => ⟨rfl, by rw [hU], by rw [hU]; exact hPc, va_K.moved hW.alike hKc, hDc.weaken (fun _ _ _ _ => trivial)⟩⟩ rfl rfl hl.1 rfl (lv_room (Nat.le_of_ble_eq_true rfl)) dX3_init_30 ⟨Nat.le_of_ble_eq_true rfl, Nat.le_of_ble_eq_true rfl⟩) hS (fun q _ h => hFc q h) hFc (fun u t H1 locs ht hvm hw hB hz1 hk1 hS => ?_)
  obtain ⟨q_396, q_397, q_398, q_399, q_400, q_401, q_402, q_403, q_404, hP1, hK1, hD1⟩ := hB
  rw [ht] at hP1
  have hK1 := va_K.moved hvm.symm hK1
  obtain ⟨hP, hD⟩ := va_join (wr := [(h0, .inr (3, [.ref q_1, .int 0, .int 0, .null, .null, .null, .int 0])), (q_1, .inl (k_2, 40, .inr (.inr (.inr (.inr f_392)))))]) (w1 := [(q_394, .inr (7, [.int 0, .int 0, .int 0, .int 0, .ref q_396, .ref q_397, .ref q_398, .ref q_399, .ref q_400, .ref q_401, .ref q_402, .ref q_403, .ref q_404]))]) hP hD [2] [0, 1] rfl rfl (by decide) (by decide) hk1 hFc hP1 hD1
  generalize H1 = H at hP hS ⊢
  have hP : va_P (dC, dI) vwCl [(h0, .inr (3, [.ref q_1, .int 0, .int 0, .null, .null, .null, .int 0])), (q_1, .inl (k_2, 40, .inr (.inr (.inr (.inr f_392))))), (q_394, .inr (7, [.int 0, .int 0, .int 0, .int 0, .ref q_396, .ref q_397, .ref q_398, .ref q_399, .ref q_400, .ref q_401, .ref q_402, .ref q_403, .ref q_404]))] H := hP
  have hD : va_D A [(h0, .inr (3, [.ref q_1, .int 0, .int 0, .null, .null, .null, .int 0])), (q_1, .inl (k_2, 40, .inr (.inr (.inr (.inr f_392))))), (q_394, .inr (7, [.int 0, .int 0, .int 0, .int 0, .ref q_396, .ref q_397, .ref q_398, .ref q_399, .ref q_400, .ref q_401, .ref q_402, .ref q_403, .ref q_404]))] := hD
  refine W.widen (k := 311) (n := 2241) (by decide) (by decide) ?_
  refine va_astq (r := (RX7, TX7, 13)) hx hb hK hP hD hS 1 0 2 7 rfl rfl rfl rfl (by unfold vp_in; decide) dX3_init_33 (fun H locs hP hD hS => ?_)
  have hP : va_P (dC, dI) vwCl [(h0, .inr (3, [.ref q_1, .int 0, .int 0, .null, .null, .null, .int 0])), (q_1, .inl (k_2, 40, .inr (.inr (.inr (.inr (va_up f_392 (30 : Int32).toNatClampNeg (some q_394))))))), (q_394, .inr (7, [.int 0, .int 0, .int 0, .int 0, .ref q_396, .ref q_397, .ref q_398, .ref q_399, .ref q_400, .ref q_401, .ref q_402, .ref q_403, .ref q_404]))] H := hP
  have hD : va_D A [(h0, .inr (3, [.ref q_1, .int 0, .int 0, .null, .null, .null, .int 0])), (q_1, .inl (k_2, 40, .inr (.inr (.inr (.inr (va_up f_392 (30 : Int32).toNatClampNeg (some q_394))))))), (q_394, .inr (7, [.int 0, .int 0, .int 0, .int 0, .ref q_396, .ref q_397, .ref q_398, .ref q_399, .ref q_400, .ref q_401, .ref q_402, .ref q_403, .ref q_404]))] := hD
  refine lv_iinc (v := 31) (lv' := [(1, .int 31), (0, .ref h0)]) hx hb dX3_init_34 hl (k := 0) rfl (by decide) (by decide) rfl (fun ls hl => ?_)
  refine lv_goto (tgt := 15) hx hb dX3_init_37 (by decide) ?_
  have hP := hP.sub (ws' := [(h0, .inr (3, [.ref q_1, .int 0, .int 0, .null, .null, .null, .int 0])), (q_1, .inl (k_2, 40, .inr (.inr (.inr (.inr (va_up f_392 (30 : Int32).toNatClampNeg (some q_394)))))))]) [0, 1] rfl
  have hD := hD.sub (ws' := [(h0, .inr (3, [.ref q_1, .int 0, .int 0, .null, .null, .null, .int 0])), (q_1, .inl (k_2, 40, .inr (.inr (.inr (.inr (va_up f_392 (30 : Int32).toNatClampNeg (some q_394)))))))]) [0, 1] (by decide) rfl
  generalize (va_up f_392 (30 : Int32).toNatClampNeg (some q_394)) = f_405 at hP hD
  have hP : va_P (dC, dI) vwCl [(h0, .inr (3, [.ref q_1, .int 0, .int 0, .null, .null, .null, .int 0])), (q_1, .inl (k_2, 40, .inr (.inr (.inr (.inr f_405)))))] H := hP
  have hD : va_D A [(h0, .inr (3, [.ref q_1, .int 0, .int 0, .null, .null, .null, .int 0])), (q_1, .inl (k_2, 40, .inr (.inr (.inr (.inr f_405)))))] := hD
  refine lv_iload_n hx hb dX3_init_15 rfl (lv_at hl 0 rfl) ?_
  refine lv_bipush (v := 40) hx hb dX3_init_16 (by decide) ?_
  refine lv_icmp_ge (tgt := 40) hx hb dX3_init_18 (by decide) (fun c_406 => absurd c_406 (by decide)) (fun c_406 => ?_)
  refine lv_aload_n hx hb dX3_init_21 rfl (lv_at hl 1 rfl) ?_
  refine va_get (D := (dC, dI)) (ci := 3) (v := .ref q_1) (C := RX3) (T := TX3) (N := 7) hx hb hts iw_c_X3_init_X3 hown hK hP 0 rfl rfl 0 (by decide) (hts (.fieldLink RX3 13 "BuoyVote$History" "before" "[LBuoyVote$Sea;") (List.mem_of_getElem? (i := 5) rfl)) (fun _ h9 => h9) rfl dX3_init_22 ?_
  refine lv_iload_n hx hb dX3_init_25 rfl (lv_at hl 0 rfl) ?_
  refine va_new (ci := 7) (fs := [.int 0, .int 0, .int 0, .int 0, .null, .null, .null, .null, .null, .null, .null, .null, .null]) (C := RX7) (T := TX7) (N := 13) hx hb hts iw_c_X3_init_X7 tyX7 tyX7_ok hown (hts (.classLink RX3 11 RX7) (List.mem_of_getElem? (i := 4) rfl)) (hts (.instantiable RX7 13) (List.mem_of_getElem? (i := 6) rfl)) (hts (.initialized RX7) (List.mem_of_getElem? (i := 7) rfl)) hK hP hD hS hA rfl (vn_X7) (Nat.le_of_ble_eq_true rfl) (Nat.le_of_ble_eq_true rfl) dX3_init_26 (fun q_407 H hP hD hS => ?_)
  have hP : va_P (dC, dI) vwCl [(h0, .inr (3, [.ref q_1, .int 0, .int 0, .null, .null, .null, .int 0])), (q_1, .inl (k_2, 40, .inr (.inr (.inr (.inr f_405))))), (q_407, .inr (7, [.int 0, .int 0, .int 0, .int 0, .null, .null, .null, .null, .null, .null, .null, .null, .null]))] H := hP
  have hD : va_D A [(h0, .inr (3, [.ref q_1, .int 0, .int 0, .null, .null, .null, .int 0])), (q_1, .inl (k_2, 40, .inr (.inr (.inr (.inr f_405))))), (q_407, .inr (7, [.int 0, .int 0, .int 0, .int 0, .null, .null, .null, .null, .null, .null, .null, .null, .null]))] := hD
  refine W.widen (k := 312) (n := 2254) (by decide) (by decide) ?_
  refine lv_dup hx hb dX3_init_29 rfl ?_
  have hPc := hP.sub (ws' := [(q_407, .inr (7, [.int 0, .int 0, .int 0, .int 0, .null, .null, .null, .null, .null, .null, .null, .null, .null]))]) [2] rfl
  have hDc := hD.sub (ws' := [(q_407, .inr (7, [.int 0, .int 0, .int 0, .int 0, .null, .null, .null, .null, .null, .null, .null, .null, .null]))]) [2] (by decide) rfl
  have hKc := hK.sub (tys' := []) [] rfl
  have hFc := va_free (wc := [(q_407, .inr (7, [.int 0, .int 0, .int 0, .int 0, .null, .null, .null, .null, .null, .null, .null, .null, .null]))]) hD hS hA [2] rfl
  refine va_callv (va_runI (As := []) (rest := [.ref q_407, .int 31, .ref q_1]) ⟨hx, hb, hml, hown, hts⟩ (c_X7_init l dC dI H.size q_407) (cwI 0 hts gf_c_X3_init_c_X7_init rfl rfl rfl (hts (.initialized RX7) (List.mem_of_getElem? (i := 7) rfl)) (hts (.methodLink RX3 17 yX7_init) (List.mem_of_getElem? (i := 20) rfl)) (hts (.instanceMethod yX7_init) (List.mem_of_getElem? (i := 21) rfl)) rfl (by decide +kernel) ⟨Nat.le_of_ble_eq_true rfl, Nat.le_of_ble_eq_true rfl⟩) ⟨fun a U g mk q => by obtain ⟨q0, q1, qP, qK, qD⟩ := q; exact ⟨q0, q1, qP, va_K.moved (u := U) (U := U.calling g mk a) (Vm.Alike.refl U.vm) qK, qD⟩, fun U hU hW => ⟨rfl, by rw [hU], by rw [hU]; exact hPc, va_K.moved hW.alike hKc, hDc.weaken (fun _ _ _ _ => trivial)⟩⟩ rfl rfl hl.1 rfl (lv_room (Nat.le_of_ble_eq_true rfl)) dX3_init_30 ⟨Nat.le_of_ble_eq_true rfl, Nat.le_of_ble_eq_true rfl⟩) hS (fun q _ h => hFc q h) hFc (fun u t H1 locs ht hvm hw hB hz1 hk1 hS => ?_)
  obtain ⟨q_409, q_410, q_411, q_412, q_413, q_414, q_415, q_416, q_417, hP1, hK1, hD1⟩ := hB
  rw [ht] at hP1
  have hK1 := va_K.moved hvm.symm hK1
  obtain ⟨hP, hD⟩ := va_join (wr := [(h0, .inr (3, [.ref q_1, .int 0, .int 0, .null, .null, .null, .int 0])), (q_1, .inl (k_2, 40, .inr (.inr (.inr (.inr f_405)))))]) (w1 := [(q_407, .inr (7, [.int 0, .int 0, .int 0, .int 0, .ref q_409, .ref q_410, .ref q_411, .ref q_412, .ref q_413, .ref q_414, .ref q_415, .ref q_416, .ref q_417]))]) hP hD [2] [0, 1] rfl rfl (by decide) (by decide) hk1 hFc hP1 hD1
  generalize H1 = H at hP hS ⊢
  have hP : va_P (dC, dI) vwCl [(h0, .inr (3, [.ref q_1, .int 0, .int 0, .null, .null, .null, .int 0])), (q_1, .inl (k_2, 40, .inr (.inr (.inr (.inr f_405))))), (q_407, .inr (7, [.int 0, .int 0, .int 0, .int 0, .ref q_409, .ref q_410, .ref q_411, .ref q_412, .ref q_413, .ref q_414, .ref q_415, .ref q_416, .ref q_417]))] H := hP
  have hD : va_D A [(h0, .inr (3, [.ref q_1, .int 0, .int 0, .null, .null, .null, .int 0])), (q_1, .inl (k_2, 40, .inr (.inr (.inr (.inr f_405))))), (q_407, .inr (7, [.int 0, .int 0, .int 0, .int 0, .ref q_409, .ref q_410, .ref q_411, .ref q_412, .ref q_413, .ref q_414, .ref q_415, .ref q_416, .ref q_417]))] := hD
  refine W.widen (k := 321) (n := 2312) (by decide) (by decide) ?_
  refine va_astq (r := (RX7, TX7, 13)) hx hb hK hP hD hS 1 0 2 7 rfl rfl rfl rfl (by unfold vp_in; decide) dX3_init_33 (fun H locs hP hD hS => ?_)
  have hP : va_P (dC, dI) vwCl [(h0, .inr (3, [.ref q_1, .int 0, .int 0, .null, .null, .null, .int 0])), (q_1, .inl (k_2, 40, .inr (.inr (.inr (.inr (va_up f_405 (31 : Int32).toNatClampNeg (some q_407))))))), (q_407, .inr (7, [.int 0, .int 0, .int 0, .int 0, .ref q_409, .ref q_410, .ref q_411, .ref q_412, .ref q_413, .ref q_414, .ref q_415, .ref q_416, .ref q_417]))] H := hP
  have hD : va_D A [(h0, .inr (3, [.ref q_1, .int 0, .int 0, .null, .null, .null, .int 0])), (q_1, .inl (k_2, 40, .inr (.inr (.inr (.inr (va_up f_405 (31 : Int32).toNatClampNeg (some q_407))))))), (q_407, .inr (7, [.int 0, .int 0, .int 0, .int 0, .ref q_409, .ref q_410, .ref q_411, .ref q_412, .ref q_413, .ref q_414, .ref q_415, .ref q_416, .ref q_417]))] := hD
  refine lv_iinc (v := 32) (lv' := [(1, .int 32), (0, .ref h0)]) hx hb dX3_init_34 hl (k := 0) rfl (by decide) (by decide) rfl (fun ls hl => ?_)
  refine lv_goto (tgt := 15) hx hb dX3_init_37 (by decide) ?_
  have hP := hP.sub (ws' := [(h0, .inr (3, [.ref q_1, .int 0, .int 0, .null, .null, .null, .int 0])), (q_1, .inl (k_2, 40, .inr (.inr (.inr (.inr (va_up f_405 (31 : Int32).toNatClampNeg (some q_407)))))))]) [0, 1] rfl
  have hD := hD.sub (ws' := [(h0, .inr (3, [.ref q_1, .int 0, .int 0, .null, .null, .null, .int 0])), (q_1, .inl (k_2, 40, .inr (.inr (.inr (.inr (va_up f_405 (31 : Int32).toNatClampNeg (some q_407)))))))]) [0, 1] (by decide) rfl
  generalize (va_up f_405 (31 : Int32).toNatClampNeg (some q_407)) = f_418 at hP hD
  have hP : va_P (dC, dI) vwCl [(h0, .inr (3, [.ref q_1, .int 0, .int 0, .null, .null, .null, .int 0])), (q_1, .inl (k_2, 40, .inr (.inr (.inr (.inr f_418)))))] H := hP
  have hD : va_D A [(h0, .inr (3, [.ref q_1, .int 0, .int 0, .null, .null, .null, .int 0])), (q_1, .inl (k_2, 40, .inr (.inr (.inr (.inr f_418)))))] := hD
  refine lv_iload_n hx hb dX3_init_15 rfl (lv_at hl 0 rfl) ?_
  refine lv_bipush (v := 40) hx hb dX3_init_16 (by decide) ?_
  refine lv_icmp_ge (tgt := 40) hx hb dX3_init_18 (by decide) (fun c_419 => absurd c_419 (by decide)) (fun c_419 => ?_)
  refine lv_aload_n hx hb dX3_init_21 rfl (lv_at hl 1 rfl) ?_
  refine va_get (D := (dC, dI)) (ci := 3) (v := .ref q_1) (C := RX3) (T := TX3) (N := 7) hx hb hts iw_c_X3_init_X3 hown hK hP 0 rfl rfl 0 (by decide) (hts (.fieldLink RX3 13 "BuoyVote$History" "before" "[LBuoyVote$Sea;") (List.mem_of_getElem? (i := 5) rfl)) (fun _ h9 => h9) rfl dX3_init_22 ?_
  refine lv_iload_n hx hb dX3_init_25 rfl (lv_at hl 0 rfl) ?_
  refine va_new (ci := 7) (fs := [.int 0, .int 0, .int 0, .int 0, .null, .null, .null, .null, .null, .null, .null, .null, .null]) (C := RX7) (T := TX7) (N := 13) hx hb hts iw_c_X3_init_X7 tyX7 tyX7_ok hown (hts (.classLink RX3 11 RX7) (List.mem_of_getElem? (i := 4) rfl)) (hts (.instantiable RX7 13) (List.mem_of_getElem? (i := 6) rfl)) (hts (.initialized RX7) (List.mem_of_getElem? (i := 7) rfl)) hK hP hD hS hA rfl (vn_X7) (Nat.le_of_ble_eq_true rfl) (Nat.le_of_ble_eq_true rfl) dX3_init_26 (fun q_420 H hP hD hS => ?_)
  have hP : va_P (dC, dI) vwCl [(h0, .inr (3, [.ref q_1, .int 0, .int 0, .null, .null, .null, .int 0])), (q_1, .inl (k_2, 40, .inr (.inr (.inr (.inr f_418))))), (q_420, .inr (7, [.int 0, .int 0, .int 0, .int 0, .null, .null, .null, .null, .null, .null, .null, .null, .null]))] H := hP
  have hD : va_D A [(h0, .inr (3, [.ref q_1, .int 0, .int 0, .null, .null, .null, .int 0])), (q_1, .inl (k_2, 40, .inr (.inr (.inr (.inr f_418))))), (q_420, .inr (7, [.int 0, .int 0, .int 0, .int 0, .null, .null, .null, .null, .null, .null, .null, .null, .null]))] := hD
  refine W.widen (k := 322) (n := 2325) (by decide) (by decide) ?_
  refine lv_dup hx hb dX3_init_29 rfl ?_
  have hPc := hP.sub (ws' := [(q_420, .inr (7, [.int 0, .int 0, .int 0, .int 0, .null, .null, .null, .null, .null, .null, .null, .null, .null]))]) [2] rfl
  have hDc := hD.sub (ws' := [(q_420, .inr (7, [.int 0, .int 0, .int 0, .int 0, .null, .null, .null, .null, .null, .null, .null, .null, .null]))]) [2] (by decide) rfl
  have hKc := hK.sub (tys' := []) [] rfl
  have hFc := va_free (wc := [(q_420, .inr (7, [.int 0, .int 0, .int 0, .int 0, .null, .null, .null, .null, .null, .null, .null, .null, .null]))]) hD hS hA [2] rfl
  refine va_callv (va_runI (As := []) (rest := [.ref q_420, .int 32, .ref q_1]) ⟨hx, hb, hml, hown, hts⟩ (c_X7_init l dC dI H.size q_420) (cwI 0 hts gf_c_X3_init_c_X7_init rfl rfl rfl (hts (.initialized RX7) (List.mem_of_getElem? (i := 7) rfl)) (hts (.methodLink RX3 17 yX7_init) (List.mem_of_getElem? (i := 20) rfl)) (hts (.instanceMethod yX7_init) (List.mem_of_getElem? (i := 21) rfl)) rfl (by decide +kernel) ⟨Nat.le_of_ble_eq_true rfl, Nat.le_of_ble_eq_true rfl⟩) ⟨fun a U g mk q => by obtain ⟨q0, q1, qP, qK, qD⟩ := q; exact ⟨q0, q1, qP, va_K.moved (u := U) (U := U.calling g mk a) (Vm.Alike.refl U.vm) qK, qD⟩, fun U hU hW => ⟨rfl, by rw [hU], by rw [hU]; exact hPc, va_K.moved hW.alike hKc, hDc.weaken (fun _ _ _ _ => trivial)⟩⟩ rfl rfl hl.1 rfl (lv_room (Nat.le_of_ble_eq_true rfl)) dX3_init_30 ⟨Nat.le_of_ble_eq_true rfl, Nat.le_of_ble_eq_true rfl⟩) hS (fun q _ h => hFc q h) hFc (fun u t H1 locs ht hvm hw hB hz1 hk1 hS => ?_)
  obtain ⟨q_422, q_423, q_424, q_425, q_426, q_427, q_428, q_429, q_430, hP1, hK1, hD1⟩ := hB
  rw [ht] at hP1
  have hK1 := va_K.moved hvm.symm hK1
  obtain ⟨hP, hD⟩ := va_join (wr := [(h0, .inr (3, [.ref q_1, .int 0, .int 0, .null, .null, .null, .int 0])), (q_1, .inl (k_2, 40, .inr (.inr (.inr (.inr f_418)))))]) (w1 := [(q_420, .inr (7, [.int 0, .int 0, .int 0, .int 0, .ref q_422, .ref q_423, .ref q_424, .ref q_425, .ref q_426, .ref q_427, .ref q_428, .ref q_429, .ref q_430]))]) hP hD [2] [0, 1] rfl rfl (by decide) (by decide) hk1 hFc hP1 hD1
  generalize H1 = H at hP hS ⊢
  have hP : va_P (dC, dI) vwCl [(h0, .inr (3, [.ref q_1, .int 0, .int 0, .null, .null, .null, .int 0])), (q_1, .inl (k_2, 40, .inr (.inr (.inr (.inr f_418))))), (q_420, .inr (7, [.int 0, .int 0, .int 0, .int 0, .ref q_422, .ref q_423, .ref q_424, .ref q_425, .ref q_426, .ref q_427, .ref q_428, .ref q_429, .ref q_430]))] H := hP
  have hD : va_D A [(h0, .inr (3, [.ref q_1, .int 0, .int 0, .null, .null, .null, .int 0])), (q_1, .inl (k_2, 40, .inr (.inr (.inr (.inr f_418))))), (q_420, .inr (7, [.int 0, .int 0, .int 0, .int 0, .ref q_422, .ref q_423, .ref q_424, .ref q_425, .ref q_426, .ref q_427, .ref q_428, .ref q_429, .ref q_430]))] := hD
  refine W.widen (k := 331) (n := 2383) (by decide) (by decide) ?_
  refine va_astq (r := (RX7, TX7, 13)) hx hb hK hP hD hS 1 0 2 7 rfl rfl rfl rfl (by unfold vp_in; decide) dX3_init_33 (fun H locs hP hD hS => ?_)
  have hP : va_P (dC, dI) vwCl [(h0, .inr (3, [.ref q_1, .int 0, .int 0, .null, .null, .null, .int 0])), (q_1, .inl (k_2, 40, .inr (.inr (.inr (.inr (va_up f_418 (32 : Int32).toNatClampNeg (some q_420))))))), (q_420, .inr (7, [.int 0, .int 0, .int 0, .int 0, .ref q_422, .ref q_423, .ref q_424, .ref q_425, .ref q_426, .ref q_427, .ref q_428, .ref q_429, .ref q_430]))] H := hP
  have hD : va_D A [(h0, .inr (3, [.ref q_1, .int 0, .int 0, .null, .null, .null, .int 0])), (q_1, .inl (k_2, 40, .inr (.inr (.inr (.inr (va_up f_418 (32 : Int32).toNatClampNeg (some q_420))))))), (q_420, .inr (7, [.int 0, .int 0, .int 0, .int 0, .ref q_422, .ref q_423, .ref q_424, .ref q_425, .ref q_426, .ref q_427, .ref q_428, .ref q_429, .ref q_430]))] := hD
  refine lv_iinc (v := 33) (lv' := [(1, .int 33), (0, .ref h0)]) hx hb dX3_init_34 hl (k := 0) rfl (by decide) (by decide) rfl (fun ls hl => ?_)
  refine lv_goto (tgt := 15) hx hb dX3_init_37 (by decide) ?_
  have hP := hP.sub (ws' := [(h0, .inr (3, [.ref q_1, .int 0, .int 0, .null, .null, .null, .int 0])), (q_1, .inl (k_2, 40, .inr (.inr (.inr (.inr (va_up f_418 (32 : Int32).toNatClampNeg (some q_420)))))))]) [0, 1] rfl
  have hD := hD.sub (ws' := [(h0, .inr (3, [.ref q_1, .int 0, .int 0, .null, .null, .null, .int 0])), (q_1, .inl (k_2, 40, .inr (.inr (.inr (.inr (va_up f_418 (32 : Int32).toNatClampNeg (some q_420)))))))]) [0, 1] (by decide) rfl
  generalize (va_up f_418 (32 : Int32).toNatClampNeg (some q_420)) = f_431 at hP hD
  have hP : va_P (dC, dI) vwCl [(h0, .inr (3, [.ref q_1, .int 0, .int 0, .null, .null, .null, .int 0])), (q_1, .inl (k_2, 40, .inr (.inr (.inr (.inr f_431)))))] H := hP
  have hD : va_D A [(h0, .inr (3, [.ref q_1, .int 0, .int 0, .null, .null, .null, .int 0])), (q_1, .inl (k_2, 40, .inr (.inr (.inr (.inr f_431)))))] := hD
  refine lv_iload_n hx hb dX3_init_15 rfl (lv_at hl 0 rfl) ?_
  refine lv_bipush (v := 40) hx hb dX3_init_16 (by decide) ?_
  refine lv_icmp_ge (tgt := 40) hx hb dX3_init_18 (by decide) (fun c_432 => absurd c_432 (by decide)) (fun c_432 => ?_)
  refine lv_aload_n hx hb dX3_init_21 rfl (lv_at hl 1 rfl) ?_
  refine va_get (D := (dC, dI)) (ci := 3) (v := .ref q_1) (C := RX3) (T := TX3) (N := 7) hx hb hts iw_c_X3_init_X3 hown hK hP 0 rfl rfl 0 (by decide) (hts (.fieldLink RX3 13 "BuoyVote$History" "before" "[LBuoyVote$Sea;") (List.mem_of_getElem? (i := 5) rfl)) (fun _ h9 => h9) rfl dX3_init_22 ?_
  refine lv_iload_n hx hb dX3_init_25 rfl (lv_at hl 0 rfl) ?_
  refine va_new (ci := 7) (fs := [.int 0, .int 0, .int 0, .int 0, .null, .null, .null, .null, .null, .null, .null, .null, .null]) (C := RX7) (T := TX7) (N := 13) hx hb hts iw_c_X3_init_X7 tyX7 tyX7_ok hown (hts (.classLink RX3 11 RX7) (List.mem_of_getElem? (i := 4) rfl)) (hts (.instantiable RX7 13) (List.mem_of_getElem? (i := 6) rfl)) (hts (.initialized RX7) (List.mem_of_getElem? (i := 7) rfl)) hK hP hD hS hA rfl (vn_X7) (Nat.le_of_ble_eq_true rfl) (Nat.le_of_ble_eq_true rfl) dX3_init_26 (fun q_433 H hP hD hS => ?_)
  have hP : va_P (dC, dI) vwCl [(h0, .inr (3, [.ref q_1, .int 0, .int 0, .null, .null, .null, .int 0])), (q_1, .inl (k_2, 40, .inr (.inr (.inr (.inr f_431))))), (q_433, .inr (7, [.int 0, .int 0, .int 0, .int 0, .null, .null, .null, .null, .null, .null, .null, .null, .null]))] H := hP
  have hD : va_D A [(h0, .inr (3, [.ref q_1, .int 0, .int 0, .null, .null, .null, .int 0])), (q_1, .inl (k_2, 40, .inr (.inr (.inr (.inr f_431))))), (q_433, .inr (7, [.int 0, .int 0, .int 0, .int 0, .null, .null, .null, .null, .null, .null, .null, .null, .null]))] := hD
  refine W.widen (k := 332) (n := 2396) (by decide) (by decide) ?_
  refine lv_dup hx hb dX3_init_29 rfl ?_
  have hPc := hP.sub (ws' := [(q_433, .inr (7, [.int 0, .int 0, .int 0, .int 0, .null, .null, .null, .null, .null, .null, .null, .null, .null]))]) [2] rfl
  have hDc := hD.sub (ws' := [(q_433, .inr (7, [.int 0, .int 0, .int 0, .int 0, .null, .null, .null, .null, .null, .null, .null, .null, .null]))]) [2] (by decide) rfl
  have hKc := hK.sub (tys' := []) [] rfl
  have hFc := va_free (wc := [(q_433, .inr (7, [.int 0, .int 0, .int 0, .int 0, .null, .null, .null, .null, .null, .null, .null, .null, .null]))]) hD hS hA [2] rfl
  refine va_callv (va_runI (As := []) (rest := [.ref q_433, .int 33, .ref q_1]) ⟨hx, hb, hml, hown, hts⟩ (c_X7_init l dC dI H.size q_433) (cwI 0 hts gf_c_X3_init_c_X7_init rfl rfl rfl (hts (.initialized RX7) (List.mem_of_getElem? (i := 7) rfl)) (hts (.methodLink RX3 17 yX7_init) (List.mem_of_getElem? (i := 20) rfl)) (hts (.instanceMethod yX7_init) (List.mem_of_getElem? (i := 21) rfl)) rfl (by decide +kernel) ⟨Nat.le_of_ble_eq_true rfl, Nat.le_of_ble_eq_true rfl⟩) ⟨fun a U g mk q => by obtain ⟨q0, q1, qP, qK, qD⟩ := q; exact ⟨q0, q1, qP, va_K.moved (u := U) (U := U.calling g mk a) (Vm.Alike.refl U.vm) qK, qD⟩, fun U hU hW => ⟨rfl, by rw [hU], by rw [hU]; exact hPc, va_K.moved hW.alike hKc, hDc.weaken (fun _ _ _ _ => trivial)⟩⟩ rfl rfl hl.1 rfl (lv_room (Nat.le_of_ble_eq_true rfl)) dX3_init_30 ⟨Nat.le_of_ble_eq_true rfl, Nat.le_of_ble_eq_true rfl⟩) hS (fun q _ h => hFc q h) hFc (fun u t H1 locs ht hvm hw hB hz1 hk1 hS => ?_)
  obtain ⟨q_435, q_436, q_437, q_438, q_439, q_440, q_441, q_442, q_443, hP1, hK1, hD1⟩ := hB
  rw [ht] at hP1
  have hK1 := va_K.moved hvm.symm hK1
  obtain ⟨hP, hD⟩ := va_join (wr := [(h0, .inr (3, [.ref q_1, .int 0, .int 0, .null, .null, .null, .int 0])), (q_1, .inl (k_2, 40, .inr (.inr (.inr (.inr f_431)))))]) (w1 := [(q_433, .inr (7, [.int 0, .int 0, .int 0, .int 0, .ref q_435, .ref q_436, .ref q_437, .ref q_438, .ref q_439, .ref q_440, .ref q_441, .ref q_442, .ref q_443]))]) hP hD [2] [0, 1] rfl rfl (by decide) (by decide) hk1 hFc hP1 hD1
  generalize H1 = H at hP hS ⊢
  have hP : va_P (dC, dI) vwCl [(h0, .inr (3, [.ref q_1, .int 0, .int 0, .null, .null, .null, .int 0])), (q_1, .inl (k_2, 40, .inr (.inr (.inr (.inr f_431))))), (q_433, .inr (7, [.int 0, .int 0, .int 0, .int 0, .ref q_435, .ref q_436, .ref q_437, .ref q_438, .ref q_439, .ref q_440, .ref q_441, .ref q_442, .ref q_443]))] H := hP
  have hD : va_D A [(h0, .inr (3, [.ref q_1, .int 0, .int 0, .null, .null, .null, .int 0])), (q_1, .inl (k_2, 40, .inr (.inr (.inr (.inr f_431))))), (q_433, .inr (7, [.int 0, .int 0, .int 0, .int 0, .ref q_435, .ref q_436, .ref q_437, .ref q_438, .ref q_439, .ref q_440, .ref q_441, .ref q_442, .ref q_443]))] := hD
  refine W.widen (k := 341) (n := 2454) (by decide) (by decide) ?_
  refine va_astq (r := (RX7, TX7, 13)) hx hb hK hP hD hS 1 0 2 7 rfl rfl rfl rfl (by unfold vp_in; decide) dX3_init_33 (fun H locs hP hD hS => ?_)
  have hP : va_P (dC, dI) vwCl [(h0, .inr (3, [.ref q_1, .int 0, .int 0, .null, .null, .null, .int 0])), (q_1, .inl (k_2, 40, .inr (.inr (.inr (.inr (va_up f_431 (33 : Int32).toNatClampNeg (some q_433))))))), (q_433, .inr (7, [.int 0, .int 0, .int 0, .int 0, .ref q_435, .ref q_436, .ref q_437, .ref q_438, .ref q_439, .ref q_440, .ref q_441, .ref q_442, .ref q_443]))] H := hP
  have hD : va_D A [(h0, .inr (3, [.ref q_1, .int 0, .int 0, .null, .null, .null, .int 0])), (q_1, .inl (k_2, 40, .inr (.inr (.inr (.inr (va_up f_431 (33 : Int32).toNatClampNeg (some q_433))))))), (q_433, .inr (7, [.int 0, .int 0, .int 0, .int 0, .ref q_435, .ref q_436, .ref q_437, .ref q_438, .ref q_439, .ref q_440, .ref q_441, .ref q_442, .ref q_443]))] := hD
  refine lv_iinc (v := 34) (lv' := [(1, .int 34), (0, .ref h0)]) hx hb dX3_init_34 hl (k := 0) rfl (by decide) (by decide) rfl (fun ls hl => ?_)
  refine lv_goto (tgt := 15) hx hb dX3_init_37 (by decide) ?_
  have hP := hP.sub (ws' := [(h0, .inr (3, [.ref q_1, .int 0, .int 0, .null, .null, .null, .int 0])), (q_1, .inl (k_2, 40, .inr (.inr (.inr (.inr (va_up f_431 (33 : Int32).toNatClampNeg (some q_433)))))))]) [0, 1] rfl
  have hD := hD.sub (ws' := [(h0, .inr (3, [.ref q_1, .int 0, .int 0, .null, .null, .null, .int 0])), (q_1, .inl (k_2, 40, .inr (.inr (.inr (.inr (va_up f_431 (33 : Int32).toNatClampNeg (some q_433)))))))]) [0, 1] (by decide) rfl
  generalize (va_up f_431 (33 : Int32).toNatClampNeg (some q_433)) = f_444 at hP hD
  have hP : va_P (dC, dI) vwCl [(h0, .inr (3, [.ref q_1, .int 0, .int 0, .null, .null, .null, .int 0])), (q_1, .inl (k_2, 40, .inr (.inr (.inr (.inr f_444)))))] H := hP
  have hD : va_D A [(h0, .inr (3, [.ref q_1, .int 0, .int 0, .null, .null, .null, .int 0])), (q_1, .inl (k_2, 40, .inr (.inr (.inr (.inr f_444)))))] := hD
  refine lv_iload_n hx hb dX3_init_15 rfl (lv_at hl 0 rfl) ?_
  refine lv_bipush (v := 40) hx hb dX3_init_16 (by decide) ?_
  refine lv_icmp_ge (tgt := 40) hx hb dX3_init_18 (by decide) (fun c_445 => absurd c_445 (by decide)) (fun c_445 => ?_)
  refine lv_aload_n hx hb dX3_init_21 rfl (lv_at hl 1 rfl) ?_
  refine va_get (D := (dC, dI)) (ci := 3) (v := .ref q_1) (C := RX3) (T := TX3) (N := 7) hx hb hts iw_c_X3_init_X3 hown hK hP 0 rfl rfl 0 (by decide) (hts (.fieldLink RX3 13 "BuoyVote$History" "before" "[LBuoyVote$Sea;") (List.mem_of_getElem? (i := 5) rfl)) (fun _ h9 => h9) rfl dX3_init_22 ?_
  refine lv_iload_n hx hb dX3_init_25 rfl (lv_at hl 0 rfl) ?_
  refine va_new (ci := 7) (fs := [.int 0, .int 0, .int 0, .int 0, .null, .null, .null, .null, .null, .null, .null, .null, .null]) (C := RX7) (T := TX7) (N := 13) hx hb hts iw_c_X3_init_X7 tyX7 tyX7_ok hown (hts (.classLink RX3 11 RX7) (List.mem_of_getElem? (i := 4) rfl)) (hts (.instantiable RX7 13) (List.mem_of_getElem? (i := 6) rfl)) (hts (.initialized RX7) (List.mem_of_getElem? (i := 7) rfl)) hK hP hD hS hA rfl (vn_X7) (Nat.le_of_ble_eq_true rfl) (Nat.le_of_ble_eq_true rfl) dX3_init_26 (fun q_446 H hP hD hS => ?_)
  have hP : va_P (dC, dI) vwCl [(h0, .inr (3, [.ref q_1, .int 0, .int 0, .null, .null, .null, .int 0])), (q_1, .inl (k_2, 40, .inr (.inr (.inr (.inr f_444))))), (q_446, .inr (7, [.int 0, .int 0, .int 0, .int 0, .null, .null, .null, .null, .null, .null, .null, .null, .null]))] H := hP
  have hD : va_D A [(h0, .inr (3, [.ref q_1, .int 0, .int 0, .null, .null, .null, .int 0])), (q_1, .inl (k_2, 40, .inr (.inr (.inr (.inr f_444))))), (q_446, .inr (7, [.int 0, .int 0, .int 0, .int 0, .null, .null, .null, .null, .null, .null, .null, .null, .null]))] := hD
  refine W.widen (k := 342) (n := 2467) (by decide) (by decide) ?_
  refine lv_dup hx hb dX3_init_29 rfl ?_
  have hPc := hP.sub (ws' := [(q_446, .inr (7, [.int 0, .int 0, .int 0, .int 0, .null, .null, .null, .null, .null, .null, .null, .null, .null]))]) [2] rfl
  have hDc := hD.sub (ws' := [(q_446, .inr (7, [.int 0, .int 0, .int 0, .int 0, .null, .null, .null, .null, .null, .null, .null, .null, .null]))]) [2] (by decide) rfl
  have hKc := hK.sub (tys' := []) [] rfl
  have hFc := va_free (wc := [(q_446, .inr (7, [.int 0, .int 0, .int 0, .int 0, .null, .null, .null, .null, .null, .null, .null, .null, .null]))]) hD hS hA [2] rfl
  refine va_callv (va_runI (As := []) (rest := [.ref q_446, .int 34, .ref q_1]) ⟨hx, hb, hml, hown, hts⟩ (c_X7_init l dC dI H.size q_446) (cwI 0 hts gf_c_X3_init_c_X7_init rfl rfl rfl (hts (.initialized RX7) (List.mem_of_getElem? (i := 7) rfl)) (hts (.methodLink RX3 17 yX7_init) (List.mem_of_getElem? (i := 20) rfl)) (hts (.instanceMethod yX7_init) (List.mem_of_getElem? (i := 21) rfl)) rfl (by decide +kernel) ⟨Nat.le_of_ble_eq_true rfl, Nat.le_of_ble_eq_true rfl⟩) ⟨fun a U g mk q => by obtain ⟨q0, q1, qP, qK, qD⟩ := q; exact ⟨q0, q1, qP, va_K.moved (u := U) (U := U.calling g mk a) (Vm.Alike.refl U.vm) qK, qD⟩, fun U hU hW => ⟨rfl, by rw [hU], by rw [hU]; exact hPc, va_K.moved hW.alike hKc, hDc.weaken (fun _ _ _ _ => trivial)⟩⟩ rfl rfl hl.1 rfl (lv_room (Nat.le_of_ble_eq_true rfl)) dX3_init_30 ⟨Nat.le_of_ble_eq_true rfl, Nat.le_of_ble_eq_true rfl⟩) hS (fun q _ h => hFc q h) hFc (fun u t H1 locs ht hvm hw hB hz1 hk1 hS => ?_)
  obtain ⟨q_448, q_449, q_450, q_451, q_452, q_453, q_454, q_455, q_456, hP1, hK1, hD1⟩ := hB
  rw [ht] at hP1
  have hK1 := va_K.moved hvm.symm hK1
  obtain ⟨hP, hD⟩ := va_join (wr := [(h0, .inr (3, [.ref q_1, .int 0, .int 0, .null, .null, .null, .int 0])), (q_1, .inl (k_2, 40, .inr (.inr (.inr (.inr f_444)))))]) (w1 := [(q_446, .inr (7, [.int 0, .int 0, .int 0, .int 0, .ref q_448, .ref q_449, .ref q_450, .ref q_451, .ref q_452, .ref q_453, .ref q_454, .ref q_455, .ref q_456]))]) hP hD [2] [0, 1] rfl rfl (by decide) (by decide) hk1 hFc hP1 hD1
  generalize H1 = H at hP hS ⊢
  have hP : va_P (dC, dI) vwCl [(h0, .inr (3, [.ref q_1, .int 0, .int 0, .null, .null, .null, .int 0])), (q_1, .inl (k_2, 40, .inr (.inr (.inr (.inr f_444))))), (q_446, .inr (7, [.int 0, .int 0, .int 0, .int 0, .ref q_448, .ref q_449, .ref q_450, .ref q_451, .ref q_452, .ref q_453, .ref q_454, .ref q_455, .ref q_456]))] H := hP
  have hD : va_D A [(h0, .inr (3, [.ref q_1, .int 0, .int 0, .null, .null, .null, .int 0])), (q_1, .inl (k_2, 40, .inr (.inr (.inr (.inr f_444))))), (q_446, .inr (7, [.int 0, .int 0, .int 0, .int 0, .ref q_448, .ref q_449, .ref q_450, .ref q_451, .ref q_452, .ref q_453, .ref q_454, .ref q_455, .ref q_456]))] := hD
  refine W.widen (k := 351) (n := 2525) (by decide) (by decide) ?_
  refine va_astq (r := (RX7, TX7, 13)) hx hb hK hP hD hS 1 0 2 7 rfl rfl rfl rfl (by unfold vp_in; decide) dX3_init_33 (fun H locs hP hD hS => ?_)
  have hP : va_P (dC, dI) vwCl [(h0, .inr (3, [.ref q_1, .int 0, .int 0, .null, .null, .null, .int 0])), (q_1, .inl (k_2, 40, .inr (.inr (.inr (.inr (va_up f_444 (34 : Int32).toNatClampNeg (some q_446))))))), (q_446, .inr (7, [.int 0, .int 0, .int 0, .int 0, .ref q_448, .ref q_449, .ref q_450, .ref q_451, .ref q_452, .ref q_453, .ref q_454, .ref q_455, .ref q_456]))] H := hP
  have hD : va_D A [(h0, .inr (3, [.ref q_1, .int 0, .int 0, .null, .null, .null, .int 0])), (q_1, .inl (k_2, 40, .inr (.inr (.inr (.inr (va_up f_444 (34 : Int32).toNatClampNeg (some q_446))))))), (q_446, .inr (7, [.int 0, .int 0, .int 0, .int 0, .ref q_448, .ref q_449, .ref q_450, .ref q_451, .ref q_452, .ref q_453, .ref q_454, .ref q_455, .ref q_456]))] := hD
  refine lv_iinc (v := 35) (lv' := [(1, .int 35), (0, .ref h0)]) hx hb dX3_init_34 hl (k := 0) rfl (by decide) (by decide) rfl (fun ls hl => ?_)
  refine lv_goto (tgt := 15) hx hb dX3_init_37 (by decide) ?_
  have hP := hP.sub (ws' := [(h0, .inr (3, [.ref q_1, .int 0, .int 0, .null, .null, .null, .int 0])), (q_1, .inl (k_2, 40, .inr (.inr (.inr (.inr (va_up f_444 (34 : Int32).toNatClampNeg (some q_446)))))))]) [0, 1] rfl
  have hD := hD.sub (ws' := [(h0, .inr (3, [.ref q_1, .int 0, .int 0, .null, .null, .null, .int 0])), (q_1, .inl (k_2, 40, .inr (.inr (.inr (.inr (va_up f_444 (34 : Int32).toNatClampNeg (some q_446)))))))]) [0, 1] (by decide) rfl
  generalize (va_up f_444 (34 : Int32).toNatClampNeg (some q_446)) = f_457 at hP hD
  have hP : va_P (dC, dI) vwCl [(h0, .inr (3, [.ref q_1, .int 0, .int 0, .null, .null, .null, .int 0])), (q_1, .inl (k_2, 40, .inr (.inr (.inr (.inr f_457)))))] H := hP
  have hD : va_D A [(h0, .inr (3, [.ref q_1, .int 0, .int 0, .null, .null, .null, .int 0])), (q_1, .inl (k_2, 40, .inr (.inr (.inr (.inr f_457)))))] := hD
  refine lv_iload_n hx hb dX3_init_15 rfl (lv_at hl 0 rfl) ?_
  refine lv_bipush (v := 40) hx hb dX3_init_16 (by decide) ?_
  refine lv_icmp_ge (tgt := 40) hx hb dX3_init_18 (by decide) (fun c_458 => absurd c_458 (by decide)) (fun c_458 => ?_)
  refine lv_aload_n hx hb dX3_init_21 rfl (lv_at hl 1 rfl) ?_
  refine va_get (D := (dC, dI)) (ci := 3) (v := .ref q_1) (C := RX3) (T := TX3) (N := 7) hx hb hts iw_c_X3_init_X3 hown hK hP 0 rfl rfl 0 (by decide) (hts (.fieldLink RX3 13 "BuoyVote$History" "before" "[LBuoyVote$Sea;") (List.mem_of_getElem? (i := 5) rfl)) (fun _ h9 => h9) rfl dX3_init_22 ?_
  refine lv_iload_n hx hb dX3_init_25 rfl (lv_at hl 0 rfl) ?_
  refine va_new (ci := 7) (fs := [.int 0, .int 0, .int 0, .int 0, .null, .null, .null, .null, .null, .null, .null, .null, .null]) (C := RX7) (T := TX7) (N := 13) hx hb hts iw_c_X3_init_X7 tyX7 tyX7_ok hown (hts (.classLink RX3 11 RX7) (List.mem_of_getElem? (i := 4) rfl)) (hts (.instantiable RX7 13) (List.mem_of_getElem? (i := 6) rfl)) (hts (.initialized RX7) (List.mem_of_getElem? (i := 7) rfl)) hK hP hD hS hA rfl (vn_X7) (Nat.le_of_ble_eq_true rfl) (Nat.le_of_ble_eq_true rfl) dX3_init_26 (fun q_459 H hP hD hS => ?_)
  have hP : va_P (dC, dI) vwCl [(h0, .inr (3, [.ref q_1, .int 0, .int 0, .null, .null, .null, .int 0])), (q_1, .inl (k_2, 40, .inr (.inr (.inr (.inr f_457))))), (q_459, .inr (7, [.int 0, .int 0, .int 0, .int 0, .null, .null, .null, .null, .null, .null, .null, .null, .null]))] H := hP
  have hD : va_D A [(h0, .inr (3, [.ref q_1, .int 0, .int 0, .null, .null, .null, .int 0])), (q_1, .inl (k_2, 40, .inr (.inr (.inr (.inr f_457))))), (q_459, .inr (7, [.int 0, .int 0, .int 0, .int 0, .null, .null, .null, .null, .null, .null, .null, .null, .null]))] := hD
  refine W.widen (k := 352) (n := 2538) (by decide) (by decide) ?_
  refine lv_dup hx hb dX3_init_29 rfl ?_
  have hPc := hP.sub (ws' := [(q_459, .inr (7, [.int 0, .int 0, .int 0, .int 0, .null, .null, .null, .null, .null, .null, .null, .null, .null]))]) [2] rfl
  have hDc := hD.sub (ws' := [(q_459, .inr (7, [.int 0, .int 0, .int 0, .int 0, .null, .null, .null, .null, .null, .null, .null, .null, .null]))]) [2] (by decide) rfl
  have hKc := hK.sub (tys' := []) [] rfl
  have hFc := va_free (wc := [(q_459, .inr (7, [.int 0, .int 0, .int 0, .int 0, .null, .null, .null, .null, .null, .null, .null, .null, .null]))]) hD hS hA [2] rfl
  refine va_callv (va_runI (As := []) (rest := [.ref q_459, .int 35, .ref q_1]) ⟨hx, hb, hml, hown, hts⟩ (c_X7_init l dC dI H.size q_459) (cwI 0 hts gf_c_X3_init_c_X7_init rfl rfl rfl (hts (.initialized RX7) (List.mem_of_getElem? (i := 7) rfl)) (hts (.methodLink RX3 17 yX7_init) (List.mem_of_getElem? (i := 20) rfl)) (hts (.instanceMethod yX7_init) (List.mem_of_getElem? (i := 21) rfl)) rfl (by decide +kernel) ⟨Nat.le_of_ble_eq_true rfl, Nat.le_of_ble_eq_true rfl⟩) ⟨fun a U g mk q => by obtain ⟨q0, q1, qP, qK, qD⟩ := q; exact ⟨q0, q1, qP, va_K.moved (u := U) (U := U.calling g mk a) (Vm.Alike.refl U.vm) qK, qD⟩, fun U hU hW => ⟨rfl, by rw [hU], by rw [hU]; exact hPc, va_K.moved hW.alike hKc, hDc.weaken (fun _ _ _ _ => trivial)⟩⟩ rfl rfl hl.1 rfl (lv_room (Nat.le_of_ble_eq_true rfl)) dX3_init_30 ⟨Nat.le_of_ble_eq_true rfl, Nat.le_of_ble_eq_true rfl⟩) hS (fun q _ h => hFc q h) hFc (fun u t H1 locs ht hvm hw hB hz1 hk1 hS => ?_)
  obtain ⟨q_461, q_462, q_463, q_464, q_465, q_466, q_467, q_468, q_469, hP1, hK1, hD1⟩ := hB
  rw [ht] at hP1
  have hK1 := va_K.moved hvm.symm hK1
  obtain ⟨hP, hD⟩ := va_join (wr := [(h0, .inr (3, [.ref q_1, .int 0, .int 0, .null, .null, .null, .int 0])), (q_1, .inl (k_2, 40, .inr (.inr (.inr (.inr f_457)))))]) (w1 := [(q_459, .inr (7, [.int 0, .int 0, .int 0, .int 0, .ref q_461, .ref q_462, .ref q_463, .ref q_464, .ref q_465, .ref q_466, .ref q_467, .ref q_468, .ref q_469]))]) hP hD [2] [0, 1] rfl rfl (by decide) (by decide) hk1 hFc hP1 hD1
  generalize H1 = H at hP hS ⊢
  have hP : va_P (dC, dI) vwCl [(h0, .inr (3, [.ref q_1, .int 0, .int 0, .null, .null, .null, .int 0])), (q_1, .inl (k_2, 40, .inr (.inr (.inr (.inr f_457))))), (q_459, .inr (7, [.int 0, .int 0, .int 0, .int 0, .ref q_461, .ref q_462, .ref q_463, .ref q_464, .ref q_465, .ref q_466, .ref q_467, .ref q_468, .ref q_469]))] H := hP
  have hD : va_D A [(h0, .inr (3, [.ref q_1, .int 0, .int 0, .null, .null, .null, .int 0])), (q_1, .inl (k_2, 40, .inr (.inr (.inr (.inr f_457))))), (q_459, .inr (7, [.int 0, .int 0, .int 0, .int 0, .ref q_461, .ref q_462, .ref q_463, .ref q_464, .ref q_465, .ref q_466, .ref q_467, .ref q_468, .ref q_469]))] := hD
  refine W.widen (k := 361) (n := 2596) (by decide) (by decide) ?_
  refine va_astq (r := (RX7, TX7, 13)) hx hb hK hP hD hS 1 0 2 7 rfl rfl rfl rfl (by unfold vp_in; decide) dX3_init_33 (fun H locs hP hD hS => ?_)
  have hP : va_P (dC, dI) vwCl [(h0, .inr (3, [.ref q_1, .int 0, .int 0, .null, .null, .null, .int 0])), (q_1, .inl (k_2, 40, .inr (.inr (.inr (.inr (va_up f_457 (35 : Int32).toNatClampNeg (some q_459))))))), (q_459, .inr (7, [.int 0, .int 0, .int 0, .int 0, .ref q_461, .ref q_462, .ref q_463, .ref q_464, .ref q_465, .ref q_466, .ref q_467, .ref q_468, .ref q_469]))] H := hP
  have hD : va_D A [(h0, .inr (3, [.ref q_1, .int 0, .int 0, .null, .null, .null, .int 0])), (q_1, .inl (k_2, 40, .inr (.inr (.inr (.inr (va_up f_457 (35 : Int32).toNatClampNeg (some q_459))))))), (q_459, .inr (7, [.int 0, .int 0, .int 0, .int 0, .ref q_461, .ref q_462, .ref q_463, .ref q_464, .ref q_465, .ref q_466, .ref q_467, .ref q_468, .ref q_469]))] := hD
  refine lv_iinc (v := 36) (lv' := [(1, .int 36), (0, .ref h0)]) hx hb dX3_init_34 hl (k := 0) rfl (by decide) (by decide) rfl (fun ls hl => ?_)
  refine lv_goto (tgt := 15) hx hb dX3_init_37 (by decide) ?_
  have hP := hP.sub (ws' := [(h0, .inr (3, [.ref q_1, .int 0, .int 0, .null, .null, .null, .int 0])), (q_1, .inl (k_2, 40, .inr (.inr (.inr (.inr (va_up f_457 (35 : Int32).toNatClampNeg (some q_459)))))))]) [0, 1] rfl
  have hD := hD.sub (ws' := [(h0, .inr (3, [.ref q_1, .int 0, .int 0, .null, .null, .null, .int 0])), (q_1, .inl (k_2, 40, .inr (.inr (.inr (.inr (va_up f_457 (35 : Int32).toNatClampNeg (some q_459)))))))]) [0, 1] (by decide) rfl
  generalize (va_up f_457 (35 : Int32).toNatClampNeg (some q_459)) = f_470 at hP hD
  have hP : va_P (dC, dI) vwCl [(h0, .inr (3, [.ref q_1, .int 0, .int 0, .null, .null, .null, .int 0])), (q_1, .inl (k_2, 40, .inr (.inr (.inr (.inr f_470)))))] H := hP
  have hD : va_D A [(h0, .inr (3, [.ref q_1, .int 0, .int 0, .null, .null, .null, .int 0])), (q_1, .inl (k_2, 40, .inr (.inr (.inr (.inr f_470)))))] := hD
  refine lv_iload_n hx hb dX3_init_15 rfl (lv_at hl 0 rfl) ?_
  refine lv_bipush (v := 40) hx hb dX3_init_16 (by decide) ?_
  refine lv_icmp_ge (tgt := 40) hx hb dX3_init_18 (by decide) (fun c_471 => absurd c_471 (by decide)) (fun c_471 => ?_)
  refine lv_aload_n hx hb dX3_init_21 rfl (lv_at hl 1 rfl) ?_
  refine va_get (D := (dC, dI)) (ci := 3) (v := .ref q_1) (C := RX3) (T := TX3) (N := 7) hx hb hts iw_c_X3_init_X3 hown hK hP 0 rfl rfl 0 (by decide) (hts (.fieldLink RX3 13 "BuoyVote$History" "before" "[LBuoyVote$Sea;") (List.mem_of_getElem? (i := 5) rfl)) (fun _ h9 => h9) rfl dX3_init_22 ?_
  refine lv_iload_n hx hb dX3_init_25 rfl (lv_at hl 0 rfl) ?_
  refine va_new (ci := 7) (fs := [.int 0, .int 0, .int 0, .int 0, .null, .null, .null, .null, .null, .null, .null, .null, .null]) (C := RX7) (T := TX7) (N := 13) hx hb hts iw_c_X3_init_X7 tyX7 tyX7_ok hown (hts (.classLink RX3 11 RX7) (List.mem_of_getElem? (i := 4) rfl)) (hts (.instantiable RX7 13) (List.mem_of_getElem? (i := 6) rfl)) (hts (.initialized RX7) (List.mem_of_getElem? (i := 7) rfl)) hK hP hD hS hA rfl (vn_X7) (Nat.le_of_ble_eq_true rfl) (Nat.le_of_ble_eq_true rfl) dX3_init_26 (fun q_472 H hP hD hS => ?_)
  have hP : va_P (dC, dI) vwCl [(h0, .inr (3, [.ref q_1, .int 0, .int 0, .null, .null, .null, .int 0])), (q_1, .inl (k_2, 40, .inr (.inr (.inr (.inr f_470))))), (q_472, .inr (7, [.int 0, .int 0, .int 0, .int 0, .null, .null, .null, .null, .null, .null, .null, .null, .null]))] H := hP
  have hD : va_D A [(h0, .inr (3, [.ref q_1, .int 0, .int 0, .null, .null, .null, .int 0])), (q_1, .inl (k_2, 40, .inr (.inr (.inr (.inr f_470))))), (q_472, .inr (7, [.int 0, .int 0, .int 0, .int 0, .null, .null, .null, .null, .null, .null, .null, .null, .null]))] := hD
  refine W.widen (k := 362) (n := 2609) (by decide) (by decide) ?_
  refine lv_dup hx hb dX3_init_29 rfl ?_
  have hPc := hP.sub (ws' := [(q_472, .inr (7, [.int 0, .int 0, .int 0, .int 0, .null, .null, .null, .null, .null, .null, .null, .null, .null]))]) [2] rfl
  have hDc := hD.sub (ws' := [(q_472, .inr (7, [.int 0, .int 0, .int 0, .int 0, .null, .null, .null, .null, .null, .null, .null, .null, .null]))]) [2] (by decide) rfl
  have hKc := hK.sub (tys' := []) [] rfl
  have hFc := va_free (wc := [(q_472, .inr (7, [.int 0, .int 0, .int 0, .int 0, .null, .null, .null, .null, .null, .null, .null, .null, .null]))]) hD hS hA [2] rfl
  refine va_callv (va_runI (As := []) (rest := [.ref q_472, .int 36, .ref q_1]) ⟨hx, hb, hml, hown, hts⟩ (c_X7_init l dC dI H.size q_472) (cwI 0 hts gf_c_X3_init_c_X7_init rfl rfl rfl (hts (.initialized RX7) (List.mem_of_getElem? (i := 7) rfl)) (hts (.methodLink RX3 17 yX7_init) (List.mem_of_getElem? (i := 20) rfl)) (hts (.instanceMethod yX7_init) (List.mem_of_getElem? (i := 21) rfl)) rfl (by decide +kernel) ⟨Nat.le_of_ble_eq_true rfl, Nat.le_of_ble_eq_true rfl⟩) ⟨fun a U g mk q => by obtain ⟨q0, q1, qP, qK, qD⟩ := q; exact ⟨q0, q1, qP, va_K.moved (u := U) (U := U.calling g mk a) (Vm.Alike.refl U.vm) qK, qD⟩, fun U hU hW => ⟨rfl, by rw [hU], by rw [hU]; exact hPc, va_K.moved hW.alike hKc, hDc.weaken (fun _ _ _ _ => trivial)⟩⟩ rfl rfl hl.1 rfl (lv_room (Nat.le_of_ble_eq_true rfl)) dX3_init_30 ⟨Nat.le_of_ble_eq_true rfl, Nat.le_of_ble_eq_true rfl⟩) hS (fun q _ h => hFc q h) hFc (fun u t H1 locs ht hvm hw hB hz1 hk1 hS => ?_)
  obtain ⟨q_474, q_475, q_476, q_477, q_478, q_479, q_480, q_481, q_482, hP1, hK1, hD1⟩ := hB
  rw [ht] at hP1
  have hK1 := va_K.moved hvm.symm hK1
  obtain ⟨hP, hD⟩ := va_join (wr := [(h0, .inr (3, [.ref q_1, .int 0, .int 0, .null, .null, .null, .int 0])), (q_1, .inl (k_2, 40, .inr (.inr (.inr (.inr f_470)))))]) (w1 := [(q_472, .inr (7, [.int 0, .int 0, .int 0, .int 0, .ref q_474, .ref q_475, .ref q_476, .ref q_477, .ref q_478, .ref q_479, .ref q_480, .ref q_481, .ref q_482]))]) hP hD [2] [0, 1] rfl rfl (by decide) (by decide) hk1 hFc hP1 hD1
  generalize H1 = H at hP hS ⊢
  have hP : va_P (dC, dI) vwCl [(h0, .inr (3, [.ref q_1, .int 0, .int 0, .null, .null, .null, .int 0])), (q_1, .inl (k_2, 40, .inr (.inr (.inr (.inr f_470))))), (q_472, .inr (7, [.int 0, .int 0, .int 0, .int 0, .ref q_474, .ref q_475, .ref q_476, .ref q_477, .ref q_478, .ref q_479, .ref q_480, .ref q_481, .ref q_482]))] H := hP
  have hD : va_D A [(h0, .inr (3, [.ref q_1, .int 0, .int 0, .null, .null, .null, .int 0])), (q_1, .inl (k_2, 40, .inr (.inr (.inr (.inr f_470))))), (q_472, .inr (7, [.int 0, .int 0, .int 0, .int 0, .ref q_474, .ref q_475, .ref q_476, .ref q_477, .ref q_478, .ref q_479, .ref q_480, .ref q_481, .ref q_482]))] := hD
  refine W.widen (k := 371) (n := 2667) (by decide) (by decide) ?_
  refine va_astq (r := (RX7, TX7, 13)) hx hb hK hP hD hS 1 0 2 7 rfl rfl rfl rfl (by unfold vp_in; decide) dX3_init_33 (fun H locs hP hD hS => ?_)
  have hP : va_P (dC, dI) vwCl [(h0, .inr (3, [.ref q_1, .int 0, .int 0, .null, .null, .null, .int 0])), (q_1, .inl (k_2, 40, .inr (.inr (.inr (.inr (va_up f_470 (36 : Int32).toNatClampNeg (some q_472))))))), (q_472, .inr (7, [.int 0, .int 0, .int 0, .int 0, .ref q_474, .ref q_475, .ref q_476, .ref q_477, .ref q_478, .ref q_479, .ref q_480, .ref q_481, .ref q_482]))] H := hP
  have hD : va_D A [(h0, .inr (3, [.ref q_1, .int 0, .int 0, .null, .null, .null, .int 0])), (q_1, .inl (k_2, 40, .inr (.inr (.inr (.inr (va_up f_470 (36 : Int32).toNatClampNeg (some q_472))))))), (q_472, .inr (7, [.int 0, .int 0, .int 0, .int 0, .ref q_474, .ref q_475, .ref q_476, .ref q_477, .ref q_478, .ref q_479, .ref q_480, .ref q_481, .ref q_482]))] := hD
  refine lv_iinc (v := 37) (lv' := [(1, .int 37), (0, .ref h0)]) hx hb dX3_init_34 hl (k := 0) rfl (by decide) (by decide) rfl (fun ls hl => ?_)
  refine lv_goto (tgt := 15) hx hb dX3_init_37 (by decide) ?_
  have hP := hP.sub (ws' := [(h0, .inr (3, [.ref q_1, .int 0, .int 0, .null, .null, .null, .int 0])), (q_1, .inl (k_2, 40, .inr (.inr (.inr (.inr (va_up f_470 (36 : Int32).toNatClampNeg (some q_472)))))))]) [0, 1] rfl
  have hD := hD.sub (ws' := [(h0, .inr (3, [.ref q_1, .int 0, .int 0, .null, .null, .null, .int 0])), (q_1, .inl (k_2, 40, .inr (.inr (.inr (.inr (va_up f_470 (36 : Int32).toNatClampNeg (some q_472)))))))]) [0, 1] (by decide) rfl
  generalize (va_up f_470 (36 : Int32).toNatClampNeg (some q_472)) = f_483 at hP hD
  have hP : va_P (dC, dI) vwCl [(h0, .inr (3, [.ref q_1, .int 0, .int 0, .null, .null, .null, .int 0])), (q_1, .inl (k_2, 40, .inr (.inr (.inr (.inr f_483)))))] H := hP
  have hD : va_D A [(h0, .inr (3, [.ref q_1, .int 0, .int 0, .null, .null, .null, .int 0])), (q_1, .inl (k_2, 40, .inr (.inr (.inr (.inr f_483)))))] := hD
  refine lv_iload_n hx hb dX3_init_15 rfl (lv_at hl 0 rfl) ?_
  refine lv_bipush (v := 40) hx hb dX3_init_16 (by decide) ?_
  refine lv_icmp_ge (tgt := 40) hx hb dX3_init_18 (by decide) (fun c_484 => absurd c_484 (by decide)) (fun c_484 => ?_)
  refine lv_aload_n hx hb dX3_init_21 rfl (lv_at hl 1 rfl) ?_
  refine va_get (D := (dC, dI)) (ci := 3) (v := .ref q_1) (C := RX3) (T := TX3) (N := 7) hx hb hts iw_c_X3_init_X3 hown hK hP 0 rfl rfl 0 (by decide) (hts (.fieldLink RX3 13 "BuoyVote$History" "before" "[LBuoyVote$Sea;") (List.mem_of_getElem? (i := 5) rfl)) (fun _ h9 => h9) rfl dX3_init_22 ?_
  refine lv_iload_n hx hb dX3_init_25 rfl (lv_at hl 0 rfl) ?_
  refine va_new (ci := 7) (fs := [.int 0, .int 0, .int 0, .int 0, .null, .null, .null, .null, .null, .null, .null, .null, .null]) (C := RX7) (T := TX7) (N := 13) hx hb hts iw_c_X3_init_X7 tyX7 tyX7_ok hown (hts (.classLink RX3 11 RX7) (List.mem_of_getElem? (i := 4) rfl)) (hts (.instantiable RX7 13) (List.mem_of_getElem? (i := 6) rfl)) (hts (.initialized RX7) (List.mem_of_getElem? (i := 7) rfl)) hK hP hD hS hA rfl (vn_X7) (Nat.le_of_ble_eq_true rfl) (Nat.le_of_ble_eq_true rfl) dX3_init_26 (fun q_485 H hP hD hS => ?_)
  have hP : va_P (dC, dI) vwCl [(h0, .inr (3, [.ref q_1, .int 0, .int 0, .null, .null, .null, .int 0])), (q_1, .inl (k_2, 40, .inr (.inr (.inr (.inr f_483))))), (q_485, .inr (7, [.int 0, .int 0, .int 0, .int 0, .null, .null, .null, .null, .null, .null, .null, .null, .null]))] H := hP
  have hD : va_D A [(h0, .inr (3, [.ref q_1, .int 0, .int 0, .null, .null, .null, .int 0])), (q_1, .inl (k_2, 40, .inr (.inr (.inr (.inr f_483))))), (q_485, .inr (7, [.int 0, .int 0, .int 0, .int 0, .null, .null, .null, .null, .null, .null, .null, .null, .null]))] := hD
  refine W.widen (k := 372) (n := 2680) (by decide) (by decide) ?_
  refine lv_dup hx hb dX3_init_29 rfl ?_
  have hPc := hP.sub (ws' := [(q_485, .inr (7, [.int 0, .int 0, .int 0, .int 0, .null, .null, .null, .null, .null, .null, .null, .null, .null]))]) [2] rfl
  have hDc := hD.sub (ws' := [(q_485, .inr (7, [.int 0, .int 0, .int 0, .int 0, .null, .null, .null, .null, .null, .null, .null, .null, .null]))]) [2] (by decide) rfl
  have hKc := hK.sub (tys' := []) [] rfl
  have hFc := va_free (wc := [(q_485, .inr (7, [.int 0, .int 0, .int 0, .int 0, .null, .null, .null, .null, .null, .null, .null, .null, .null]))]) hD hS hA [2] rfl
  refine va_callv (va_runI (As := []) (rest := [.ref q_485, .int 37, .ref q_1]) ⟨hx, hb, hml, hown, hts⟩ (c_X7_init l dC dI H.size q_485) (cwI 0 hts gf_c_X3_init_c_X7_init rfl rfl rfl (hts (.initialized RX7) (List.mem_of_getElem? (i := 7) rfl)) (hts (.methodLink RX3 17 yX7_init) (List.mem_of_getElem? (i := 20) rfl)) (hts (.instanceMethod yX7_init) (List.mem_of_getElem? (i := 21) rfl)) rfl (by decide +kernel) ⟨Nat.le_of_ble_eq_true rfl, Nat.le_of_ble_eq_true rfl⟩) ⟨fun a U g mk q => by obtain ⟨q0, q1, qP, qK, qD⟩ := q; exact ⟨q0, q1, qP, va_K.moved (u := U) (U := U.calling g mk a) (Vm.Alike.refl U.vm) qK, qD⟩, fun U hU hW => ⟨rfl, by rw [hU], by rw [hU]; exact hPc, va_K.moved hW.alike hKc, hDc.weaken (fun _ _ _ _ => trivial)⟩⟩ rfl rfl hl.1 rfl (lv_room (Nat.le_of_ble_eq_true rfl)) dX3_init_30 ⟨Nat.le_of_ble_eq_true rfl, Nat.le_of_ble_eq_true rfl⟩) hS (fun q _ h => hFc q h) hFc (fun u t H1 locs ht hvm hw hB hz1 hk1 hS => ?_)
  obtain ⟨q_487, q_488, q_489, q_490, q_491, q_492, q_493, q_494, q_495, hP1, hK1, hD1⟩ := hB
  rw [ht] at hP1
  have hK1 := va_K.moved hvm.symm hK1
  obtain ⟨hP, hD⟩ := va_join (wr := [(h0, .inr (3, [.ref q_1, .int 0, .int 0, .null, .null, .null, .int 0])), (q_1, .inl (k_2, 40, .inr (.inr (.inr (.inr f_483)))))]) (w1 := [(q_485, .inr (7, [.int 0, .int 0, .int 0, .int 0, .ref q_487, .ref q_488, .ref q_489, .ref q_490, .ref q_491, .ref q_492, .ref q_493, .ref q_494, .ref q_495]))]) hP hD [2] [0, 1] rfl rfl (by decide) (by decide) hk1 hFc hP1 hD1
  generalize H1 = H at hP hS ⊢
  have hP : va_P (dC, dI) vwCl [(h0, .inr (3, [.ref q_1, .int 0, .int 0, .null, .null, .null, .int 0])), (q_1, .inl (k_2, 40, .inr (.inr (.inr (.inr f_483))))), (q_485, .inr (7, [.int 0, .int 0, .int 0, .int 0, .ref q_487, .ref q_488, .ref q_489, .ref q_490, .ref q_491, .ref q_492, .ref q_493, .ref q_494, .ref q_495]))] H := hP
  have hD : va_D A [(h0, .inr (3, [.ref q_1, .int 0, .int 0, .null, .null, .null, .int 0])), (q_1, .inl (k_2, 40, .inr (.inr (.inr (.inr f_483))))), (q_485, .inr (7, [.int 0, .int 0, .int 0, .int 0, .ref q_487, .ref q_488, .ref q_489, .ref q_490, .ref q_491, .ref q_492, .ref q_493, .ref q_494, .ref q_495]))] := hD
  refine W.widen (k := 381) (n := 2738) (by decide) (by decide) ?_
  refine va_astq (r := (RX7, TX7, 13)) hx hb hK hP hD hS 1 0 2 7 rfl rfl rfl rfl (by unfold vp_in; decide) dX3_init_33 (fun H locs hP hD hS => ?_)
  have hP : va_P (dC, dI) vwCl [(h0, .inr (3, [.ref q_1, .int 0, .int 0, .null, .null, .null, .int 0])), (q_1, .inl (k_2, 40, .inr (.inr (.inr (.inr (va_up f_483 (37 : Int32).toNatClampNeg (some q_485))))))), (q_485, .inr (7, [.int 0, .int 0, .int 0, .int 0, .ref q_487, .ref q_488, .ref q_489, .ref q_490, .ref q_491, .ref q_492, .ref q_493, .ref q_494, .ref q_495]))] H := hP
  have hD : va_D A [(h0, .inr (3, [.ref q_1, .int 0, .int 0, .null, .null, .null, .int 0])), (q_1, .inl (k_2, 40, .inr (.inr (.inr (.inr (va_up f_483 (37 : Int32).toNatClampNeg (some q_485))))))), (q_485, .inr (7, [.int 0, .int 0, .int 0, .int 0, .ref q_487, .ref q_488, .ref q_489, .ref q_490, .ref q_491, .ref q_492, .ref q_493, .ref q_494, .ref q_495]))] := hD
  refine lv_iinc (v := 38) (lv' := [(1, .int 38), (0, .ref h0)]) hx hb dX3_init_34 hl (k := 0) rfl (by decide) (by decide) rfl (fun ls hl => ?_)
  refine lv_goto (tgt := 15) hx hb dX3_init_37 (by decide) ?_
  have hP := hP.sub (ws' := [(h0, .inr (3, [.ref q_1, .int 0, .int 0, .null, .null, .null, .int 0])), (q_1, .inl (k_2, 40, .inr (.inr (.inr (.inr (va_up f_483 (37 : Int32).toNatClampNeg (some q_485)))))))]) [0, 1] rfl
  have hD := hD.sub (ws' := [(h0, .inr (3, [.ref q_1, .int 0, .int 0, .null, .null, .null, .int 0])), (q_1, .inl (k_2, 40, .inr (.inr (.inr (.inr (va_up f_483 (37 : Int32).toNatClampNeg (some q_485)))))))]) [0, 1] (by decide) rfl
  generalize (va_up f_483 (37 : Int32).toNatClampNeg (some q_485)) = f_496 at hP hD
  have hP : va_P (dC, dI) vwCl [(h0, .inr (3, [.ref q_1, .int 0, .int 0, .null, .null, .null, .int 0])), (q_1, .inl (k_2, 40, .inr (.inr (.inr (.inr f_496)))))] H := hP
  have hD : va_D A [(h0, .inr (3, [.ref q_1, .int 0, .int 0, .null, .null, .null, .int 0])), (q_1, .inl (k_2, 40, .inr (.inr (.inr (.inr f_496)))))] := hD
  refine lv_iload_n hx hb dX3_init_15 rfl (lv_at hl 0 rfl) ?_
  refine lv_bipush (v := 40) hx hb dX3_init_16 (by decide) ?_
  refine lv_icmp_ge (tgt := 40) hx hb dX3_init_18 (by decide) (fun c_497 => absurd c_497 (by decide)) (fun c_497 => ?_)
  refine lv_aload_n hx hb dX3_init_21 rfl (lv_at hl 1 rfl) ?_
  refine va_get (D := (dC, dI)) (ci := 3) (v := .ref q_1) (C := RX3) (T := TX3) (N := 7) hx hb hts iw_c_X3_init_X3 hown hK hP 0 rfl rfl 0 (by decide) (hts (.fieldLink RX3 13 "BuoyVote$History" "before" "[LBuoyVote$Sea;") (List.mem_of_getElem? (i := 5) rfl)) (fun _ h9 => h9) rfl dX3_init_22 ?_
  refine lv_iload_n hx hb dX3_init_25 rfl (lv_at hl 0 rfl) ?_
  refine va_new (ci := 7) (fs := [.int 0, .int 0, .int 0, .int 0, .null, .null, .null, .null, .null, .null, .null, .null, .null]) (C := RX7) (T := TX7) (N := 13) hx hb hts iw_c_X3_init_X7 tyX7 tyX7_ok hown (hts (.classLink RX3 11 RX7) (List.mem_of_getElem? (i := 4) rfl)) (hts (.instantiable RX7 13) (List.mem_of_getElem? (i := 6) rfl)) (hts (.initialized RX7) (List.mem_of_getElem? (i := 7) rfl)) hK hP hD hS hA rfl (vn_X7) (Nat.le_of_ble_eq_true rfl) (Nat.le_of_ble_eq_true rfl) dX3_init_26 (fun q_498 H hP hD hS => ?_)
  have hP : va_P (dC, dI) vwCl [(h0, .inr (3, [.ref q_1, .int 0, .int 0, .null, .null, .null, .int 0])), (q_1, .inl (k_2, 40, .inr (.inr (.inr (.inr f_496))))), (q_498, .inr (7, [.int 0, .int 0, .int 0, .int 0, .null, .null, .null, .null, .null, .null, .null, .null, .null]))] H := hP
  have hD : va_D A [(h0, .inr (3, [.ref q_1, .int 0, .int 0, .null, .null, .null, .int 0])), (q_1, .inl (k_2, 40, .inr (.inr (.inr (.inr f_496))))), (q_498, .inr (7, [.int 0, .int 0, .int 0, .int 0, .null, .null, .null, .null, .null, .null, .null, .null, .null]))] := hD
  refine W.widen (k := 382) (n := 2751) (by decide) (by decide) ?_
  refine lv_dup hx hb dX3_init_29 rfl ?_
  have hPc := hP.sub (ws' := [(q_498, .inr (7, [.int 0, .int 0, .int 0, .int 0, .null, .null, .null, .null, .null, .null, .null, .null, .null]))]) [2] rfl
  have hDc := hD.sub (ws' := [(q_498, .inr (7, [.int 0, .int 0, .int 0, .int 0, .null, .null, .null, .null, .null, .null, .null, .null, .null]))]) [2] (by decide) rfl
  have hKc := hK.sub (tys' := []) [] rfl
  have hFc := va_free (wc := [(q_498, .inr (7, [.int 0, .int 0, .int 0, .int 0, .null, .null, .null, .null, .null, .null, .null, .null, .null]))]) hD hS hA [2] rfl
  refine va_callv (va_runI (As := []) (rest := [.ref q_498, .int 38, .ref q_1]) ⟨hx, hb, hml, hown, hts⟩ (c_X7_init l dC dI H.size q_498) (cwI 0 hts gf_c_X3_init_c_X7_init rfl rfl rfl (hts (.initialized RX7) (List.mem_of_getElem? (i := 7) rfl)) (hts (.methodLink RX3 17 yX7_init) (List.mem_of_getElem? (i := 20) rfl)) (hts (.instanceMethod yX7_init) (List.mem_of_getElem? (i := 21) rfl)) rfl (by decide +kernel) ⟨Nat.le_of_ble_eq_true rfl, Nat.le_of_ble_eq_true rfl⟩) ⟨fun a U g mk q => by obtain ⟨q0, q1, qP, qK, qD⟩ := q; exact ⟨q0, q1, qP, va_K.moved (u := U) (U := U.calling g mk a) (Vm.Alike.refl U.vm) qK, qD⟩, fun U hU hW => ⟨rfl, by rw [hU], by rw [hU]; exact hPc, va_K.moved hW.alike hKc, hDc.weaken (fun _ _ _ _ => trivial)⟩⟩ rfl rfl hl.1 rfl (lv_room (Nat.le_of_ble_eq_true rfl)) dX3_init_30 ⟨Nat.le_of_ble_eq_true rfl, Nat.le_of_ble_eq_true rfl⟩) hS (fun q _ h => hFc q h) hFc (fun u t H1 locs ht hvm hw hB hz1 hk1 hS => ?_)
  obtain ⟨q_500, q_501, q_502, q_503, q_504, q_505, q_506, q_507, q_508, hP1, hK1, hD1⟩ := hB
  rw [ht] at hP1
  have hK1 := va_K.moved hvm.symm hK1
  obtain ⟨hP, hD⟩ := va_join (wr := [(h0, .inr (3, [.ref q_1, .int 0, .int 0, .null, .null, .null, .int 0])), (q_1, .inl (k_2, 40, .inr (.inr (.inr (.inr f_496)))))]) (w1 := [(q_498, .inr (7, [.int 0, .int 0, .int 0, .int 0, .ref q_500, .ref q_501, .ref q_502, .ref q_503, .ref q_504, .ref q_505, .ref q_506, .ref q_507, .ref q_508]))]) hP hD [2] [0, 1] rfl rfl (by decide) (by decide) hk1 hFc hP1 hD1
  generalize H1 = H at hP hS ⊢
  have hP : va_P (dC, dI) vwCl [(h0, .inr (3, [.ref q_1, .int 0, .int 0, .null, .null, .null, .int 0])), (q_1, .inl (k_2, 40, .inr (.inr (.inr (.inr f_496))))), (q_498, .inr (7, [.int 0, .int 0, .int 0, .int 0, .ref q_500, .ref q_501, .ref q_502, .ref q_503, .ref q_504, .ref q_505, .ref q_506, .ref q_507, .ref q_508]))] H := hP
  have hD : va_D A [(h0, .inr (3, [.ref q_1, .int 0, .int 0, .null, .null, .null, .int 0])), (q_1, .inl (k_2, 40, .inr (.inr (.inr (.inr f_496))))), (q_498, .inr (7, [.int 0, .int 0, .int 0, .int 0, .ref q_500, .ref q_501, .ref q_502, .ref q_503, .ref q_504, .ref q_505, .ref q_506, .ref q_507, .ref q_508]))] := hD
  refine W.widen (k := 391) (n := 2809) (by decide) (by decide) ?_
  refine va_astq (r := (RX7, TX7, 13)) hx hb hK hP hD hS 1 0 2 7 rfl rfl rfl rfl (by unfold vp_in; decide) dX3_init_33 (fun H locs hP hD hS => ?_)
  have hP : va_P (dC, dI) vwCl [(h0, .inr (3, [.ref q_1, .int 0, .int 0, .null, .null, .null, .int 0])), (q_1, .inl (k_2, 40, .inr (.inr (.inr (.inr (va_up f_496 (38 : Int32).toNatClampNeg (some q_498))))))), (q_498, .inr (7, [.int 0, .int 0, .int 0, .int 0, .ref q_500, .ref q_501, .ref q_502, .ref q_503, .ref q_504, .ref q_505, .ref q_506, .ref q_507, .ref q_508]))] H := hP
  have hD : va_D A [(h0, .inr (3, [.ref q_1, .int 0, .int 0, .null, .null, .null, .int 0])), (q_1, .inl (k_2, 40, .inr (.inr (.inr (.inr (va_up f_496 (38 : Int32).toNatClampNeg (some q_498))))))), (q_498, .inr (7, [.int 0, .int 0, .int 0, .int 0, .ref q_500, .ref q_501, .ref q_502, .ref q_503, .ref q_504, .ref q_505, .ref q_506, .ref q_507, .ref q_508]))] := hD
  refine lv_iinc (v := 39) (lv' := [(1, .int 39), (0, .ref h0)]) hx hb dX3_init_34 hl (k := 0) rfl (by decide) (by decide) rfl (fun ls hl => ?_)
  refine lv_goto (tgt := 15) hx hb dX3_init_37 (by decide) ?_
  have hP := hP.sub (ws' := [(h0, .inr (3, [.ref q_1, .int 0, .int 0, .null, .null, .null, .int 0])), (q_1, .inl (k_2, 40, .inr (.inr (.inr (.inr (va_up f_496 (38 : Int32).toNatClampNeg (some q_498)))))))]) [0, 1] rfl
  have hD := hD.sub (ws' := [(h0, .inr (3, [.ref q_1, .int 0, .int 0, .null, .null, .null, .int 0])), (q_1, .inl (k_2, 40, .inr (.inr (.inr (.inr (va_up f_496 (38 : Int32).toNatClampNeg (some q_498)))))))]) [0, 1] (by decide) rfl
  generalize (va_up f_496 (38 : Int32).toNatClampNeg (some q_498)) = f_509 at hP hD
  have hP : va_P (dC, dI) vwCl [(h0, .inr (3, [.ref q_1, .int 0, .int 0, .null, .null, .null, .int 0])), (q_1, .inl (k_2, 40, .inr (.inr (.inr (.inr f_509)))))] H := hP
  have hD : va_D A [(h0, .inr (3, [.ref q_1, .int 0, .int 0, .null, .null, .null, .int 0])), (q_1, .inl (k_2, 40, .inr (.inr (.inr (.inr f_509)))))] := hD
  refine lv_iload_n hx hb dX3_init_15 rfl (lv_at hl 0 rfl) ?_
  refine lv_bipush (v := 40) hx hb dX3_init_16 (by decide) ?_
  refine lv_icmp_ge (tgt := 40) hx hb dX3_init_18 (by decide) (fun c_510 => absurd c_510 (by decide)) (fun c_510 => ?_)
  refine lv_aload_n hx hb dX3_init_21 rfl (lv_at hl 1 rfl) ?_
  refine va_get (D := (dC, dI)) (ci := 3) (v := .ref q_1) (C := RX3) (T := TX3) (N := 7) hx hb hts iw_c_X3_init_X3 hown hK hP 0 rfl rfl 0 (by decide) (hts (.fieldLink RX3 13 "BuoyVote$History" "before" "[LBuoyVote$Sea;") (List.mem_of_getElem? (i := 5) rfl)) (fun _ h9 => h9) rfl dX3_init_22 ?_
  refine lv_iload_n hx hb dX3_init_25 rfl (lv_at hl 0 rfl) ?_
  refine va_new (ci := 7) (fs := [.int 0, .int 0, .int 0, .int 0, .null, .null, .null, .null, .null, .null, .null, .null, .null]) (C := RX7) (T := TX7) (N := 13) hx hb hts iw_c_X3_init_X7 tyX7 tyX7_ok hown (hts (.classLink RX3 11 RX7) (List.mem_of_getElem? (i := 4) rfl)) (hts (.instantiable RX7 13) (List.mem_of_getElem? (i := 6) rfl)) (hts (.initialized RX7) (List.mem_of_getElem? (i := 7) rfl)) hK hP hD hS hA rfl (vn_X7) (Nat.le_of_ble_eq_true rfl) (Nat.le_of_ble_eq_true rfl) dX3_init_26 (fun q_511 H hP hD hS => ?_)
  have hP : va_P (dC, dI) vwCl [(h0, .inr (3, [.ref q_1, .int 0, .int 0, .null, .null, .null, .int 0])), (q_1, .inl (k_2, 40, .inr (.inr (.inr (.inr f_509))))), (q_511, .inr (7, [.int 0, .int 0, .int 0, .int 0, .null, .null, .null, .null, .null, .null, .null, .null, .null]))] H := hP
  have hD : va_D A [(h0, .inr (3, [.ref q_1, .int 0, .int 0, .null, .null, .null, .int 0])), (q_1, .inl (k_2, 40, .inr (.inr (.inr (.inr f_509))))), (q_511, .inr (7, [.int 0, .int 0, .int 0, .int 0, .null, .null, .null, .null, .null, .null, .null, .null, .null]))] := hD
  refine W.widen (k := 392) (n := 2822) (by decide) (by decide) ?_
  refine lv_dup hx hb dX3_init_29 rfl ?_
  have hPc := hP.sub (ws' := [(q_511, .inr (7, [.int 0, .int 0, .int 0, .int 0, .null, .null, .null, .null, .null, .null, .null, .null, .null]))]) [2] rfl
  have hDc := hD.sub (ws' := [(q_511, .inr (7, [.int 0, .int 0, .int 0, .int 0, .null, .null, .null, .null, .null, .null, .null, .null, .null]))]) [2] (by decide) rfl
  have hKc := hK.sub (tys' := []) [] rfl
  have hFc := va_free (wc := [(q_511, .inr (7, [.int 0, .int 0, .int 0, .int 0, .null, .null, .null, .null, .null, .null, .null, .null, .null]))]) hD hS hA [2] rfl
  refine va_callv (va_runI (As := []) (rest := [.ref q_511, .int 39, .ref q_1]) ⟨hx, hb, hml, hown, hts⟩ (c_X7_init l dC dI H.size q_511) (cwI 0 hts gf_c_X3_init_c_X7_init rfl rfl rfl (hts (.initialized RX7) (List.mem_of_getElem? (i := 7) rfl)) (hts (.methodLink RX3 17 yX7_init) (List.mem_of_getElem? (i := 20) rfl)) (hts (.instanceMethod yX7_init) (List.mem_of_getElem? (i := 21) rfl)) rfl (by decide +kernel) ⟨Nat.le_of_ble_eq_true rfl, Nat.le_of_ble_eq_true rfl⟩) ⟨fun a U g mk q => by obtain ⟨q0, q1, qP, qK, qD⟩ := q; exact ⟨q0, q1, qP, va_K.moved (u := U) (U := U.calling g mk a) (Vm.Alike.refl U.vm) qK, qD⟩, fun U hU hW => ⟨rfl, by rw [hU], by rw [hU]; exact hPc, va_K.moved hW.alike hKc, hDc.weaken (fun _ _ _ _ => trivial)⟩⟩ rfl rfl hl.1 rfl (lv_room (Nat.le_of_ble_eq_true rfl)) dX3_init_30 ⟨Nat.le_of_ble_eq_true rfl, Nat.le_of_ble_eq_true rfl⟩) hS (fun q _ h => hFc q h) hFc (fun u t H1 locs ht hvm hw hB hz1 hk1 hS => ?_)
  obtain ⟨q_513, q_514, q_515, q_516, q_517, q_518, q_519, q_520, q_521, hP1, hK1, hD1⟩ := hB
  rw [ht] at hP1
  have hK1 := va_K.moved hvm.symm hK1
  obtain ⟨hP, hD⟩ := va_join (wr := [(h0, .inr (3, [.ref q_1, .int 0, .int 0, .null, .null, .null, .int 0])), (q_1, .inl (k_2, 40, .inr (.inr (.inr (.inr f_509)))))]) (w1 := [(q_511, .inr (7, [.int 0, .int 0, .int 0, .int 0, .ref q_513, .ref q_514, .ref q_515, .ref q_516, .ref q_517, .ref q_518, .ref q_519, .ref q_520, .ref q_521]))]) hP hD [2] [0, 1] rfl rfl (by decide) (by decide) hk1 hFc hP1 hD1
  generalize H1 = H at hP hS ⊢
  have hP : va_P (dC, dI) vwCl [(h0, .inr (3, [.ref q_1, .int 0, .int 0, .null, .null, .null, .int 0])), (q_1, .inl (k_2, 40, .inr (.inr (.inr (.inr f_509))))), (q_511, .inr (7, [.int 0, .int 0, .int 0, .int 0, .ref q_513, .ref q_514, .ref q_515, .ref q_516, .ref q_517, .ref q_518, .ref q_519, .ref q_520, .ref q_521]))] H := hP
  have hD : va_D A [(h0, .inr (3, [.ref q_1, .int 0, .int 0, .null, .null, .null, .int 0])), (q_1, .inl (k_2, 40, .inr (.inr (.inr (.inr f_509))))), (q_511, .inr (7, [.int 0, .int 0, .int 0, .int 0, .ref q_513, .ref q_514, .ref q_515, .ref q_516, .ref q_517, .ref q_518, .ref q_519, .ref q_520, .ref q_521]))] := hD
  refine W.widen (k := 401) (n := 2880) (by decide) (by decide) ?_
  refine va_astq (r := (RX7, TX7, 13)) hx hb hK hP hD hS 1 0 2 7 rfl rfl rfl rfl (by unfold vp_in; decide) dX3_init_33 (fun H locs hP hD hS => ?_)
  have hP : va_P (dC, dI) vwCl [(h0, .inr (3, [.ref q_1, .int 0, .int 0, .null, .null, .null, .int 0])), (q_1, .inl (k_2, 40, .inr (.inr (.inr (.inr (va_up f_509 (39 : Int32).toNatClampNeg (some q_511))))))), (q_511, .inr (7, [.int 0, .int 0, .int 0, .int 0, .ref q_513, .ref q_514, .ref q_515, .ref q_516, .ref q_517, .ref q_518, .ref q_519, .ref q_520, .ref q_521]))] H := hP
  have hD : va_D A [(h0, .inr (3, [.ref q_1, .int 0, .int 0, .null, .null, .null, .int 0])), (q_1, .inl (k_2, 40, .inr (.inr (.inr (.inr (va_up f_509 (39 : Int32).toNatClampNeg (some q_511))))))), (q_511, .inr (7, [.int 0, .int 0, .int 0, .int 0, .ref q_513, .ref q_514, .ref q_515, .ref q_516, .ref q_517, .ref q_518, .ref q_519, .ref q_520, .ref q_521]))] := hD
  refine lv_iinc (v := 40) (lv' := [(1, .int 40), (0, .ref h0)]) hx hb dX3_init_34 hl (k := 0) rfl (by decide) (by decide) rfl (fun ls hl => ?_)
  refine lv_goto (tgt := 15) hx hb dX3_init_37 (by decide) ?_
  have hP := hP.sub (ws' := [(h0, .inr (3, [.ref q_1, .int 0, .int 0, .null, .null, .null, .int 0])), (q_1, .inl (k_2, 40, .inr (.inr (.inr (.inr (va_up f_509 (39 : Int32).toNatClampNeg (some q_511)))))))]) [0, 1] rfl
  have hD := hD.sub (ws' := [(h0, .inr (3, [.ref q_1, .int 0, .int 0, .null, .null, .null, .int 0])), (q_1, .inl (k_2, 40, .inr (.inr (.inr (.inr (va_up f_509 (39 : Int32).toNatClampNeg (some q_511)))))))]) [0, 1] (by decide) rfl
  generalize (va_up f_509 (39 : Int32).toNatClampNeg (some q_511)) = f_522 at hP hD
  have hP : va_P (dC, dI) vwCl [(h0, .inr (3, [.ref q_1, .int 0, .int 0, .null, .null, .null, .int 0])), (q_1, .inl (k_2, 40, .inr (.inr (.inr (.inr f_522)))))] H := hP
  have hD : va_D A [(h0, .inr (3, [.ref q_1, .int 0, .int 0, .null, .null, .null, .int 0])), (q_1, .inl (k_2, 40, .inr (.inr (.inr (.inr f_522)))))] := hD
  refine lv_iload_n hx hb dX3_init_15 rfl (lv_at hl 0 rfl) ?_
  refine lv_bipush (v := 40) hx hb dX3_init_16 (by decide) ?_
  refine lv_icmp_ge (tgt := 40) hx hb dX3_init_18 (by decide) (fun c_523 => ?_) (fun c_523 => absurd c_523 (by decide))
  refine lv_aload_n hx hb dX3_init_40 rfl (lv_at hl 1 rfl) ?_
  refine lv_sipush (v := 300) hx hb dX3_init_41 (by decide) ?_
  refine va_newa (atype := .int) (a0 := (300, .inl (fun _ => 0))) (ty := .int) (N' := 300) hx hb (hts (.arrayClass .int) (List.mem_of_getElem? (i := 10) rfl)) rfl hK hP hD hS hA (fun cA => vp_cell_i cA 300 (fun _ => 0)) (by decide) (by decide) (by decide +kernel) (Nat.le_of_ble_eq_true rfl) (Nat.le_of_ble_eq_true rfl) dX3_init_44 (fun q_524 k_525 H hK hP hD hS => ?_)
  have hP : va_P (dC, dI) vwCl [(h0, .inr (3, [.ref q_1, .int 0, .int 0, .null, .null, .null, .int 0])), (q_1, .inl (k_2, 40, .inr (.inr (.inr (.inr f_522))))), (q_524, .inl (k_525, 300, .inl (fun _ => 0)))] H := hP
  have hD : va_D A [(h0, .inr (3, [.ref q_1, .int 0, .int 0, .null, .null, .null, .int 0])), (q_1, .inl (k_2, 40, .inr (.inr (.inr (.inr f_522))))), (q_524, .inl (k_525, 300, .inl (fun _ => 0)))] := hD
  have hK : va_K (dC, dI) vwCl [(k_2, .object RX7), (k_525, .int)] s := hK
  refine W.widen (k := 402) (n := 3180) (by decide) (by decide) ?_
  refine va_putF (D := (dC, dI)) (ci := 3) (v := .ref q_524) (ty := (.array .int)) (C := RX3) (T := TX3) (N := 7) hx hb hts iw_c_X3_init_X3 tyX3 tyX3_ok nmX3 hown hK hP hD hS 0 rfl rfl 3 (by decide) (hts (.fieldLink RX3 18 "BuoyVote$History" "log" "[I") (List.mem_of_getElem? (i := 22) rfl)) (fun _ h9 => h9) rfl hin rfl (by decide +kernel) rfl rfl (Nat.le_of_ble_eq_true rfl) dX3_init_46 (fun H locs hP hD hS => ?_)
  have hP : va_P (dC, dI) vwCl [(h0, .inr (3, [.ref q_1, .int 0, .int 0, .ref q_524, .null, .null, .int 0])), (q_1, .inl (k_2, 40, .inr (.inr (.inr (.inr f_522))))), (q_524, .inl (k_525, 300, .inl (fun _ => 0)))] H := hP
  have hD : va_D A [(h0, .inr (3, [.ref q_1, .int 0, .int 0, .ref q_524, .null, .null, .int 0])), (q_1, .inl (k_2, 40, .inr (.inr (.inr (.inr f_522))))), (q_524, .inl (k_525, 300, .inl (fun _ => 0)))] := hD
  refine lv_aload_n hx hb dX3_init_49 rfl (lv_at hl 1 rfl) ?_
  refine va_new (ci := 7) (fs := [.int 0, .int 0, .int 0, .int 0, .null, .null, .null, .null, .null, .null, .null, .null, .null]) (C := RX7) (T := TX7) (N := 13) hx hb hts iw_c_X3_init_X7 tyX7 tyX7_ok hown (hts (.classLink RX3 11 RX7) (List.mem_of_getElem? (i := 4) rfl)) (hts (.instantiable RX7 13) (List.mem_of_getElem? (i := 6) rfl)) (hts (.initialized RX7) (List.mem_of_getElem? (i := 7) rfl)) hK hP hD hS hA rfl (vn_X7) (Nat.le_of_ble_eq_true rfl) (Nat.le_of_ble_eq_true rfl) dX3_init_50 (fun q_526 H hP hD hS => ?_)
  have hP : va_P (dC, dI) vwCl [(h0, .inr (3, [.ref q_1, .int 0, .int 0, .ref q_524, .null, .null, .int 0])), (q_1, .inl (k_2, 40, .inr (.inr (.inr (.inr f_522))))), (q_524, .inl (k_525, 300, .inl (fun _ => 0))), (q_526, .inr (7, [.int 0, .int 0, .int 0, .int 0, .null, .null, .null, .null, .null, .null, .null, .null, .null]))] H := hP
  have hD : va_D A [(h0, .inr (3, [.ref q_1, .int 0, .int 0, .ref q_524, .null, .null, .int 0])), (q_1, .inl (k_2, 40, .inr (.inr (.inr (.inr f_522))))), (q_524, .inl (k_525, 300, .inl (fun _ => 0))), (q_526, .inr (7, [.int 0, .int 0, .int 0, .int 0, .null, .null, .null, .null, .null, .null, .null, .null, .null]))] := hD
  refine W.widen (k := 403) (n := 3193) (by decide) (by decide) ?_
  refine lv_dup hx hb dX3_init_53 rfl ?_
  have hPc := hP.sub (ws' := [(q_526, .inr (7, [.int 0, .int 0, .int 0, .int 0, .null, .null, .null, .null, .null, .null, .null, .null, .null]))]) [3] rfl
  have hDc := hD.sub (ws' := [(q_526, .inr (7, [.int 0, .int 0, .int 0, .int 0, .null, .null, .null, .null, .null, .null, .null, .null, .null]))]) [3] (by decide) rfl
  have hKc := hK.sub (tys' := []) [] rfl
  have hFc := va_free (wc := [(q_526, .inr (7, [.int 0, .int 0, .int 0, .int 0, .null, .null, .null, .null, .null, .null, .null, .null, .null]))]) hD hS hA [3] rfl
  refine va_callv (va_runI (As := []) (rest := [.ref q_526, .ref h0]) ⟨hx, hb, hml, hown, hts⟩ (c_X7_init l dC dI H.size q_526) (cwI 0 hts gf_c_X3_init_c_X7_init rfl rfl rfl (hts (.initialized RX7) (List.mem_of_getElem? (i := 7) rfl)) (hts (.methodLink RX3 17 yX7_init) (List.mem_of_getElem? (i := 20) rfl)) (hts (.instanceMethod yX7_init) (List.mem_of_getElem? (i := 21) rfl)) rfl (by decide +kernel) ⟨Nat.le_of_ble_eq_true rfl, Nat.le_of_ble_eq_true rfl⟩) ⟨fun a U g mk q => by obtain ⟨q0, q1, qP, qK, qD⟩ := q; exact ⟨q0, q1, qP, va_K.moved (u := U) (U := U.calling g mk a) (Vm.Alike.refl U.vm) qK, qD⟩, fun U hU hW => ⟨rfl, by rw [hU], by rw [hU]; exact hPc, va_K.moved hW.alike hKc, hDc.weaken (fun _ _ _ _ => trivial)⟩⟩ rfl rfl hl.1 rfl (lv_room (Nat.le_of_ble_eq_true rfl)) dX3_init_54 ⟨Nat.le_of_ble_eq_true rfl, Nat.le_of_ble_eq_true rfl⟩) hS (fun q _ h => hFc q h) hFc (fun u t H1 locs ht hvm hw hB hz1 hk1 hS => ?_)
  obtain ⟨q_528, q_529, q_530, q_531, q_532, q_533, q_534, q_535, q_536, hP1, hK1, hD1⟩ := hB
  rw [ht] at hP1
  have hK1 := va_K.moved hvm.symm hK1
  obtain ⟨hP, hD⟩ := va_join (wr := [(h0, .inr (3, [.ref q_1, .int 0, .int 0, .ref q_524, .null, .null, .int 0])), (q_1, .inl (k_2, 40, .inr (.inr (.inr (.inr f_522))))), (q_524, .inl (k_525, 300, .inl (fun _ => 0)))]) (w1 := [(q_526, .inr (7, [.int 0, .int 0, .int 0, .int 0, .ref q_528, .ref q_529, .ref q_530, .ref q_531, .ref q_532, .ref q_533, .ref q_534, .ref q_535, .ref q_536]))]) hP hD [3] [0, 1, 2] rfl rfl (by decide) (by decide) hk1 hFc hP1 hD1
  generalize H1 = H at hP hS ⊢
  have hP : va_P (dC, dI) vwCl [(h0, .inr (3, [.ref q_1, .int 0, .int 0, .ref q_524, .null, .null, .int 0])), (q_1, .inl (k_2, 40, .inr (.inr (.inr (.inr f_522))))), (q_524, .inl (k_525, 300, .inl (fun _ => 0))), (q_526, .inr (7, [.int 0, .int 0, .int 0, .int 0, .ref q_528, .ref q_529, .ref q_530, .ref q_531, .ref q_532, .ref q_533, .ref q_534, .ref q_535, .ref q_536]))] H := hP
  have hD : va_D A [(h0, .inr (3, [.ref q_1, .int 0, .int 0, .ref q_524, .null, .null, .int 0])), (q_1, .inl (k_2, 40, .inr (.inr (.inr (.inr f_522))))), (q_524, .inl (k_525, 300, .inl (fun _ => 0))), (q_526, .inr (7, [.int 0, .int 0, .int 0, .int 0, .ref q_528, .ref q_529, .ref q_530, .ref q_531, .ref q_532, .ref q_533, .ref q_534, .ref q_535, .ref q_536]))] := hD
  refine W.widen (k := 412) (n := 3251) (by decide) (by decide) ?_
  refine va_putF (D := (dC, dI)) (ci := 3) (v := .ref q_526) (ty := (.object "BuoyVote$Sea")) (C := RX3) (T := TX3) (N := 7) hx hb hts iw_c_X3_init_X3 tyX3 tyX3_ok nmX3 hown hK hP hD hS 0 rfl rfl 4 (by decide) (hts (.fieldLink RX3 22 "BuoyVote$History" "image" "LBuoyVote$Sea;") (List.mem_of_getElem? (i := 23) rfl)) (fun _ h9 => h9) rfl hin rfl (by decide +kernel) rfl rfl (Nat.le_of_ble_eq_true rfl) dX3_init_57 (fun H locs hP hD hS => ?_)
  have hP : va_P (dC, dI) vwCl [(h0, .inr (3, [.ref q_1, .int 0, .int 0, .ref q_524, .ref q_526, .null, .int 0])), (q_1, .inl (k_2, 40, .inr (.inr (.inr (.inr f_522))))), (q_524, .inl (k_525, 300, .inl (fun _ => 0))), (q_526, .inr (7, [.int 0, .int 0, .int 0, .int 0, .ref q_528, .ref q_529, .ref q_530, .ref q_531, .ref q_532, .ref q_533, .ref q_534, .ref q_535, .ref q_536]))] H := hP
  have hD : va_D A [(h0, .inr (3, [.ref q_1, .int 0, .int 0, .ref q_524, .ref q_526, .null, .int 0])), (q_1, .inl (k_2, 40, .inr (.inr (.inr (.inr f_522))))), (q_524, .inl (k_525, 300, .inl (fun _ => 0))), (q_526, .inr (7, [.int 0, .int 0, .int 0, .int 0, .ref q_528, .ref q_529, .ref q_530, .ref q_531, .ref q_532, .ref q_533, .ref q_534, .ref q_535, .ref q_536]))] := hD
  refine lv_aload_n hx hb dX3_init_60 rfl (lv_at hl 1 rfl) ?_
  refine lv_sipush (v := 300) hx hb dX3_init_61 (by decide) ?_
  refine va_newa (atype := .int) (a0 := (300, .inl (fun _ => 0))) (ty := .int) (N' := 300) hx hb (hts (.arrayClass .int) (List.mem_of_getElem? (i := 10) rfl)) rfl hK hP hD hS hA (fun cA => vp_cell_i cA 300 (fun _ => 0)) (by decide) (by decide) (by decide +kernel) (Nat.le_of_ble_eq_true rfl) (Nat.le_of_ble_eq_true rfl) dX3_init_64 (fun q_537 k_538 H hK hP hD hS => ?_)
  have hP : va_P (dC, dI) vwCl [(h0, .inr (3, [.ref q_1, .int 0, .int 0, .ref q_524, .ref q_526, .null, .int 0])), (q_1, .inl (k_2, 40, .inr (.inr (.inr (.inr f_522))))), (q_524, .inl (k_525, 300, .inl (fun _ => 0))), (q_526, .inr (7, [.int 0, .int 0, .int 0, .int 0, .ref q_528, .ref q_529, .ref q_530, .ref q_531, .ref q_532, .ref q_533, .ref q_534, .ref q_535, .ref q_536])), (q_537, .inl (k_538, 300, .inl (fun _ => 0)))] H := hP
  have hD : va_D A [(h0, .inr (3, [.ref q_1, .int 0, .int 0, .ref q_524, .ref q_526, .null, .int 0])), (q_1, .inl (k_2, 40, .inr (.inr (.inr (.inr f_522))))), (q_524, .inl (k_525, 300, .inl (fun _ => 0))), (q_526, .inr (7, [.int 0, .int 0, .int 0, .int 0, .ref q_528, .ref q_529, .ref q_530, .ref q_531, .ref q_532, .ref q_533, .ref q_534, .ref q_535, .ref q_536])), (q_537, .inl (k_538, 300, .inl (fun _ => 0)))] := hD
  have hK : va_K (dC, dI) vwCl [(k_2, .object RX7), (k_525, .int), (k_538, .int)] s := hK
  refine W.widen (k := 413) (n := 3551) (by decide) (by decide) ?_
  refine va_putF (D := (dC, dI)) (ci := 3) (v := .ref q_537) (ty := (.array .int)) (C := RX3) (T := TX3) (N := 7) hx hb hts iw_c_X3_init_X3 tyX3 tyX3_ok nmX3 hown hK hP hD hS 0 rfl rfl 5 (by decide) (hts (.fieldLink RX3 26 "BuoyVote$History" "imageLog" "[I") (List.mem_of_getElem? (i := 24) rfl)) (fun _ h9 => h9) rfl hin rfl (by decide +kernel) rfl rfl (Nat.le_of_ble_eq_true rfl) dX3_init_66 (fun H locs hP hD hS => ?_)
  have hP : va_P (dC, dI) vwCl [(h0, .inr (3, [.ref q_1, .int 0, .int 0, .ref q_524, .ref q_526, .ref q_537, .int 0])), (q_1, .inl (k_2, 40, .inr (.inr (.inr (.inr f_522))))), (q_524, .inl (k_525, 300, .inl (fun _ => 0))), (q_526, .inr (7, [.int 0, .int 0, .int 0, .int 0, .ref q_528, .ref q_529, .ref q_530, .ref q_531, .ref q_532, .ref q_533, .ref q_534, .ref q_535, .ref q_536])), (q_537, .inl (k_538, 300, .inl (fun _ => 0)))] H := hP
  have hD : va_D A [(h0, .inr (3, [.ref q_1, .int 0, .int 0, .ref q_524, .ref q_526, .ref q_537, .int 0])), (q_1, .inl (k_2, 40, .inr (.inr (.inr (.inr f_522))))), (q_524, .inl (k_525, 300, .inl (fun _ => 0))), (q_526, .inr (7, [.int 0, .int 0, .int 0, .int 0, .ref q_528, .ref q_529, .ref q_530, .ref q_531, .ref q_532, .ref q_533, .ref q_534, .ref q_535, .ref q_536])), (q_537, .inl (k_538, 300, .inl (fun _ => 0)))] := hD
  have hP9 := hP.sub (ws' := [(h0, .inr (3, [.ref q_1, .int 0, .int 0, .ref q_524, .ref q_526, .ref q_537, .int 0]))]) [0] rfl
  have hD9 := hD.sub (ws' := [(h0, .inr (3, [.ref q_1, .int 0, .int 0, .ref q_524, .ref q_526, .ref q_537, .int 0]))]) [0] (by decide) rfl
  have hK9 := hK.sub (tys' := []) [] rfl
  exact W.vret hx hb hr (fun t ht hW => ⟨⟨(), rfl, trivial, q_1, q_524, q_526, q_537, by rw [ht]; exact hP9, va_K.moved hW.alike hK9, hD9⟩, hS.F ht⟩) hS.2.2 dX3_init_69
