def wf_c_X9_init : List Cond := .code yX9_init cX9_init 1 none :: ([.methodLink RX9 3 objectInit, .instanceMethod objectInit, .code objectInit ⟨#[0xb1]⟩ 1 none, .arrayClass .int, .fieldLink RX9 11 "BuoyVote$Tape" "bytes" "[I", .fieldLink RX9 15 "BuoyVote$Tape" "wrong" "I"] ++ wsX90)
theorem iw_c_X9_init_X9 : ∀ w ∈ wsX90, w ∈ wf_c_X9_init := fun w h => List.mem_cons_of_mem _ (List.mem_append_right _ h)
set_option maxHeartbeats 4000000 in
set_option maxRecDepth 100000 in
theorem c_X9_init (l : Launch) (dC : Nat → ClassId) (dI : Nat → Nat → Nat) (sz : Nat) (h0 : Nat) : Met l yX9_init wf_c_X9_init ({ frames := 1, cells := 1, slots := 240, locals := 12 }) (va_Pc [.ref h0] (fun U => U.heap.size = sz ∧ va_P (dC, dI) vwCl [(h0, .inr (9, [.null, .int 0, .int 0, .int 0]))] U.heap ∧ va_K (dC, dI) vwCl [] U ∧ va_D (fun _ => True) [(h0, .inr (9, [.null, .int 0, .int 0, .int 0]))])) (va_Qv (fun (u : Unit) => True) (fun (_ : Unit) t => ∃ (q_1 : Nat), ∃ (k_2 : ClassId), va_P (dC, dI) vwCl [(h0, .inr (9, [.ref q_1, .int 0, .int 0, .int (-1)])), (q_1, .inl (k_2, 240, .inl (fun _ => 0)))] t.heap ∧ va_K (dC, dI) vwCl [(k_2, .int)] t ∧ va_D (va_A [(h0, .inr (9, [.null, .int 0, .int 0, .int 0]))] sz) [(h0, .inr (9, [.ref q_1, .int 0, .int 0, .int (-1)])), (q_1, .inl (k_2, 240, .inl (fun _ => 0)))]) (va_A [(h0, .inr (9, [.null, .int 0, .int 0, .int 0]))] sz)) 1 240 (va_A [(h0, .inr (9, [.null, .int 0, .int 0, .int 0]))] sz) := by
  refine Met.ofW (cc := cX9_init) (maxL := 1) (ret := none) (by decide) rfl ?_
  intro p e s m args below meth c s₁ B hml hv
  obtain ⟨rfl, hsz, hP, hK, hD0⟩ := hv
  have hx := B.exec
  have hb := B.bytes
  have hr := B.returns
  have hts := atoms_spec (ws := wf_c_X9_init) B.pre
  have hown : s.vm.findClass RX9 = some m.cls := findClass_of_methodNamed B.named
  have hlocks := B.notSynchronized
  have hin : meth.name = "<init>" := (name_of_methodNamed B.named B.method).1
  subst hsz
  have hD := hD0.self (sz := s.heap.size)
  generalize hAe : va_A [(h0, .inr (9, [.null, .int 0, .int 0, .int 0]))] s.heap.size = A at hD ⊢
  have hA : ∀ q : Nat, s.heap.size ≤ q → A q := fun q h => by rw [← hAe]; exact Or.inr h
  have hP : va_P (dC, dI) vwCl [(h0, .inr (9, [.null, .int 0, .int 0, .int 0]))] s.heap := hP
  have hl := lv_entry ([.ref h0]) (n := 1) (Nat.le_of_ble_eq_true rfl)
  rw [lg_entry_eq]
  generalize (lg_sl ([.ref h0]) ++ List.replicate (1 - (lg_sl ([.ref h0])).length) Slot.unset).toArray = ls at hl ⊢
  have hl : lv_has ls 1 [(0, .ref h0)] := hl
  obtain ⟨H, hHe⟩ : ∃ H : Heap, s.heap = H := ⟨_, rfl⟩
  have hS : va_S A s.heap H [] := by rw [hHe]; exact va_S.rf
  have hP : va_P (dC, dI) vwCl [(h0, .inr (9, [.null, .int 0, .int 0, .int 0]))] H := by rw [← hHe]; exact hP
  rw [hHe]
  refine lv_aload_n hx hb dX9_init_0 rfl (lv_at hl 0 rfl) ?_
  refine W.objInit hx hb hown (hts (.methodLink RX9 3 objectInit) (List.mem_of_getElem? (i := 1) rfl)) (hts (.instanceMethod objectInit) (List.mem_of_getElem? (i := 2) rfl)) (hts (.code objectInit ⟨#[0xb1]⟩ 1 none) (List.mem_of_getElem? (i := 3) rfl)) rfl (by rw [hml]; exact hl.1) rfl dX9_init_1 (Nat.le_of_ble_eq_true rfl) (Nat.le_of_ble_eq_true rfl) ?_
  refine W.eq (g2 := F0 m 4 ls []) rfl ?_
  refine lv_aload_n hx hb dX9_init_4 rfl (lv_at hl 0 rfl) ?_
  refine lv_sipush (v := 240) hx hb dX9_init_5 (by decide) ?_
  refine va_newa (atype := .int) (a0 := (240, .inl (fun _ => 0))) (ty := .int) (N' := 240) hx hb (hts (.arrayClass .int) (List.mem_of_getElem? (i := 4) rfl)) rfl hK hP hD hS hA (fun cA => vp_cell_i cA 240 (fun _ => 0)) (by decide) (by decide) (by decide +kernel) (Nat.le_of_ble_eq_true rfl) (Nat.le_of_ble_eq_true rfl) dX9_init_8 (fun q_1 k_2 H hK hP hD hS => ?_)
  have hP : va_P (dC, dI) vwCl [(h0, .inr (9, [.null, .int 0, .int 0, .int 0])), (q_1, .inl (k_2, 240, .inl (fun _ => 0)))] H := hP
  have hD : va_D A [(h0, .inr (9, [.null, .int 0, .int 0, .int 0])), (q_1, .inl (k_2, 240, .inl (fun _ => 0)))] := hD
  have hK : va_K (dC, dI) vwCl [(k_2, .int)] s := hK
  refine W.widen (k := 1) (n := 240) (by decide) (by decide) ?_
  refine va_putF (D := (dC, dI)) (ci := 9) (v := .ref q_1) (ty := (.array .int)) (C := RX9) (T := TX9) (N := 4) hx hb hts iw_c_X9_init_X9 tyX9 tyX9_ok nmX9 hown hK hP hD hS 0 rfl rfl 0 (by decide) (hts (.fieldLink RX9 11 "BuoyVote$Tape" "bytes" "[I") (List.mem_of_getElem? (i := 5) rfl)) (fun _ h9 => h9) rfl hin rfl (by decide +kernel) rfl rfl (Nat.le_of_ble_eq_true rfl) dX9_init_10 (fun H locs hP hD hS => ?_)
  have hP : va_P (dC, dI) vwCl [(h0, .inr (9, [.ref q_1, .int 0, .int 0, .int 0])), (q_1, .inl (k_2, 240, .inl (fun _ => 0)))] H := hP
  have hD : va_D A [(h0, .inr (9, [.ref q_1, .int 0, .int 0, .int 0])), (q_1, .inl (k_2, 240, .inl (fun _ => 0)))] := hD
  refine lv_aload_n hx hb dX9_init_13 rfl (lv_at hl 0 rfl) ?_
  refine lv_iconst (v := (-1)) hx hb dX9_init_14 (by decide) ?_
  refine va_put (D := (dC, dI)) (ci := 9) (v := .int (-1)) (ty := .int) (C := RX9) (T := TX9) (N := 4) hx hb hts iw_c_X9_init_X9 tyX9 tyX9_ok nmX9 hown hK hP hD hS 0 rfl rfl 3 (by decide) (hts (.fieldLink RX9 15 "BuoyVote$Tape" "wrong" "I") (List.mem_of_getElem? (i := 6) rfl)) (fun _ h9 => h9) rfl (by decide +kernel) rfl rfl (Nat.le_of_ble_eq_true rfl) dX9_init_15 (fun H locs hP hD hS => ?_)
  have hP : va_P (dC, dI) vwCl [(h0, .inr (9, [.ref q_1, .int 0, .int 0, .int (-1)])), (q_1, .inl (k_2, 240, .inl (fun _ => 0)))] H := hP
  have hD : va_D A [(h0, .inr (9, [.ref q_1, .int 0, .int 0, .int (-1)])), (q_1, .inl (k_2, 240, .inl (fun _ => 0)))] := hD
  have hP9 := hP.sub (ws' := [(h0, .inr (9, [.ref q_1, .int 0, .int 0, .int (-1)])), (q_1, .inl (k_2, 240, .inl (fun _ => 0)))]) [0, 1] rfl
  have hD9 := hD.sub (ws' := [(h0, .inr (9, [.ref q_1, .int 0, .int 0, .int (-1)])), (q_1, .inl (k_2, 240, .inl (fun _ => 0)))]) [0, 1] (by decide) rfl
  have hK9 := hK.sub (tys' := [(k_2, .int)]) [0] rfl
  exact W.vret hx hb hr (fun t ht hW => ⟨⟨(), rfl, trivial, q_1, k_2, by rw [ht]; exact hP9, va_K.moved hW.alike hK9, hD9⟩, hS.F ht⟩) hS.2.2 dX9_init_18
def wf_c_X0_init : List Cond := .code yX0_init cX0_init 1 none :: ([.methodLink RX0 5 objectInit, .instanceMethod objectInit, .code objectInit ⟨#[0xb1]⟩ 1 none, .arrayClass .int, .fieldLink RX0 11 "BuoyVote$Borough" "values" "[I"] ++ wsX00)
theorem iw_c_X0_init_X0 : ∀ w ∈ wsX00, w ∈ wf_c_X0_init := fun w h => List.mem_cons_of_mem _ (List.mem_append_right _ h)
set_option maxHeartbeats 4000000 in
set_option maxRecDepth 100000 in
theorem c_X0_init (l : Launch) (dC : Nat → ClassId) (dI : Nat → Nat → Nat) (sz : Nat) (h0 : Nat) : Met l yX0_init wf_c_X0_init ({ frames := 1, cells := 1, slots := 80, locals := 12 }) (va_Pc [.ref h0] (fun U => U.heap.size = sz ∧ va_P (dC, dI) vwCl [(h0, .inr (0, [.null, .int 0, .int 0, .int 0]))] U.heap ∧ va_K (dC, dI) vwCl [] U ∧ va_D (fun _ => True) [(h0, .inr (0, [.null, .int 0, .int 0, .int 0]))])) (va_Qv (fun (u : Unit) => True) (fun (_ : Unit) t => ∃ (q_1 : Nat), ∃ (k_2 : ClassId), va_P (dC, dI) vwCl [(h0, .inr (0, [.ref q_1, .int 0, .int 0, .int 0])), (q_1, .inl (k_2, 80, .inl (fun _ => 0)))] t.heap ∧ va_K (dC, dI) vwCl [(k_2, .int)] t ∧ va_D (va_A [(h0, .inr (0, [.null, .int 0, .int 0, .int 0]))] sz) [(h0, .inr (0, [.ref q_1, .int 0, .int 0, .int 0])), (q_1, .inl (k_2, 80, .inl (fun _ => 0)))]) (va_A [(h0, .inr (0, [.null, .int 0, .int 0, .int 0]))] sz)) 1 80 (va_A [(h0, .inr (0, [.null, .int 0, .int 0, .int 0]))] sz) := by
  refine Met.ofW (cc := cX0_init) (maxL := 1) (ret := none) (by decide) rfl ?_
  intro p e s m args below meth c s₁ B hml hv
  obtain ⟨rfl, hsz, hP, hK, hD0⟩ := hv
  have hx := B.exec
  have hb := B.bytes
  have hr := B.returns
  have hts := atoms_spec (ws := wf_c_X0_init) B.pre
  have hown : s.vm.findClass RX0 = some m.cls := findClass_of_methodNamed B.named
  have hlocks := B.notSynchronized
  have hin : meth.name = "<init>" := (name_of_methodNamed B.named B.method).1
  subst hsz
  have hD := hD0.self (sz := s.heap.size)
  generalize hAe : va_A [(h0, .inr (0, [.null, .int 0, .int 0, .int 0]))] s.heap.size = A at hD ⊢
  have hA : ∀ q : Nat, s.heap.size ≤ q → A q := fun q h => by rw [← hAe]; exact Or.inr h
  have hP : va_P (dC, dI) vwCl [(h0, .inr (0, [.null, .int 0, .int 0, .int 0]))] s.heap := hP
  have hl := lv_entry ([.ref h0]) (n := 1) (Nat.le_of_ble_eq_true rfl)
  rw [lg_entry_eq]
  generalize (lg_sl ([.ref h0]) ++ List.replicate (1 - (lg_sl ([.ref h0])).length) Slot.unset).toArray = ls at hl ⊢
  have hl : lv_has ls 1 [(0, .ref h0)] := hl
  obtain ⟨H, hHe⟩ : ∃ H : Heap, s.heap = H := ⟨_, rfl⟩
  have hS : va_S A s.heap H [] := by rw [hHe]; exact va_S.rf
  have hP : va_P (dC, dI) vwCl [(h0, .inr (0, [.null, .int 0, .int 0, .int 0]))] H := by rw [← hHe]; exact hP
  rw [hHe]
  refine lv_aload_n hx hb dX0_init_0 rfl (lv_at hl 0 rfl) ?_
  refine W.objInit hx hb hown (hts (.methodLink RX0 5 objectInit) (List.mem_of_getElem? (i := 1) rfl)) (hts (.instanceMethod objectInit) (List.mem_of_getElem? (i := 2) rfl)) (hts (.code objectInit ⟨#[0xb1]⟩ 1 none) (List.mem_of_getElem? (i := 3) rfl)) rfl (by rw [hml]; exact hl.1) rfl dX0_init_1 (Nat.le_of_ble_eq_true rfl) (Nat.le_of_ble_eq_true rfl) ?_
  refine W.eq (g2 := F0 m 4 ls []) rfl ?_
  refine lv_aload_n hx hb dX0_init_4 rfl (lv_at hl 0 rfl) ?_
  refine lv_bipush (v := 80) hx hb dX0_init_5 (by decide) ?_
  refine va_newa (atype := .int) (a0 := (80, .inl (fun _ => 0))) (ty := .int) (N' := 80) hx hb (hts (.arrayClass .int) (List.mem_of_getElem? (i := 4) rfl)) rfl hK hP hD hS hA (fun cA => vp_cell_i cA 80 (fun _ => 0)) (by decide) (by decide) (by decide +kernel) (Nat.le_of_ble_eq_true rfl) (Nat.le_of_ble_eq_true rfl) dX0_init_7 (fun q_1 k_2 H hK hP hD hS => ?_)
  have hP : va_P (dC, dI) vwCl [(h0, .inr (0, [.null, .int 0, .int 0, .int 0])), (q_1, .inl (k_2, 80, .inl (fun _ => 0)))] H := hP
  have hD : va_D A [(h0, .inr (0, [.null, .int 0, .int 0, .int 0])), (q_1, .inl (k_2, 80, .inl (fun _ => 0)))] := hD
  have hK : va_K (dC, dI) vwCl [(k_2, .int)] s := hK
  refine W.widen (k := 1) (n := 80) (by decide) (by decide) ?_
  refine va_putF (D := (dC, dI)) (ci := 0) (v := .ref q_1) (ty := (.array .int)) (C := RX0) (T := TX0) (N := 4) hx hb hts iw_c_X0_init_X0 tyX0 tyX0_ok nmX0 hown hK hP hD hS 0 rfl rfl 0 (by decide) (hts (.fieldLink RX0 11 "BuoyVote$Borough" "values" "[I") (List.mem_of_getElem? (i := 5) rfl)) (fun _ h9 => h9) rfl hin rfl (by decide +kernel) rfl rfl (Nat.le_of_ble_eq_true rfl) dX0_init_9 (fun H locs hP hD hS => ?_)
  have hP : va_P (dC, dI) vwCl [(h0, .inr (0, [.ref q_1, .int 0, .int 0, .int 0])), (q_1, .inl (k_2, 80, .inl (fun _ => 0)))] H := hP
  have hD : va_D A [(h0, .inr (0, [.ref q_1, .int 0, .int 0, .int 0])), (q_1, .inl (k_2, 80, .inl (fun _ => 0)))] := hD
  have hP9 := hP.sub (ws' := [(h0, .inr (0, [.ref q_1, .int 0, .int 0, .int 0])), (q_1, .inl (k_2, 80, .inl (fun _ => 0)))]) [0, 1] rfl
  have hD9 := hD.sub (ws' := [(h0, .inr (0, [.ref q_1, .int 0, .int 0, .int 0])), (q_1, .inl (k_2, 80, .inl (fun _ => 0)))]) [0, 1] (by decide) rfl
  have hK9 := hK.sub (tys' := [(k_2, .int)]) [0] rfl
  exact W.vret hx hb hr (fun t ht hW => ⟨⟨(), rfl, trivial, q_1, k_2, by rw [ht]; exact hP9, va_K.moved hW.alike hK9, hD9⟩, hS.F ht⟩) hS.2.2 dX0_init_12
def wf_c_X4_init : List Cond := .code yX4_init cX4_init 1 none :: ([.methodLink RX4 3 objectInit, .instanceMethod objectInit, .code objectInit ⟨#[0xb1]⟩ 1 none, .arrayClass .int, .fieldLink RX4 11 "BuoyVote$Law" "code" "[I", .fieldLink RX4 17 "BuoyVote$Law" "stack" "[I"] ++ wsX40)
theorem iw_c_X4_init_X4 : ∀ w ∈ wsX40, w ∈ wf_c_X4_init := fun w h => List.mem_cons_of_mem _ (List.mem_append_right _ h)
set_option maxHeartbeats 4000000 in
set_option maxRecDepth 100000 in
theorem c_X4_init (l : Launch) (dC : Nat → ClassId) (dI : Nat → Nat → Nat) (sz : Nat) (h0 : Nat) : Met l yX4_init wf_c_X4_init ({ frames := 1, cells := 2, slots := 304, locals := 12 }) (va_Pc [.ref h0] (fun U => U.heap.size = sz ∧ va_P (dC, dI) vwCl [(h0, .inr (4, [.null, .int 0, .null]))] U.heap ∧ va_K (dC, dI) vwCl [] U ∧ va_D (fun _ => True) [(h0, .inr (4, [.null, .int 0, .null]))])) (va_Qv (fun (u : Unit) => True) (fun (_ : Unit) t => ∃ (q_1 : Nat), ∃ (q_3 : Nat), ∃ (k_2 : ClassId), va_P (dC, dI) vwCl [(h0, .inr (4, [.ref q_1, .int 0, .ref q_3])), (q_1, .inl (k_2, 240, .inl (fun _ => 0)))] t.heap ∧ va_K (dC, dI) vwCl [(k_2, .int)] t ∧ va_D (va_A [(h0, .inr (4, [.null, .int 0, .null]))] sz) [(h0, .inr (4, [.ref q_1, .int 0, .ref q_3])), (q_1, .inl (k_2, 240, .inl (fun _ => 0)))]) (va_A [(h0, .inr (4, [.null, .int 0, .null]))] sz)) 2 304 (va_A [(h0, .inr (4, [.null, .int 0, .null]))] sz) := by
  refine Met.ofW (cc := cX4_init) (maxL := 1) (ret := none) (by decide) rfl ?_
  intro p e s m args below meth c s₁ B hml hv
  obtain ⟨rfl, hsz, hP, hK, hD0⟩ := hv
  have hx := B.exec
  have hb := B.bytes
  have hr := B.returns
  have hts := atoms_spec (ws := wf_c_X4_init) B.pre
  have hown : s.vm.findClass RX4 = some m.cls := findClass_of_methodNamed B.named
  have hlocks := B.notSynchronized
  have hin : meth.name = "<init>" := (name_of_methodNamed B.named B.method).1
  subst hsz
  have hD := hD0.self (sz := s.heap.size)
  generalize hAe : va_A [(h0, .inr (4, [.null, .int 0, .null]))] s.heap.size = A at hD ⊢
  have hA : ∀ q : Nat, s.heap.size ≤ q → A q := fun q h => by rw [← hAe]; exact Or.inr h
  have hP : va_P (dC, dI) vwCl [(h0, .inr (4, [.null, .int 0, .null]))] s.heap := hP
  have hl := lv_entry ([.ref h0]) (n := 1) (Nat.le_of_ble_eq_true rfl)
  rw [lg_entry_eq]
  generalize (lg_sl ([.ref h0]) ++ List.replicate (1 - (lg_sl ([.ref h0])).length) Slot.unset).toArray = ls at hl ⊢
  have hl : lv_has ls 1 [(0, .ref h0)] := hl
  obtain ⟨H, hHe⟩ : ∃ H : Heap, s.heap = H := ⟨_, rfl⟩
  have hS : va_S A s.heap H [] := by rw [hHe]; exact va_S.rf
  have hP : va_P (dC, dI) vwCl [(h0, .inr (4, [.null, .int 0, .null]))] H := by rw [← hHe]; exact hP
  rw [hHe]
  refine lv_aload_n hx hb dX4_init_0 rfl (lv_at hl 0 rfl) ?_
  refine W.objInit hx hb hown (hts (.methodLink RX4 3 objectInit) (List.mem_of_getElem? (i := 1) rfl)) (hts (.instanceMethod objectInit) (List.mem_of_getElem? (i := 2) rfl)) (hts (.code objectInit ⟨#[0xb1]⟩ 1 none) (List.mem_of_getElem? (i := 3) rfl)) rfl (by rw [hml]; exact hl.1) rfl dX4_init_1 (Nat.le_of_ble_eq_true rfl) (Nat.le_of_ble_eq_true rfl) ?_
  refine W.eq (g2 := F0 m 4 ls []) rfl ?_
  refine lv_aload_n hx hb dX4_init_4 rfl (lv_at hl 0 rfl) ?_
  refine lv_sipush (v := 240) hx hb dX4_init_5 (by decide) ?_
  refine va_newa (atype := .int) (a0 := (240, .inl (fun _ => 0))) (ty := .int) (N' := 240) hx hb (hts (.arrayClass .int) (List.mem_of_getElem? (i := 4) rfl)) rfl hK hP hD hS hA (fun cA => vp_cell_i cA 240 (fun _ => 0)) (by decide) (by decide) (by decide +kernel) (Nat.le_of_ble_eq_true rfl) (Nat.le_of_ble_eq_true rfl) dX4_init_8 (fun q_1 k_2 H hK hP hD hS => ?_)
  have hP : va_P (dC, dI) vwCl [(h0, .inr (4, [.null, .int 0, .null])), (q_1, .inl (k_2, 240, .inl (fun _ => 0)))] H := hP
  have hD : va_D A [(h0, .inr (4, [.null, .int 0, .null])), (q_1, .inl (k_2, 240, .inl (fun _ => 0)))] := hD
  have hK : va_K (dC, dI) vwCl [(k_2, .int)] s := hK
  refine W.widen (k := 1) (n := 240) (by decide) (by decide) ?_
  refine va_putF (D := (dC, dI)) (ci := 4) (v := .ref q_1) (ty := (.array .int)) (C := RX4) (T := TX4) (N := 3) hx hb hts iw_c_X4_init_X4 tyX4 tyX4_ok nmX4 hown hK hP hD hS 0 rfl rfl 0 (by decide) (hts (.fieldLink RX4 11 "BuoyVote$Law" "code" "[I") (List.mem_of_getElem? (i := 5) rfl)) (fun _ h9 => h9) rfl hin rfl (by decide +kernel) rfl rfl (Nat.le_of_ble_eq_true rfl) dX4_init_10 (fun H locs hP hD hS => ?_)
  have hP : va_P (dC, dI) vwCl [(h0, .inr (4, [.ref q_1, .int 0, .null])), (q_1, .inl (k_2, 240, .inl (fun _ => 0)))] H := hP
  have hD : va_D A [(h0, .inr (4, [.ref q_1, .int 0, .null])), (q_1, .inl (k_2, 240, .inl (fun _ => 0)))] := hD
  refine lv_aload_n hx hb dX4_init_13 rfl (lv_at hl 0 rfl) ?_
  refine lv_bipush (v := 64) hx hb dX4_init_14 (by decide) ?_
  refine va_newa (atype := .int) (a0 := (64, .inl (fun _ => 0))) (ty := .int) (N' := 64) hx hb (hts (.arrayClass .int) (List.mem_of_getElem? (i := 4) rfl)) rfl hK hP hD hS hA (fun cA => vp_cell_i cA 64 (fun _ => 0)) (by decide) (by decide) (by decide +kernel) (Nat.le_of_ble_eq_true rfl) (Nat.le_of_ble_eq_true rfl) dX4_init_16 (fun q_3 k_4 H hK hP hD hS => ?_)
  have hP : va_P (dC, dI) vwCl [(h0, .inr (4, [.ref q_1, .int 0, .null])), (q_1, .inl (k_2, 240, .inl (fun _ => 0))), (q_3, .inl (k_4, 64, .inl (fun _ => 0)))] H := hP
  have hD : va_D A [(h0, .inr (4, [.ref q_1, .int 0, .null])), (q_1, .inl (k_2, 240, .inl (fun _ => 0))), (q_3, .inl (k_4, 64, .inl (fun _ => 0)))] := hD
  have hK : va_K (dC, dI) vwCl [(k_2, .int), (k_4, .int)] s := hK
  refine W.widen (k := 2) (n := 304) (by decide) (by decide) ?_
  refine va_putF (D := (dC, dI)) (ci := 4) (v := .ref q_3) (ty := (.array .int)) (C := RX4) (T := TX4) (N := 3) hx hb hts iw_c_X4_init_X4 tyX4 tyX4_ok nmX4 hown hK hP hD hS 0 rfl rfl 2 (by decide) (hts (.fieldLink RX4 17 "BuoyVote$Law" "stack" "[I") (List.mem_of_getElem? (i := 6) rfl)) (fun _ h9 => h9) rfl hin rfl (by decide +kernel) rfl rfl (Nat.le_of_ble_eq_true rfl) dX4_init_18 (fun H locs hP hD hS => ?_)
  have hP : va_P (dC, dI) vwCl [(h0, .inr (4, [.ref q_1, .int 0, .ref q_3])), (q_1, .inl (k_2, 240, .inl (fun _ => 0))), (q_3, .inl (k_4, 64, .inl (fun _ => 0)))] H := hP
  have hD : va_D A [(h0, .inr (4, [.ref q_1, .int 0, .ref q_3])), (q_1, .inl (k_2, 240, .inl (fun _ => 0))), (q_3, .inl (k_4, 64, .inl (fun _ => 0)))] := hD
  have hP9 := hP.sub (ws' := [(h0, .inr (4, [.ref q_1, .int 0, .ref q_3])), (q_1, .inl (k_2, 240, .inl (fun _ => 0)))]) [0, 1] rfl
  have hD9 := hD.sub (ws' := [(h0, .inr (4, [.ref q_1, .int 0, .ref q_3])), (q_1, .inl (k_2, 240, .inl (fun _ => 0)))]) [0, 1] (by decide) rfl
  have hK9 := hK.sub (tys' := [(k_2, .int)]) [0] rfl
  exact W.vret hx hb hr (fun t ht hW => ⟨⟨(), rfl, trivial, q_1, q_3, k_2, by rw [ht]; exact hP9, va_K.moved hW.alike hK9, hD9⟩, hS.F ht⟩) hS.2.2 dX4_init_21
def wf_c_X5_init : List Cond := .code yX5_init cX5_init 2 none :: ([.methodLink RX5 3 objectInit, .instanceMethod objectInit, .code objectInit ⟨#[0xb1]⟩ 1 none, .classLink RX5 9 RX4, .fieldLink RX5 11 "BuoyVote$LawBook" "laws" "[LBuoyVote$Law;", .instantiable RX4 3, .initialized RX4, .code yX4_init cX4_init 1 none, .methodLink RX4 3 objectInit, .arrayClass .int, .fieldLink RX4 11 "BuoyVote$Law" "code" "[I", .fieldLink RX4 17 "BuoyVote$Law" "stack" "[I", .methodLink RX5 17 yX4_init, .instanceMethod yX4_init, .fieldLink RX5 18 "BuoyVote$LawBook" "holding" "I", .fieldLink RX5 22 "BuoyVote$LawBook" "letters" "[I"] ++ wsX50 ++ wsX40)
theorem iw_c_X5_init_X5 : ∀ w ∈ wsX50, w ∈ wf_c_X5_init := fun w h => List.mem_cons_of_mem _ (List.mem_append_left _ (List.mem_append_right _ h))
theorem iw_c_X5_init_X4 : ∀ w ∈ wsX40, w ∈ wf_c_X5_init := fun w h => List.mem_cons_of_mem _ (List.mem_append_right _ h)
set_option maxRecDepth 20000 in
theorem gf_c_X5_init_c_X4_init : GoodIn wf_c_X5_init (wf_c_X4_init) := (gi_cons (j := 8) rfl rfl (goodIn_app (gi_cons (j := 9) rfl rfl (gi_cons (j := 2) rfl rfl (gi_cons (j := 3) rfl rfl (gi_cons (j := 10) rfl rfl (gi_cons (j := 11) rfl rfl (gi_cons (j := 12) rfl rfl (gi_nil))))))) (goodIn_sub iw_c_X5_init_X4 gw_X4)))
set_option maxHeartbeats 4000000 in
set_option maxRecDepth 100000 in
theorem c_X5_init (l : Launch) (dC : Nat → ClassId) (dI : Nat → Nat → Nat) (sz : Nat) (h0 : Nat) : Met l yX5_init wf_c_X5_init ({ frames := 2, cells := 17, slots := 1546, locals := 32 }) (va_Pc [.ref h0] (fun U => U.heap.size = sz ∧ va_P (dC, dI) vwCl [(h0, .inr (5, [.null, .int 0, .int 0, .null]))] U.heap ∧ va_K (dC, dI) vwCl [] U ∧ va_D (fun _ => True) [(h0, .inr (5, [.null, .int 0, .int 0, .null]))] ∧ va_AO RX4 U)) (va_Qv (fun (u : Unit) => True) (fun (_ : Unit) t => ∃ (q_1 : Nat), ∃ (q_4 : Nat), ∃ (q_6 : Nat), ∃ (q_34 : Nat), ∃ (q_10 : Nat), ∃ (q_16 : Nat), ∃ (q_22 : Nat), ∃ (q_28 : Nat), ∃ (q_7 : Nat), ∃ (k_2 : ClassId), ∃ (k_8 : ClassId), va_P (dC, dI) vwCl [(h0, .inr (5, [.ref q_1, .int 0, .int (-1), .ref q_34])), (q_1, .inl (k_2, 5, .inr (.inr (.inr (.inr (va_up (va_up (va_up (va_up (va_up (fun _ => none) (0 : Int32).toNatClampNeg (some q_4)) (1 : Int32).toNatClampNeg (some q_10)) (2 : Int32).toNatClampNeg (some q_16)) (3 : Int32).toNatClampNeg (some q_22)) (4 : Int32).toNatClampNeg (some q_28))))))), (q_4, .inr (4, [.ref q_6, .int 0, .ref q_7])), (q_6, .inl (k_8, 240, .inl (fun _ => 0)))] t.heap ∧ va_K (dC, dI) vwCl [(k_2, .object RX4), (k_8, .int)] t ∧ va_D (va_A [(h0, .inr (5, [.null, .int 0, .int 0, .null]))] sz) [(h0, .inr (5, [.ref q_1, .int 0, .int (-1), .ref q_34])), (q_1, .inl (k_2, 5, .inr (.inr (.inr (.inr (va_up (va_up (va_up (va_up (va_up (fun _ => none) (0 : Int32).toNatClampNeg (some q_4)) (1 : Int32).toNatClampNeg (some q_10)) (2 : Int32).toNatClampNeg (some q_16)) (3 : Int32).toNatClampNeg (some q_22)) (4 : Int32).toNatClampNeg (some q_28))))))), (q_4, .inr (4, [.ref q_6, .int 0, .ref q_7])), (q_6, .inl (k_8, 240, .inl (fun _ => 0)))]) (va_A [(h0, .inr (5, [.null, .int 0, .int 0, .null]))] sz)) 17 1546 (va_A [(h0, .inr (5, [.null, .int 0, .int 0, .null]))] sz) := by
  refine Met.ofW (cc := cX5_init) (maxL := 2) (ret := none) (by decide) rfl ?_
  intro p e s m args below meth c s₁ B hml hv
  obtain ⟨rfl, hsz, hP, hK, hD0, hE0⟩ := hv
  have hx := B.exec
  have hb := B.bytes
  have hr := B.returns
  have hts := atoms_spec (ws := wf_c_X5_init) B.pre
  have hown : s.vm.findClass RX5 = some m.cls := findClass_of_methodNamed B.named
  have hlocks := B.notSynchronized
  have hin : meth.name = "<init>" := (name_of_methodNamed B.named B.method).1
  subst hsz
  have hD := hD0.self (sz := s.heap.size)
  generalize hAe : va_A [(h0, .inr (5, [.null, .int 0, .int 0, .null]))] s.heap.size = A at hD ⊢
  have hA : ∀ q : Nat, s.heap.size ≤ q → A q := fun q h => by rw [← hAe]; exact Or.inr h
  have hP : va_P (dC, dI) vwCl [(h0, .inr (5, [.null, .int 0, .int 0, .null]))] s.heap := hP
  have hl := lv_entry ([.ref h0]) (n := 2) (Nat.le_of_ble_eq_true rfl)
  rw [lg_entry_eq]
  generalize (lg_sl ([.ref h0]) ++ List.replicate (2 - (lg_sl ([.ref h0])).length) Slot.unset).toArray = ls at hl ⊢
  have hl : lv_has ls 2 [(0, .ref h0)] := hl
  obtain ⟨H, hHe⟩ : ∃ H : Heap, s.heap = H := ⟨_, rfl⟩
  have hS : va_S A s.heap H [] := by rw [hHe]; exact va_S.rf
  have hP : va_P (dC, dI) vwCl [(h0, .inr (5, [.null, .int 0, .int 0, .null]))] H := by rw [← hHe]; exact hP
  rw [hHe]
  refine lv_aload_n hx hb dX5_init_0 rfl (lv_at hl 0 rfl) ?_
  refine W.objInit hx hb hown (hts (.methodLink RX5 3 objectInit) (List.mem_of_getElem? (i := 1) rfl)) (hts (.instanceMethod objectInit) (List.mem_of_getElem? (i := 2) rfl)) (hts (.code objectInit ⟨#[0xb1]⟩ 1 none) (List.mem_of_getElem? (i := 3) rfl)) rfl (by rw [hml]; exact hl.1) rfl dX5_init_1 (Nat.le_of_ble_eq_true rfl) (Nat.le_of_ble_eq_true rfl) ?_
  refine W.eq (g2 := F0 m 4 ls []) rfl ?_
  refine lv_aload_n hx hb dX5_init_4 rfl (lv_at hl 0 rfl) ?_
  refine lv_iconst (v := 5) hx hb dX5_init_5 (by decide) ?_
  refine va_newq (N' := 5) hx hb hown (hts (.classLink RX5 9 RX4) (List.mem_of_getElem? (i := 4) rfl)) hE0 hK hP hD hS hA (by decide) (by decide) (by decide) (Nat.le_of_ble_eq_true rfl) (Nat.le_of_ble_eq_true rfl) dX5_init_6 (fun q_1 k_2 H hK hP hD hS => ?_)
  have hP : va_P (dC, dI) vwCl [(h0, .inr (5, [.null, .int 0, .int 0, .null])), (q_1, .inl (k_2, 5, .inr (.inr (.inr (.inr (fun _ => none))))))] H := hP
  have hD : va_D A [(h0, .inr (5, [.null, .int 0, .int 0, .null])), (q_1, .inl (k_2, 5, .inr (.inr (.inr (.inr (fun _ => none))))))] := hD
  have hK : va_K (dC, dI) vwCl [(k_2, .object RX4)] s := hK
  refine W.widen (k := 1) (n := 5) (by decide) (by decide) ?_
  refine va_putF (D := (dC, dI)) (ci := 5) (v := .ref q_1) (ty := (.array (.object "BuoyVote$Law"))) (C := RX5) (T := TX5) (N := 4) hx hb hts iw_c_X5_init_X5 tyX5 tyX5_ok nmX5 hown hK hP hD hS 0 rfl rfl 0 (by decide) (hts (.fieldLink RX5 11 "BuoyVote$LawBook" "laws" "[LBuoyVote$Law;") (List.mem_of_getElem? (i := 5) rfl)) (fun _ h9 => h9) rfl hin rfl (by decide +kernel) rfl rfl (Nat.le_of_ble_eq_true rfl) dX5_init_9 (fun H locs hP hD hS => ?_)
  have hP : va_P (dC, dI) vwCl [(h0, .inr (5, [.ref q_1, .int 0, .int 0, .null])), (q_1, .inl (k_2, 5, .inr (.inr (.inr (.inr (fun _ => none))))))] H := hP
  have hD : va_D A [(h0, .inr (5, [.ref q_1, .int 0, .int 0, .null])), (q_1, .inl (k_2, 5, .inr (.inr (.inr (.inr (fun _ => none))))))] := hD
  refine lv_iconst (v := 0) hx hb dX5_init_12 (by decide) ?_
  refine lv_istore_n (lv' := [(1, .int 0), (0, .ref h0)]) hx hb dX5_init_13 rfl hl (by decide) rfl (fun ls hl => ?_)
  refine lv_iload_n hx hb dX5_init_14 rfl (lv_at hl 0 rfl) ?_
  refine lv_aload_n hx hb dX5_init_15 rfl (lv_at hl 1 rfl) ?_
  refine va_get (D := (dC, dI)) (ci := 5) (v := .ref q_1) (C := RX5) (T := TX5) (N := 4) hx hb hts iw_c_X5_init_X5 hown hK hP 0 rfl rfl 0 (by decide) (hts (.fieldLink RX5 11 "BuoyVote$LawBook" "laws" "[LBuoyVote$Law;") (List.mem_of_getElem? (i := 5) rfl)) (fun _ h9 => h9) rfl dX5_init_16 ?_
  refine va_alen (v := 5) hx hb hK hP 1 0 rfl rfl rfl dX5_init_19 ?_
  refine lv_icmp_ge (tgt := 42) hx hb dX5_init_20 (by decide) (fun c_3 => absurd c_3 (by decide)) (fun c_3 => ?_)
  refine lv_aload_n hx hb dX5_init_23 rfl (lv_at hl 1 rfl) ?_
  refine va_get (D := (dC, dI)) (ci := 5) (v := .ref q_1) (C := RX5) (T := TX5) (N := 4) hx hb hts iw_c_X5_init_X5 hown hK hP 0 rfl rfl 0 (by decide) (hts (.fieldLink RX5 11 "BuoyVote$LawBook" "laws" "[LBuoyVote$Law;") (List.mem_of_getElem? (i := 5) rfl)) (fun _ h9 => h9) rfl dX5_init_24 ?_
  refine lv_iload_n hx hb dX5_init_27 rfl (lv_at hl 0 rfl) ?_
  refine va_new (ci := 4) (fs := [.null, .int 0, .null]) (C := RX4) (T := TX4) (N := 3) hx hb hts iw_c_X5_init_X4 tyX4 tyX4_ok hown (hts (.classLink RX5 9 RX4) (List.mem_of_getElem? (i := 4) rfl)) (hts (.instantiable RX4 3) (List.mem_of_getElem? (i := 6) rfl)) (hts (.initialized RX4) (List.mem_of_getElem? (i := 7) rfl)) hK hP hD hS hA rfl (vn_X4) (Nat.le_of_ble_eq_true rfl) (Nat.le_of_ble_eq_true rfl) dX5_init_28 (fun q_4 H hP hD hS => ?_)
  have hP : va_P (dC, dI) vwCl [(h0, .inr (5, [.ref q_1, .int 0, .int 0, .null])), (q_1, .inl (k_2, 5, .inr (.inr (.inr (.inr (fun _ => none)))))), (q_4, .inr (4, [.null, .int 0, .null]))] H := hP
  have hD : va_D A [(h0, .inr (5, [.ref q_1, .int 0, .int 0, .null])), (q_1, .inl (k_2, 5, .inr (.inr (.inr (.inr (fun _ => none)))))), (q_4, .inr (4, [.null, .int 0, .null]))] := hD
  refine W.widen (k := 2) (n := 8) (by decide) (by decide) ?_
  refine lv_dup hx hb dX5_init_31 rfl ?_
  have hPc := hP.sub (ws' := [(q_4, .inr (4, [.null, .int 0, .null]))]) [2] rfl
  have hDc := hD.sub (ws' := [(q_4, .inr (4, [.null, .int 0, .null]))]) [2] (by decide) rfl
  have hKc := hK.sub (tys' := []) [] rfl
  have hFc := va_free (wc := [(q_4, .inr (4, [.null, .int 0, .null]))]) hD hS hA [2] rfl
  refine va_callv (va_runI (As := []) (rest := [.ref q_4, .int 0, .ref q_1]) ⟨hx, hb, hml, hown, hts⟩ (c_X4_init l dC dI H.size q_4) (cwI 0 hts gf_c_X5_init_c_X4_init rfl rfl rfl (hts (.initialized RX4) (List.mem_of_getElem? (i := 7) rfl)) (hts (.methodLink RX5 17 yX4_init) (List.mem_of_getElem? (i := 13) rfl)) (hts (.instanceMethod yX4_init) (List.mem_of_getElem? (i := 14) rfl)) rfl (by decide +kernel) ⟨Nat.le_of_ble_eq_true rfl, Nat.le_of_ble_eq_true rfl⟩) ⟨fun a U g mk q => by obtain ⟨q0, q1, qP, qK, qD⟩ := q; exact ⟨q0, q1, qP, va_K.moved (u := U) (U := U.calling g mk a) (Vm.Alike.refl U.vm) qK, qD⟩, fun U hU hW => ⟨rfl, by rw [hU], by rw [hU]; exact hPc, va_K.moved hW.alike hKc, hDc.weaken (fun _ _ _ _ => trivial)⟩⟩ rfl rfl hl.1 rfl (lv_room (Nat.le_of_ble_eq_true rfl)) dX5_init_32 ⟨Nat.le_of_ble_eq_true rfl, Nat.le_of_ble_eq_true rfl⟩) hS (fun q _ h => hFc q h) hFc (fun u t H1 locs ht hvm hw hB hz1 hk1 hS => ?_)
  obtain ⟨q_6, q_7, k_8, hP1, hK1, hD1⟩ := hB
  rw [ht] at hP1
  have hK1 := va_K.moved hvm.symm hK1
  obtain ⟨hP, hD⟩ := va_join (wr := [(h0, .inr (5, [.ref q_1, .int 0, .int 0, .null])), (q_1, .inl (k_2, 5, .inr (.inr (.inr (.inr (fun _ => none))))))]) (w1 := [(q_4, .inr (4, [.ref q_6, .int 0, .ref q_7])), (q_6, .inl (k_8, 240, .inl (fun _ => 0)))]) hP hD [2] [0, 1] rfl rfl (by decide) (by decide) hk1 hFc hP1 hD1
  have hK := hK.app hK1
  generalize H1 = H at hP hS ⊢
  have hP : va_P (dC, dI) vwCl [(h0, .inr (5, [.ref q_1, .int 0, .int 0, .null])), (q_1, .inl (k_2, 5, .inr (.inr (.inr (.inr (fun _ => none)))))), (q_4, .inr (4, [.ref q_6, .int 0, .ref q_7])), (q_6, .inl (k_8, 240, .inl (fun _ => 0)))] H := hP
  have hD : va_D A [(h0, .inr (5, [.ref q_1, .int 0, .int 0, .null])), (q_1, .inl (k_2, 5, .inr (.inr (.inr (.inr (fun _ => none)))))), (q_4, .inr (4, [.ref q_6, .int 0, .ref q_7])), (q_6, .inl (k_8, 240, .inl (fun _ => 0)))] := hD
  have hK : va_K (dC, dI) vwCl [(k_2, .object RX4), (k_8, .int)] s := hK
  refine W.widen (k := 4) (n := 312) (by decide) (by decide) ?_
  refine va_astq (r := (RX4, TX4, 3)) hx hb hK hP hD hS 1 0 2 4 rfl rfl rfl rfl (by unfold vp_in; decide) dX5_init_35 (fun H locs hP hD hS => ?_)
  have hP : va_P (dC, dI) vwCl [(h0, .inr (5, [.ref q_1, .int 0, .int 0, .null])), (q_1, .inl (k_2, 5, .inr (.inr (.inr (.inr (va_up (fun _ => none) (0 : Int32).toNatClampNeg (some q_4))))))), (q_4, .inr (4, [.ref q_6, .int 0, .ref q_7])), (q_6, .inl (k_8, 240, .inl (fun _ => 0)))] H := hP
  have hD : va_D A [(h0, .inr (5, [.ref q_1, .int 0, .int 0, .null])), (q_1, .inl (k_2, 5, .inr (.inr (.inr (.inr (va_up (fun _ => none) (0 : Int32).toNatClampNeg (some q_4))))))), (q_4, .inr (4, [.ref q_6, .int 0, .ref q_7])), (q_6, .inl (k_8, 240, .inl (fun _ => 0)))] := hD
  refine lv_iinc (v := 1) (lv' := [(1, .int 1), (0, .ref h0)]) hx hb dX5_init_36 hl (k := 0) rfl (by decide) (by decide) rfl (fun ls hl => ?_)
  refine lv_goto (tgt := 14) hx hb dX5_init_39 (by decide) ?_
  refine lv_iload_n hx hb dX5_init_14 rfl (lv_at hl 0 rfl) ?_
  refine lv_aload_n hx hb dX5_init_15 rfl (lv_at hl 1 rfl) ?_
  refine va_get (D := (dC, dI)) (ci := 5) (v := .ref q_1) (C := RX5) (T := TX5) (N := 4) hx hb hts iw_c_X5_init_X5 hown hK hP 0 rfl rfl 0 (by decide) (hts (.fieldLink RX5 11 "BuoyVote$LawBook" "laws" "[LBuoyVote$Law;") (List.mem_of_getElem? (i := 5) rfl)) (fun _ h9 => h9) rfl dX5_init_16 ?_
  refine va_alen (v := 5) hx hb hK hP 1 0 rfl rfl rfl dX5_init_19 ?_
  refine lv_icmp_ge (tgt := 42) hx hb dX5_init_20 (by decide) (fun c_9 => absurd c_9 (by decide)) (fun c_9 => ?_)
  refine lv_aload_n hx hb dX5_init_23 rfl (lv_at hl 1 rfl) ?_
  refine va_get (D := (dC, dI)) (ci := 5) (v := .ref q_1) (C := RX5) (T := TX5) (N := 4) hx hb hts iw_c_X5_init_X5 hown hK hP 0 rfl rfl 0 (by decide) (hts (.fieldLink RX5 11 "BuoyVote$LawBook" "laws" "[LBuoyVote$Law;") (List.mem_of_getElem? (i := 5) rfl)) (fun _ h9 => h9) rfl dX5_init_24 ?_
  refine lv_iload_n hx hb dX5_init_27 rfl (lv_at hl 0 rfl) ?_
  refine va_new (ci := 4) (fs := [.null, .int 0, .null]) (C := RX4) (T := TX4) (N := 3) hx hb hts iw_c_X5_init_X4 tyX4 tyX4_ok hown (hts (.classLink RX5 9 RX4) (List.mem_of_getElem? (i := 4) rfl)) (hts (.instantiable RX4 3) (List.mem_of_getElem? (i := 6) rfl)) (hts (.initialized RX4) (List.mem_of_getElem? (i := 7) rfl)) hK hP hD hS hA rfl (vn_X4) (Nat.le_of_ble_eq_true rfl) (Nat.le_of_ble_eq_true rfl) dX5_init_28 (fun q_10 H hP hD hS => ?_)
  have hP : va_P (dC, dI) vwCl [(h0, .inr (5, [.ref q_1, .int 0, .int 0, .null])), (q_1, .inl (k_2, 5, .inr (.inr (.inr (.inr (va_up (fun _ => none) (0 : Int32).toNatClampNeg (some q_4))))))), (q_4, .inr (4, [.ref q_6, .int 0, .ref q_7])), (q_6, .inl (k_8, 240, .inl (fun _ => 0))), (q_10, .inr (4, [.null, .int 0, .null]))] H := hP
  have hD : va_D A [(h0, .inr (5, [.ref q_1, .int 0, .int 0, .null])), (q_1, .inl (k_2, 5, .inr (.inr (.inr (.inr (va_up (fun _ => none) (0 : Int32).toNatClampNeg (some q_4))))))), (q_4, .inr (4, [.ref q_6, .int 0, .ref q_7])), (q_6, .inl (k_8, 240, .inl (fun _ => 0))), (q_10, .inr (4, [.null, .int 0, .null]))] := hD
  refine W.widen (k := 5) (n := 315) (by decide) (by decide) ?_
  refine lv_dup hx hb dX5_init_31 rfl ?_
  have hPc := hP.sub (ws' := [(q_10, .inr (4, [.null, .int 0, .null]))]) [4] rfl
  have hDc := hD.sub (ws' := [(q_10, .inr (4, [.null, .int 0, .null]))]) [4] (by decide) rfl
  have hKc := hK.sub (tys' := []) [] rfl
  have hFc := va_free (wc := [(q_10, .inr (4, [.null, .int 0, .null]))]) hD hS hA [4] rfl
  refine va_callv (va_runI (As := []) (rest := [.ref q_10, .int 1, .ref q_1]) ⟨hx, hb, hml, hown, hts⟩ (c_X4_init l dC dI H.size q_10) (cwI 0 hts gf_c_X5_init_c_X4_init rfl rfl rfl (hts (.initialized RX4) (List.mem_of_getElem? (i := 7) rfl)) (hts (.methodLink RX5 17 yX4_init) (List.mem_of_getElem? (i := 13) rfl)) (hts (.instanceMethod yX4_init) (List.mem_of_getElem? (i := 14) rfl)) rfl (by decide +kernel) ⟨Nat.le_of_ble_eq_true rfl, Nat.le_of_ble_eq_true rfl⟩) ⟨fun a U g mk q => by obtain ⟨q0, q1, qP, qK, qD⟩ := q; exact ⟨q0, q1, qP, va_K.moved (u := U) (U := U.calling g mk a) (Vm.Alike.refl U.vm) qK, qD⟩, fun U hU hW => ⟨rfl, by rw [hU], by rw [hU]; exact hPc, va_K.moved hW.alike hKc, hDc.weaken (fun _ _ _ _ => trivial)⟩⟩ rfl rfl hl.1 rfl (lv_room (Nat.le_of_ble_eq_true rfl)) dX5_init_32 ⟨Nat.le_of_ble_eq_true rfl, Nat.le_of_ble_eq_true rfl⟩) hS (fun q _ h => hFc q h) hFc (fun u t H1 locs ht hvm hw hB hz1 hk1 hS => ?_)
  obtain ⟨q_12, q_13, k_14, hP1, hK1, hD1⟩ := hB
  rw [ht] at hP1
  have hK1 := va_K.moved hvm.symm hK1
  obtain ⟨hP, hD⟩ := va_join (wr := [(h0, .inr (5, [.ref q_1, .int 0, .int 0, .null])), (q_1, .inl (k_2, 5, .inr (.inr (.inr (.inr (va_up (fun _ => none) (0 : Int32).toNatClampNeg (some q_4))))))), (q_4, .inr (4, [.ref q_6, .int 0, .ref q_7])), (q_6, .inl (k_8, 240, .inl (fun _ => 0)))]) (w1 := [(q_10, .inr (4, [.ref q_12, .int 0, .ref q_13])), (q_12, .inl (k_14, 240, .inl (fun _ => 0)))]) hP hD [4] [0, 1, 2, 3] rfl rfl (by decide) (by decide) hk1 hFc hP1 hD1
  have hK := hK.app hK1
  generalize H1 = H at hP hS ⊢
  have hP : va_P (dC, dI) vwCl [(h0, .inr (5, [.ref q_1, .int 0, .int 0, .null])), (q_1, .inl (k_2, 5, .inr (.inr (.inr (.inr (va_up (fun _ => none) (0 : Int32).toNatClampNeg (some q_4))))))), (q_4, .inr (4, [.ref q_6, .int 0, .ref q_7])), (q_6, .inl (k_8, 240, .inl (fun _ => 0))), (q_10, .inr (4, [.ref q_12, .int 0, .ref q_13])), (q_12, .inl (k_14, 240, .inl (fun _ => 0)))] H := hP
  have hD : va_D A [(h0, .inr (5, [.ref q_1, .int 0, .int 0, .null])), (q_1, .inl (k_2, 5, .inr (.inr (.inr (.inr (va_up (fun _ => none) (0 : Int32).toNatClampNeg (some q_4))))))), (q_4, .inr (4, [.ref q_6, .int 0, .ref q_7])), (q_6, .inl (k_8, 240, .inl (fun _ => 0))), (q_10, .inr (4, [.ref q_12, .int 0, .ref q_13])), (q_12, .inl (k_14, 240, .inl (fun _ => 0)))] := hD
  have hK : va_K (dC, dI) vwCl [(k_2, .object RX4), (k_8, .int), (k_14, .int)] s := hK
  refine W.widen (k := 7) (n := 619) (by decide) (by decide) ?_
  refine va_astq (r := (RX4, TX4, 3)) hx hb hK hP hD hS 1 0 4 4 rfl rfl rfl rfl (by unfold vp_in; decide) dX5_init_35 (fun H locs hP hD hS => ?_)
  have hP : va_P (dC, dI) vwCl [(h0, .inr (5, [.ref q_1, .int 0, .int 0, .null])), (q_1, .inl (k_2, 5, .inr (.inr (.inr (.inr (va_up (va_up (fun _ => none) (0 : Int32).toNatClampNeg (some q_4)) (1 : Int32).toNatClampNeg (some q_10))))))), (q_4, .inr (4, [.ref q_6, .int 0, .ref q_7])), (q_6, .inl (k_8, 240, .inl (fun _ => 0))), (q_10, .inr (4, [.ref q_12, .int 0, .ref q_13])), (q_12, .inl (k_14, 240, .inl (fun _ => 0)))] H := hP
  have hD : va_D A [(h0, .inr (5, [.ref q_1, .int 0, .int 0, .null])), (q_1, .inl (k_2, 5, .inr (.inr (.inr (.inr (va_up (va_up (fun _ => none) (0 : Int32).toNatClampNeg (some q_4)) (1 : Int32).toNatClampNeg (some q_10))))))), (q_4, .inr (4, [.ref q_6, .int 0, .ref q_7])), (q_6, .inl (k_8, 240, .inl (fun _ => 0))), (q_10, .inr (4, [.ref q_12, .int 0, .ref q_13])), (q_12, .inl (k_14, 240, .inl (fun _ => 0)))] := hD
  refine lv_iinc (v := 2) (lv' := [(1, .int 2), (0, .ref h0)]) hx hb dX5_init_36 hl (k := 0) rfl (by decide) (by decide) rfl (fun ls hl => ?_)
  refine lv_goto (tgt := 14) hx hb dX5_init_39 (by decide) ?_
  have hP := hP.sub (ws' := [(h0, .inr (5, [.ref q_1, .int 0, .int 0, .null])), (q_1, .inl (k_2, 5, .inr (.inr (.inr (.inr (va_up (va_up (fun _ => none) (0 : Int32).toNatClampNeg (some q_4)) (1 : Int32).toNatClampNeg (some q_10))))))), (q_4, .inr (4, [.ref q_6, .int 0, .ref q_7])), (q_6, .inl (k_8, 240, .inl (fun _ => 0)))]) [0, 1, 2, 3] rfl
  have hD := hD.sub (ws' := [(h0, .inr (5, [.ref q_1, .int 0, .int 0, .null])), (q_1, .inl (k_2, 5, .inr (.inr (.inr (.inr (va_up (va_up (fun _ => none) (0 : Int32).toNatClampNeg (some q_4)) (1 : Int32).toNatClampNeg (some q_10))))))), (q_4, .inr (4, [.ref q_6, .int 0, .ref q_7])), (q_6, .inl (k_8, 240, .inl (fun _ => 0)))]) [0, 1, 2, 3] (by decide) rfl
  refine lv_iload_n hx hb dX5_init_14 rfl (lv_at hl 0 rfl) ?_
  refine lv_aload_n hx hb dX5_init_15 rfl (lv_at hl 1 rfl) ?_
  refine va_get (D := (dC, dI)) (ci := 5) (v := .ref q_1) (C := RX5) (T := TX5) (N := 4) hx hb hts iw_c_X5_init_X5 hown hK hP 0 rfl rfl 0 (by decide) (hts (.fieldLink RX5 11 "BuoyVote$LawBook" "laws" "[LBuoyVote$Law;") (List.mem_of_getElem? (i := 5) rfl)) (fun _ h9 => h9) rfl dX5_init_16 ?_
  refine va_alen (v := 5) hx hb hK hP 1 0 rfl rfl rfl dX5_init_19 ?_
  refine lv_icmp_ge (tgt := 42) hx hb dX5_init_20 (by decide) (fun c_15 => absurd c_15 (by decide)) (fun c_15 => ?_)
  refine lv_aload_n hx hb dX5_init_23 rfl (lv_at hl 1 rfl) ?_
  refine va_get (D := (dC, dI)) (ci := 5) (v := .ref q_1) (C := RX5) (T := TX5) (N := 4) hx hb hts iw_c_X5_init_X5 hown hK hP 0 rfl rfl 0 (by decide) (hts (.fieldLink RX5 11 "BuoyVote$LawBook" "laws" "[LBuoyVote$Law;") (List.mem_of_getElem? (i := 5) rfl)) (fun _ h9 => h9) rfl dX5_init_24 ?_
  refine lv_iload_n hx hb dX5_init_27 rfl (lv_at hl 0 rfl) ?_
  refine va_new (ci := 4) (fs := [.null, .int 0, .null]) (C := RX4) (T := TX4) (N := 3) hx hb hts iw_c_X5_init_X4 tyX4 tyX4_ok hown (hts (.classLink RX5 9 RX4) (List.mem_of_getElem? (i := 4) rfl)) (hts (.instantiable RX4 3) (List.mem_of_getElem? (i := 6) rfl)) (hts (.initialized RX4) (List.mem_of_getElem? (i := 7) rfl)) hK hP hD hS hA rfl (vn_X4) (Nat.le_of_ble_eq_true rfl) (Nat.le_of_ble_eq_true rfl) dX5_init_28 (fun q_16 H hP hD hS => ?_)
  have hP : va_P (dC, dI) vwCl [(h0, .inr (5, [.ref q_1, .int 0, .int 0, .null])), (q_1, .inl (k_2, 5, .inr (.inr (.inr (.inr (va_up (va_up (fun _ => none) (0 : Int32).toNatClampNeg (some q_4)) (1 : Int32).toNatClampNeg (some q_10))))))), (q_4, .inr (4, [.ref q_6, .int 0, .ref q_7])), (q_6, .inl (k_8, 240, .inl (fun _ => 0))), (q_16, .inr (4, [.null, .int 0, .null]))] H := hP
  have hD : va_D A [(h0, .inr (5, [.ref q_1, .int 0, .int 0, .null])), (q_1, .inl (k_2, 5, .inr (.inr (.inr (.inr (va_up (va_up (fun _ => none) (0 : Int32).toNatClampNeg (some q_4)) (1 : Int32).toNatClampNeg (some q_10))))))), (q_4, .inr (4, [.ref q_6, .int 0, .ref q_7])), (q_6, .inl (k_8, 240, .inl (fun _ => 0))), (q_16, .inr (4, [.null, .int 0, .null]))] := hD
  refine W.widen (k := 8) (n := 622) (by decide) (by decide) ?_
  refine lv_dup hx hb dX5_init_31 rfl ?_
  have hPc := hP.sub (ws' := [(q_16, .inr (4, [.null, .int 0, .null]))]) [4] rfl
  have hDc := hD.sub (ws' := [(q_16, .inr (4, [.null, .int 0, .null]))]) [4] (by decide) rfl
  have hKc := hK.sub (tys' := []) [] rfl
  have hFc := va_free (wc := [(q_16, .inr (4, [.null, .int 0, .null]))]) hD hS hA [4] rfl
  refine va_callv (va_runI (As := []) (rest := [.ref q_16, .int 2, .ref q_1]) ⟨hx, hb, hml, hown, hts⟩ (c_X4_init l dC dI H.size q_16) (cwI 0 hts gf_c_X5_init_c_X4_init rfl rfl rfl (hts (.initialized RX4) (List.mem_of_getElem? (i := 7) rfl)) (hts (.methodLink RX5 17 yX4_init) (List.mem_of_getElem? (i := 13) rfl)) (hts (.instanceMethod yX4_init) (List.mem_of_getElem? (i := 14) rfl)) rfl (by decide +kernel) ⟨Nat.le_of_ble_eq_true rfl, Nat.le_of_ble_eq_true rfl⟩) ⟨fun a U g mk q => by obtain ⟨q0, q1, qP, qK, qD⟩ := q; exact ⟨q0, q1, qP, va_K.moved (u := U) (U := U.calling g mk a) (Vm.Alike.refl U.vm) qK, qD⟩, fun U hU hW => ⟨rfl, by rw [hU], by rw [hU]; exact hPc, va_K.moved hW.alike hKc, hDc.weaken (fun _ _ _ _ => trivial)⟩⟩ rfl rfl hl.1 rfl (lv_room (Nat.le_of_ble_eq_true rfl)) dX5_init_32 ⟨Nat.le_of_ble_eq_true rfl, Nat.le_of_ble_eq_true rfl⟩) hS (fun q _ h => hFc q h) hFc (fun u t H1 locs ht hvm hw hB hz1 hk1 hS => ?_)
  obtain ⟨q_18, q_19, k_20, hP1, hK1, hD1⟩ := hB
  rw [ht] at hP1
  have hK1 := va_K.moved hvm.symm hK1
  obtain ⟨hP, hD⟩ := va_join (wr := [(h0, .inr (5, [.ref q_1, .int 0, .int 0, .null])), (q_1, .inl (k_2, 5, .inr (.inr (.inr (.inr (va_up (va_up (fun _ => none) (0 : Int32).toNatClampNeg (some q_4)) (1 : Int32).toNatClampNeg (some q_10))))))), (q_4, .inr (4, [.ref q_6, .int 0, .ref q_7])), (q_6, .inl (k_8, 240, .inl (fun _ => 0)))]) (w1 := [(q_16, .inr (4, [.ref q_18, .int 0, .ref q_19])), (q_18, .inl (k_20, 240, .inl (fun _ => 0)))]) hP hD [4] [0, 1, 2, 3] rfl rfl (by decide) (by decide) hk1 hFc hP1 hD1
  have hK := hK.app hK1
  generalize H1 = H at hP hS ⊢
  have hP : va_P (dC, dI) vwCl [(h0, .inr (5, [.ref q_1, .int 0, .int 0, .null])), (q_1, .inl (k_2, 5, .inr (.inr (.inr (.inr (va_up (va_up (fun _ => none) (0 : Int32).toNatClampNeg (some q_4)) (1 : Int32).toNatClampNeg (some q_10))))))), (q_4, .inr (4, [.ref q_6, .int 0, .ref q_7])), (q_6, .inl (k_8, 240, .inl (fun _ => 0))), (q_16, .inr (4, [.ref q_18, .int 0, .ref q_19])), (q_18, .inl (k_20, 240, .inl (fun _ => 0)))] H := hP
  have hD : va_D A [(h0, .inr (5, [.ref q_1, .int 0, .int 0, .null])), (q_1, .inl (k_2, 5, .inr (.inr (.inr (.inr (va_up (va_up (fun _ => none) (0 : Int32).toNatClampNeg (some q_4)) (1 : Int32).toNatClampNeg (some q_10))))))), (q_4, .inr (4, [.ref q_6, .int 0, .ref q_7])), (q_6, .inl (k_8, 240, .inl (fun _ => 0))), (q_16, .inr (4, [.ref q_18, .int 0, .ref q_19])), (q_18, .inl (k_20, 240, .inl (fun _ => 0)))] := hD
  have hK : va_K (dC, dI) vwCl [(k_2, .object RX4), (k_8, .int), (k_14, .int), (k_20, .int)] s := hK
  refine W.widen (k := 10) (n := 926) (by decide) (by decide) ?_
  refine va_astq (r := (RX4, TX4, 3)) hx hb hK hP hD hS 1 0 4 4 rfl rfl rfl rfl (by unfold vp_in; decide) dX5_init_35 (fun H locs hP hD hS => ?_)
  have hP : va_P (dC, dI) vwCl [(h0, .inr (5, [.ref q_1, .int 0, .int 0, .null])), (q_1, .inl (k_2, 5, .inr (.inr (.inr (.inr (va_up (va_up (va_up (fun _ => none) (0 : Int32).toNatClampNeg (some q_4)) (1 : Int32).toNatClampNeg (some q_10)) (2 : Int32).toNatClampNeg (some q_16))))))), (q_4, .inr (4, [.ref q_6, .int 0, .ref q_7])), (q_6, .inl (k_8, 240, .inl (fun _ => 0))), (q_16, .inr (4, [.ref q_18, .int 0, .ref q_19])), (q_18, .inl (k_20, 240, .inl (fun _ => 0)))] H := hP
  have hD : va_D A [(h0, .inr (5, [.ref q_1, .int 0, .int 0, .null])), (q_1, .inl (k_2, 5, .inr (.inr (.inr (.inr (va_up (va_up (va_up (fun _ => none) (0 : Int32).toNatClampNeg (some q_4)) (1 : Int32).toNatClampNeg (some q_10)) (2 : Int32).toNatClampNeg (some q_16))))))), (q_4, .inr (4, [.ref q_6, .int 0, .ref q_7])), (q_6, .inl (k_8, 240, .inl (fun _ => 0))), (q_16, .inr (4, [.ref q_18, .int 0, .ref q_19])), (q_18, .inl (k_20, 240, .inl (fun _ => 0)))] := hD
  refine lv_iinc (v := 3) (lv' := [(1, .int 3), (0, .ref h0)]) hx hb dX5_init_36 hl (k := 0) rfl (by decide) (by decide) rfl (fun ls hl => ?_)
  refine lv_goto (tgt := 14) hx hb dX5_init_39 (by decide) ?_
  have hP := hP.sub (ws' := [(h0, .inr (5, [.ref q_1, .int 0, .int 0, .null])), (q_1, .inl (k_2, 5, .inr (.inr (.inr (.inr (va_up (va_up (va_up (fun _ => none) (0 : Int32).toNatClampNeg (some q_4)) (1 : Int32).toNatClampNeg (some q_10)) (2 : Int32).toNatClampNeg (some q_16))))))), (q_4, .inr (4, [.ref q_6, .int 0, .ref q_7])), (q_6, .inl (k_8, 240, .inl (fun _ => 0)))]) [0, 1, 2, 3] rfl
  have hD := hD.sub (ws' := [(h0, .inr (5, [.ref q_1, .int 0, .int 0, .null])), (q_1, .inl (k_2, 5, .inr (.inr (.inr (.inr (va_up (va_up (va_up (fun _ => none) (0 : Int32).toNatClampNeg (some q_4)) (1 : Int32).toNatClampNeg (some q_10)) (2 : Int32).toNatClampNeg (some q_16))))))), (q_4, .inr (4, [.ref q_6, .int 0, .ref q_7])), (q_6, .inl (k_8, 240, .inl (fun _ => 0)))]) [0, 1, 2, 3] (by decide) rfl
  refine lv_iload_n hx hb dX5_init_14 rfl (lv_at hl 0 rfl) ?_
  refine lv_aload_n hx hb dX5_init_15 rfl (lv_at hl 1 rfl) ?_
  refine va_get (D := (dC, dI)) (ci := 5) (v := .ref q_1) (C := RX5) (T := TX5) (N := 4) hx hb hts iw_c_X5_init_X5 hown hK hP 0 rfl rfl 0 (by decide) (hts (.fieldLink RX5 11 "BuoyVote$LawBook" "laws" "[LBuoyVote$Law;") (List.mem_of_getElem? (i := 5) rfl)) (fun _ h9 => h9) rfl dX5_init_16 ?_
  refine va_alen (v := 5) hx hb hK hP 1 0 rfl rfl rfl dX5_init_19 ?_
  refine lv_icmp_ge (tgt := 42) hx hb dX5_init_20 (by decide) (fun c_21 => absurd c_21 (by decide)) (fun c_21 => ?_)
  refine lv_aload_n hx hb dX5_init_23 rfl (lv_at hl 1 rfl) ?_
  refine va_get (D := (dC, dI)) (ci := 5) (v := .ref q_1) (C := RX5) (T := TX5) (N := 4) hx hb hts iw_c_X5_init_X5 hown hK hP 0 rfl rfl 0 (by decide) (hts (.fieldLink RX5 11 "BuoyVote$LawBook" "laws" "[LBuoyVote$Law;") (List.mem_of_getElem? (i := 5) rfl)) (fun _ h9 => h9) rfl dX5_init_24 ?_
  refine lv_iload_n hx hb dX5_init_27 rfl (lv_at hl 0 rfl) ?_
  refine va_new (ci := 4) (fs := [.null, .int 0, .null]) (C := RX4) (T := TX4) (N := 3) hx hb hts iw_c_X5_init_X4 tyX4 tyX4_ok hown (hts (.classLink RX5 9 RX4) (List.mem_of_getElem? (i := 4) rfl)) (hts (.instantiable RX4 3) (List.mem_of_getElem? (i := 6) rfl)) (hts (.initialized RX4) (List.mem_of_getElem? (i := 7) rfl)) hK hP hD hS hA rfl (vn_X4) (Nat.le_of_ble_eq_true rfl) (Nat.le_of_ble_eq_true rfl) dX5_init_28 (fun q_22 H hP hD hS => ?_)
  have hP : va_P (dC, dI) vwCl [(h0, .inr (5, [.ref q_1, .int 0, .int 0, .null])), (q_1, .inl (k_2, 5, .inr (.inr (.inr (.inr (va_up (va_up (va_up (fun _ => none) (0 : Int32).toNatClampNeg (some q_4)) (1 : Int32).toNatClampNeg (some q_10)) (2 : Int32).toNatClampNeg (some q_16))))))), (q_4, .inr (4, [.ref q_6, .int 0, .ref q_7])), (q_6, .inl (k_8, 240, .inl (fun _ => 0))), (q_22, .inr (4, [.null, .int 0, .null]))] H := hP
  have hD : va_D A [(h0, .inr (5, [.ref q_1, .int 0, .int 0, .null])), (q_1, .inl (k_2, 5, .inr (.inr (.inr (.inr (va_up (va_up (va_up (fun _ => none) (0 : Int32).toNatClampNeg (some q_4)) (1 : Int32).toNatClampNeg (some q_10)) (2 : Int32).toNatClampNeg (some q_16))))))), (q_4, .inr (4, [.ref q_6, .int 0, .ref q_7])), (q_6, .inl (k_8, 240, .inl (fun _ => 0))), (q_22, .inr (4, [.null, .int 0, .null]))] := hD
  refine W.widen (k := 11) (n := 929) (by decide) (by decide) ?_
  refine lv_dup hx hb dX5_init_31 rfl ?_
  have hPc := hP.sub (ws' := [(q_22, .inr (4, [.null, .int 0, .null]))]) [4] rfl
  have hDc := hD.sub (ws' := [(q_22, .inr (4, [.null, .int 0, .null]))]) [4] (by decide) rfl
  have hKc := hK.sub (tys' := []) [] rfl
  have hFc := va_free (wc := [(q_22, .inr (4, [.null, .int 0, .null]))]) hD hS hA [4] rfl
  refine va_callv (va_runI (As := []) (rest := [.ref q_22, .int 3, .ref q_1]) ⟨hx, hb, hml, hown, hts⟩ (c_X4_init l dC dI H.size q_22) (cwI 0 hts gf_c_X5_init_c_X4_init rfl rfl rfl (hts (.initialized RX4) (List.mem_of_getElem? (i := 7) rfl)) (hts (.methodLink RX5 17 yX4_init) (List.mem_of_getElem? (i := 13) rfl)) (hts (.instanceMethod yX4_init) (List.mem_of_getElem? (i := 14) rfl)) rfl (by decide +kernel) ⟨Nat.le_of_ble_eq_true rfl, Nat.le_of_ble_eq_true rfl⟩) ⟨fun a U g mk q => by obtain ⟨q0, q1, qP, qK, qD⟩ := q; exact ⟨q0, q1, qP, va_K.moved (u := U) (U := U.calling g mk a) (Vm.Alike.refl U.vm) qK, qD⟩, fun U hU hW => ⟨rfl, by rw [hU], by rw [hU]; exact hPc, va_K.moved hW.alike hKc, hDc.weaken (fun _ _ _ _ => trivial)⟩⟩ rfl rfl hl.1 rfl (lv_room (Nat.le_of_ble_eq_true rfl)) dX5_init_32 ⟨Nat.le_of_ble_eq_true rfl, Nat.le_of_ble_eq_true rfl⟩) hS (fun q _ h => hFc q h) hFc (fun u t H1 locs ht hvm hw hB hz1 hk1 hS => ?_)
  obtain ⟨q_24, q_25, k_26, hP1, hK1, hD1⟩ := hB
  rw [ht] at hP1
  have hK1 := va_K.moved hvm.symm hK1
  obtain ⟨hP, hD⟩ := va_join (wr := [(h0, .inr (5, [.ref q_1, .int 0, .int 0, .null])), (q_1, .inl (k_2, 5, .inr (.inr (.inr (.inr (va_up (va_up (va_up (fun _ => none) (0 : Int32).toNatClampNeg (some q_4)) (1 : Int32).toNatClampNeg (some q_10)) (2 : Int32).toNatClampNeg (some q_16))))))), (q_4, .inr (4, [.ref q_6, .int 0, .ref q_7])), (q_6, .inl (k_8, 240, .inl (fun _ => 0)))]) (w1 := [(q_22, .inr (4, [.ref q_24, .int 0, .ref q_25])), (q_24, .inl (k_26, 240, .inl (fun _ => 0)))]) hP hD [4] [0, 1, 2, 3] rfl rfl (by decide) (by decide) hk1 hFc hP1 hD1
  have hK := hK.app hK1
  generalize H1 = H at hP hS ⊢
  have hP : va_P (dC, dI) vwCl [(h0, .inr (5, [.ref q_1, .int 0, .int 0, .null])), (q_1, .inl (k_2, 5, .inr (.inr (.inr (.inr (va_up (va_up (va_up (fun _ => none) (0 : Int32).toNatClampNeg (some q_4)) (1 : Int32).toNatClampNeg (some q_10)) (2 : Int32).toNatClampNeg (some q_16))))))), (q_4, .inr (4, [.ref q_6, .int 0, .ref q_7])), (q_6, .inl (k_8, 240, .inl (fun _ => 0))), (q_22, .inr (4, [.ref q_24, .int 0, .ref q_25])), (q_24, .inl (k_26, 240, .inl (fun _ => 0)))] H := hP
  have hD : va_D A [(h0, .inr (5, [.ref q_1, .int 0, .int 0, .null])), (q_1, .inl (k_2, 5, .inr (.inr (.inr (.inr (va_up (va_up (va_up (fun _ => none) (0 : Int32).toNatClampNeg (some q_4)) (1 : Int32).toNatClampNeg (some q_10)) (2 : Int32).toNatClampNeg (some q_16))))))), (q_4, .inr (4, [.ref q_6, .int 0, .ref q_7])), (q_6, .inl (k_8, 240, .inl (fun _ => 0))), (q_22, .inr (4, [.ref q_24, .int 0, .ref q_25])), (q_24, .inl (k_26, 240, .inl (fun _ => 0)))] := hD
  have hK : va_K (dC, dI) vwCl [(k_2, .object RX4), (k_8, .int), (k_14, .int), (k_20, .int), (k_26, .int)] s := hK
  refine W.widen (k := 13) (n := 1233) (by decide) (by decide) ?_
  refine va_astq (r := (RX4, TX4, 3)) hx hb hK hP hD hS 1 0 4 4 rfl rfl rfl rfl (by unfold vp_in; decide) dX5_init_35 (fun H locs hP hD hS => ?_)
  have hP : va_P (dC, dI) vwCl [(h0, .inr (5, [.ref q_1, .int 0, .int 0, .null])), (q_1, .inl (k_2, 5, .inr (.inr (.inr (.inr (va_up (va_up (va_up (va_up (fun _ => none) (0 : Int32).toNatClampNeg (some q_4)) (1 : Int32).toNatClampNeg (some q_10)) (2 : Int32).toNatClampNeg (some q_16)) (3 : Int32).toNatClampNeg (some q_22))))))), (q_4, .inr (4, [.ref q_6, .int 0, .ref q_7])), (q_6, .inl (k_8, 240, .inl (fun _ => 0))), (q_22, .inr (4, [.ref q_24, .int 0, .ref q_25])), (q_24, .inl (k_26, 240, .inl (fun _ => 0)))] H := hP
  have hD : va_D A [(h0, .inr (5, [.ref q_1, .int 0, .int 0, .null])), (q_1, .inl (k_2, 5, .inr (.inr (.inr (.inr (va_up (va_up (va_up (va_up (fun _ => none) (0 : Int32).toNatClampNeg (some q_4)) (1 : Int32).toNatClampNeg (some q_10)) (2 : Int32).toNatClampNeg (some q_16)) (3 : Int32).toNatClampNeg (some q_22))))))), (q_4, .inr (4, [.ref q_6, .int 0, .ref q_7])), (q_6, .inl (k_8, 240, .inl (fun _ => 0))), (q_22, .inr (4, [.ref q_24, .int 0, .ref q_25])), (q_24, .inl (k_26, 240, .inl (fun _ => 0)))] := hD
  refine lv_iinc (v := 4) (lv' := [(1, .int 4), (0, .ref h0)]) hx hb dX5_init_36 hl (k := 0) rfl (by decide) (by decide) rfl (fun ls hl => ?_)
  refine lv_goto (tgt := 14) hx hb dX5_init_39 (by decide) ?_
  have hP := hP.sub (ws' := [(h0, .inr (5, [.ref q_1, .int 0, .int 0, .null])), (q_1, .inl (k_2, 5, .inr (.inr (.inr (.inr (va_up (va_up (va_up (va_up (fun _ => none) (0 : Int32).toNatClampNeg (some q_4)) (1 : Int32).toNatClampNeg (some q_10)) (2 : Int32).toNatClampNeg (some q_16)) (3 : Int32).toNatClampNeg (some q_22))))))), (q_4, .inr (4, [.ref q_6, .int 0, .ref q_7])), (q_6, .inl (k_8, 240, .inl (fun _ => 0)))]) [0, 1, 2, 3] rfl
  have hD := hD.sub (ws' := [(h0, .inr (5, [.ref q_1, .int 0, .int 0, .null])), (q_1, .inl (k_2, 5, .inr (.inr (.inr (.inr (va_up (va_up (va_up (va_up (fun _ => none) (0 : Int32).toNatClampNeg (some q_4)) (1 : Int32).toNatClampNeg (some q_10)) (2 : Int32).toNatClampNeg (some q_16)) (3 : Int32).toNatClampNeg (some q_22))))))), (q_4, .inr (4, [.ref q_6, .int 0, .ref q_7])), (q_6, .inl (k_8, 240, .inl (fun _ => 0)))]) [0, 1, 2, 3] (by decide) rfl
  refine lv_iload_n hx hb dX5_init_14 rfl (lv_at hl 0 rfl) ?_
  refine lv_aload_n hx hb dX5_init_15 rfl (lv_at hl 1 rfl) ?_
  refine va_get (D := (dC, dI)) (ci := 5) (v := .ref q_1) (C := RX5) (T := TX5) (N := 4) hx hb hts iw_c_X5_init_X5 hown hK hP 0 rfl rfl 0 (by decide) (hts (.fieldLink RX5 11 "BuoyVote$LawBook" "laws" "[LBuoyVote$Law;") (List.mem_of_getElem? (i := 5) rfl)) (fun _ h9 => h9) rfl dX5_init_16 ?_
  refine va_alen (v := 5) hx hb hK hP 1 0 rfl rfl rfl dX5_init_19 ?_
  refine lv_icmp_ge (tgt := 42) hx hb dX5_init_20 (by decide) (fun c_27 => absurd c_27 (by decide)) (fun c_27 => ?_)
  refine lv_aload_n hx hb dX5_init_23 rfl (lv_at hl 1 rfl) ?_
  refine va_get (D := (dC, dI)) (ci := 5) (v := .ref q_1) (C := RX5) (T := TX5) (N := 4) hx hb hts iw_c_X5_init_X5 hown hK hP 0 rfl rfl 0 (by decide) (hts (.fieldLink RX5 11 "BuoyVote$LawBook" "laws" "[LBuoyVote$Law;") (List.mem_of_getElem? (i := 5) rfl)) (fun _ h9 => h9) rfl dX5_init_24 ?_
  refine lv_iload_n hx hb dX5_init_27 rfl (lv_at hl 0 rfl) ?_
  refine va_new (ci := 4) (fs := [.null, .int 0, .null]) (C := RX4) (T := TX4) (N := 3) hx hb hts iw_c_X5_init_X4 tyX4 tyX4_ok hown (hts (.classLink RX5 9 RX4) (List.mem_of_getElem? (i := 4) rfl)) (hts (.instantiable RX4 3) (List.mem_of_getElem? (i := 6) rfl)) (hts (.initialized RX4) (List.mem_of_getElem? (i := 7) rfl)) hK hP hD hS hA rfl (vn_X4) (Nat.le_of_ble_eq_true rfl) (Nat.le_of_ble_eq_true rfl) dX5_init_28 (fun q_28 H hP hD hS => ?_)
  have hP : va_P (dC, dI) vwCl [(h0, .inr (5, [.ref q_1, .int 0, .int 0, .null])), (q_1, .inl (k_2, 5, .inr (.inr (.inr (.inr (va_up (va_up (va_up (va_up (fun _ => none) (0 : Int32).toNatClampNeg (some q_4)) (1 : Int32).toNatClampNeg (some q_10)) (2 : Int32).toNatClampNeg (some q_16)) (3 : Int32).toNatClampNeg (some q_22))))))), (q_4, .inr (4, [.ref q_6, .int 0, .ref q_7])), (q_6, .inl (k_8, 240, .inl (fun _ => 0))), (q_28, .inr (4, [.null, .int 0, .null]))] H := hP
  have hD : va_D A [(h0, .inr (5, [.ref q_1, .int 0, .int 0, .null])), (q_1, .inl (k_2, 5, .inr (.inr (.inr (.inr (va_up (va_up (va_up (va_up (fun _ => none) (0 : Int32).toNatClampNeg (some q_4)) (1 : Int32).toNatClampNeg (some q_10)) (2 : Int32).toNatClampNeg (some q_16)) (3 : Int32).toNatClampNeg (some q_22))))))), (q_4, .inr (4, [.ref q_6, .int 0, .ref q_7])), (q_6, .inl (k_8, 240, .inl (fun _ => 0))), (q_28, .inr (4, [.null, .int 0, .null]))] := hD
  refine W.widen (k := 14) (n := 1236) (by decide) (by decide) ?_
  refine lv_dup hx hb dX5_init_31 rfl ?_
  have hPc := hP.sub (ws' := [(q_28, .inr (4, [.null, .int 0, .null]))]) [4] rfl
  have hDc := hD.sub (ws' := [(q_28, .inr (4, [.null, .int 0, .null]))]) [4] (by decide) rfl
  have hKc := hK.sub (tys' := []) [] rfl
  have hFc := va_free (wc := [(q_28, .inr (4, [.null, .int 0, .null]))]) hD hS hA [4] rfl
  refine va_callv (va_runI (As := []) (rest := [.ref q_28, .int 4, .ref q_1]) ⟨hx, hb, hml, hown, hts⟩ (c_X4_init l dC dI H.size q_28) (cwI 0 hts gf_c_X5_init_c_X4_init rfl rfl rfl (hts (.initialized RX4) (List.mem_of_getElem? (i := 7) rfl)) (hts (.methodLink RX5 17 yX4_init) (List.mem_of_getElem? (i := 13) rfl)) (hts (.instanceMethod yX4_init) (List.mem_of_getElem? (i := 14) rfl)) rfl (by decide +kernel) ⟨Nat.le_of_ble_eq_true rfl, Nat.le_of_ble_eq_true rfl⟩) ⟨fun a U g mk q => by obtain ⟨q0, q1, qP, qK, qD⟩ := q; exact ⟨q0, q1, qP, va_K.moved (u := U) (U := U.calling g mk a) (Vm.Alike.refl U.vm) qK, qD⟩, fun U hU hW => ⟨rfl, by rw [hU], by rw [hU]; exact hPc, va_K.moved hW.alike hKc, hDc.weaken (fun _ _ _ _ => trivial)⟩⟩ rfl rfl hl.1 rfl (lv_room (Nat.le_of_ble_eq_true rfl)) dX5_init_32 ⟨Nat.le_of_ble_eq_true rfl, Nat.le_of_ble_eq_true rfl⟩) hS (fun q _ h => hFc q h) hFc (fun u t H1 locs ht hvm hw hB hz1 hk1 hS => ?_)
  obtain ⟨q_30, q_31, k_32, hP1, hK1, hD1⟩ := hB
  rw [ht] at hP1
  have hK1 := va_K.moved hvm.symm hK1
  obtain ⟨hP, hD⟩ := va_join (wr := [(h0, .inr (5, [.ref q_1, .int 0, .int 0, .null])), (q_1, .inl (k_2, 5, .inr (.inr (.inr (.inr (va_up (va_up (va_up (va_up (fun _ => none) (0 : Int32).toNatClampNeg (some q_4)) (1 : Int32).toNatClampNeg (some q_10)) (2 : Int32).toNatClampNeg (some q_16)) (3 : Int32).toNatClampNeg (some q_22))))))), (q_4, .inr (4, [.ref q_6, .int 0, .ref q_7])), (q_6, .inl (k_8, 240, .inl (fun _ => 0)))]) (w1 := [(q_28, .inr (4, [.ref q_30, .int 0, .ref q_31])), (q_30, .inl (k_32, 240, .inl (fun _ => 0)))]) hP hD [4] [0, 1, 2, 3] rfl rfl (by decide) (by decide) hk1 hFc hP1 hD1
  have hK := hK.app hK1
  generalize H1 = H at hP hS ⊢
  have hP : va_P (dC, dI) vwCl [(h0, .inr (5, [.ref q_1, .int 0, .int 0, .null])), (q_1, .inl (k_2, 5, .inr (.inr (.inr (.inr (va_up (va_up (va_up (va_up (fun _ => none) (0 : Int32).toNatClampNeg (some q_4)) (1 : Int32).toNatClampNeg (some q_10)) (2 : Int32).toNatClampNeg (some q_16)) (3 : Int32).toNatClampNeg (some q_22))))))), (q_4, .inr (4, [.ref q_6, .int 0, .ref q_7])), (q_6, .inl (k_8, 240, .inl (fun _ => 0))), (q_28, .inr (4, [.ref q_30, .int 0, .ref q_31])), (q_30, .inl (k_32, 240, .inl (fun _ => 0)))] H := hP
  have hD : va_D A [(h0, .inr (5, [.ref q_1, .int 0, .int 0, .null])), (q_1, .inl (k_2, 5, .inr (.inr (.inr (.inr (va_up (va_up (va_up (va_up (fun _ => none) (0 : Int32).toNatClampNeg (some q_4)) (1 : Int32).toNatClampNeg (some q_10)) (2 : Int32).toNatClampNeg (some q_16)) (3 : Int32).toNatClampNeg (some q_22))))))), (q_4, .inr (4, [.ref q_6, .int 0, .ref q_7])), (q_6, .inl (k_8, 240, .inl (fun _ => 0))), (q_28, .inr (4, [.ref q_30, .int 0, .ref q_31])), (q_30, .inl (k_32, 240, .inl (fun _ => 0)))] := hD
  have hK : va_K (dC, dI) vwCl [(k_2, .object RX4), (k_8, .int), (k_14, .int), (k_20, .int), (k_26, .int), (k_32, .int)] s := hK
  refine W.widen (k := 16) (n := 1540) (by decide) (by decide) ?_
  refine va_astq (r := (RX4, TX4, 3)) hx hb hK hP hD hS 1 0 4 4 rfl rfl rfl rfl (by unfold vp_in; decide) dX5_init_35 (fun H locs hP hD hS => ?_)
  have hP : va_P (dC, dI) vwCl [(h0, .inr (5, [.ref q_1, .int 0, .int 0, .null])), (q_1, .inl (k_2, 5, .inr (.inr (.inr (.inr (va_up (va_up (va_up (va_up (va_up (fun _ => none) (0 : Int32).toNatClampNeg (some q_4)) (1 : Int32).toNatClampNeg (some q_10)) (2 : Int32).toNatClampNeg (some q_16)) (3 : Int32).toNatClampNeg (some q_22)) (4 : Int32).toNatClampNeg (some q_28))))))), (q_4, .inr (4, [.ref q_6, .int 0, .ref q_7])), (q_6, .inl (k_8, 240, .inl (fun _ => 0))), (q_28, .inr (4, [.ref q_30, .int 0, .ref q_31])), (q_30, .inl (k_32, 240, .inl (fun _ => 0)))] H := hP
  have hD : va_D A [(h0, .inr (5, [.ref q_1, .int 0, .int 0, .null])), (q_1, .inl (k_2, 5, .inr (.inr (.inr (.inr (va_up (va_up (va_up (va_up (va_up (fun _ => none) (0 : Int32).toNatClampNeg (some q_4)) (1 : Int32).toNatClampNeg (some q_10)) (2 : Int32).toNatClampNeg (some q_16)) (3 : Int32).toNatClampNeg (some q_22)) (4 : Int32).toNatClampNeg (some q_28))))))), (q_4, .inr (4, [.ref q_6, .int 0, .ref q_7])), (q_6, .inl (k_8, 240, .inl (fun _ => 0))), (q_28, .inr (4, [.ref q_30, .int 0, .ref q_31])), (q_30, .inl (k_32, 240, .inl (fun _ => 0)))] := hD
  refine lv_iinc (v := 5) (lv' := [(1, .int 5), (0, .ref h0)]) hx hb dX5_init_36 hl (k := 0) rfl (by decide) (by decide) rfl (fun ls hl => ?_)
  refine lv_goto (tgt := 14) hx hb dX5_init_39 (by decide) ?_
  have hP := hP.sub (ws' := [(h0, .inr (5, [.ref q_1, .int 0, .int 0, .null])), (q_1, .inl (k_2, 5, .inr (.inr (.inr (.inr (va_up (va_up (va_up (va_up (va_up (fun _ => none) (0 : Int32).toNatClampNeg (some q_4)) (1 : Int32).toNatClampNeg (some q_10)) (2 : Int32).toNatClampNeg (some q_16)) (3 : Int32).toNatClampNeg (some q_22)) (4 : Int32).toNatClampNeg (some q_28))))))), (q_4, .inr (4, [.ref q_6, .int 0, .ref q_7])), (q_6, .inl (k_8, 240, .inl (fun _ => 0)))]) [0, 1, 2, 3] rfl
  have hD := hD.sub (ws' := [(h0, .inr (5, [.ref q_1, .int 0, .int 0, .null])), (q_1, .inl (k_2, 5, .inr (.inr (.inr (.inr (va_up (va_up (va_up (va_up (va_up (fun _ => none) (0 : Int32).toNatClampNeg (some q_4)) (1 : Int32).toNatClampNeg (some q_10)) (2 : Int32).toNatClampNeg (some q_16)) (3 : Int32).toNatClampNeg (some q_22)) (4 : Int32).toNatClampNeg (some q_28))))))), (q_4, .inr (4, [.ref q_6, .int 0, .ref q_7])), (q_6, .inl (k_8, 240, .inl (fun _ => 0)))]) [0, 1, 2, 3] (by decide) rfl
  refine lv_iload_n hx hb dX5_init_14 rfl (lv_at hl 0 rfl) ?_
  refine lv_aload_n hx hb dX5_init_15 rfl (lv_at hl 1 rfl) ?_
  refine va_get (D := (dC, dI)) (ci := 5) (v := .ref q_1) (C := RX5) (T := TX5) (N := 4) hx hb hts iw_c_X5_init_X5 hown hK hP 0 rfl rfl 0 (by decide) (hts (.fieldLink RX5 11 "BuoyVote$LawBook" "laws" "[LBuoyVote$Law;") (List.mem_of_getElem? (i := 5) rfl)) (fun _ h9 => h9) rfl dX5_init_16 ?_
  refine va_alen (v := 5) hx hb hK hP 1 0 rfl rfl rfl dX5_init_19 ?_
  refine lv_icmp_ge (tgt := 42) hx hb dX5_init_20 (by decide) (fun c_33 => ?_) (fun c_33 => absurd c_33 (by decide))
  refine lv_aload_n hx hb dX5_init_42 rfl (lv_at hl 1 rfl) ?_
  refine lv_iconst (v := (-1)) hx hb dX5_init_43 (by decide) ?_
  refine va_put (D := (dC, dI)) (ci := 5) (v := .int (-1)) (ty := .int) (C := RX5) (T := TX5) (N := 4) hx hb hts iw_c_X5_init_X5 tyX5 tyX5_ok nmX5 hown hK hP hD hS 0 rfl rfl 2 (by decide) (hts (.fieldLink RX5 18 "BuoyVote$LawBook" "holding" "I") (List.mem_of_getElem? (i := 15) rfl)) (fun _ h9 => h9) rfl (by decide +kernel) rfl rfl (Nat.le_of_ble_eq_true rfl) dX5_init_44 (fun H locs hP hD hS => ?_)
  have hP : va_P (dC, dI) vwCl [(h0, .inr (5, [.ref q_1, .int 0, .int (-1), .null])), (q_1, .inl (k_2, 5, .inr (.inr (.inr (.inr (va_up (va_up (va_up (va_up (va_up (fun _ => none) (0 : Int32).toNatClampNeg (some q_4)) (1 : Int32).toNatClampNeg (some q_10)) (2 : Int32).toNatClampNeg (some q_16)) (3 : Int32).toNatClampNeg (some q_22)) (4 : Int32).toNatClampNeg (some q_28))))))), (q_4, .inr (4, [.ref q_6, .int 0, .ref q_7])), (q_6, .inl (k_8, 240, .inl (fun _ => 0)))] H := hP
  have hD : va_D A [(h0, .inr (5, [.ref q_1, .int 0, .int (-1), .null])), (q_1, .inl (k_2, 5, .inr (.inr (.inr (.inr (va_up (va_up (va_up (va_up (va_up (fun _ => none) (0 : Int32).toNatClampNeg (some q_4)) (1 : Int32).toNatClampNeg (some q_10)) (2 : Int32).toNatClampNeg (some q_16)) (3 : Int32).toNatClampNeg (some q_22)) (4 : Int32).toNatClampNeg (some q_28))))))), (q_4, .inr (4, [.ref q_6, .int 0, .ref q_7])), (q_6, .inl (k_8, 240, .inl (fun _ => 0)))] := hD
  refine lv_aload_n hx hb dX5_init_47 rfl (lv_at hl 1 rfl) ?_
  refine lv_bipush (v := 6) hx hb dX5_init_48 (by decide) ?_
  refine va_newa (atype := .int) (a0 := (6, .inl (fun _ => 0))) (ty := .int) (N' := 6) hx hb (hts (.arrayClass .int) (List.mem_of_getElem? (i := 10) rfl)) rfl hK hP hD hS hA (fun cA => vp_cell_i cA 6 (fun _ => 0)) (by decide) (by decide) (by decide +kernel) (Nat.le_of_ble_eq_true rfl) (Nat.le_of_ble_eq_true rfl) dX5_init_50 (fun q_34 k_35 H hK hP hD hS => ?_)
  have hP : va_P (dC, dI) vwCl [(h0, .inr (5, [.ref q_1, .int 0, .int (-1), .null])), (q_1, .inl (k_2, 5, .inr (.inr (.inr (.inr (va_up (va_up (va_up (va_up (va_up (fun _ => none) (0 : Int32).toNatClampNeg (some q_4)) (1 : Int32).toNatClampNeg (some q_10)) (2 : Int32).toNatClampNeg (some q_16)) (3 : Int32).toNatClampNeg (some q_22)) (4 : Int32).toNatClampNeg (some q_28))))))), (q_4, .inr (4, [.ref q_6, .int 0, .ref q_7])), (q_6, .inl (k_8, 240, .inl (fun _ => 0))), (q_34, .inl (k_35, 6, .inl (fun _ => 0)))] H := hP
  have hD : va_D A [(h0, .inr (5, [.ref q_1, .int 0, .int (-1), .null])), (q_1, .inl (k_2, 5, .inr (.inr (.inr (.inr (va_up (va_up (va_up (va_up (va_up (fun _ => none) (0 : Int32).toNatClampNeg (some q_4)) (1 : Int32).toNatClampNeg (some q_10)) (2 : Int32).toNatClampNeg (some q_16)) (3 : Int32).toNatClampNeg (some q_22)) (4 : Int32).toNatClampNeg (some q_28))))))), (q_4, .inr (4, [.ref q_6, .int 0, .ref q_7])), (q_6, .inl (k_8, 240, .inl (fun _ => 0))), (q_34, .inl (k_35, 6, .inl (fun _ => 0)))] := hD
  have hK : va_K (dC, dI) vwCl [(k_2, .object RX4), (k_8, .int), (k_14, .int), (k_20, .int), (k_26, .int), (k_32, .int), (k_35, .int)] s := hK
  refine W.widen (k := 17) (n := 1546) (by decide) (by decide) ?_
  refine va_putF (D := (dC, dI)) (ci := 5) (v := .ref q_34) (ty := (.array .int)) (C := RX5) (T := TX5) (N := 4) hx hb hts iw_c_X5_init_X5 tyX5 tyX5_ok nmX5 hown hK hP hD hS 0 rfl rfl 3 (by decide) (hts (.fieldLink RX5 22 "BuoyVote$LawBook" "letters" "[I") (List.mem_of_getElem? (i := 16) rfl)) (fun _ h9 => h9) rfl hin rfl (by decide +kernel) rfl rfl (Nat.le_of_ble_eq_true rfl) dX5_init_52 (fun H locs hP hD hS => ?_)
  have hP : va_P (dC, dI) vwCl [(h0, .inr (5, [.ref q_1, .int 0, .int (-1), .ref q_34])), (q_1, .inl (k_2, 5, .inr (.inr (.inr (.inr (va_up (va_up (va_up (va_up (va_up (fun _ => none) (0 : Int32).toNatClampNeg (some q_4)) (1 : Int32).toNatClampNeg (some q_10)) (2 : Int32).toNatClampNeg (some q_16)) (3 : Int32).toNatClampNeg (some q_22)) (4 : Int32).toNatClampNeg (some q_28))))))), (q_4, .inr (4, [.ref q_6, .int 0, .ref q_7])), (q_6, .inl (k_8, 240, .inl (fun _ => 0))), (q_34, .inl (k_35, 6, .inl (fun _ => 0)))] H := hP
  have hD : va_D A [(h0, .inr (5, [.ref q_1, .int 0, .int (-1), .ref q_34])), (q_1, .inl (k_2, 5, .inr (.inr (.inr (.inr (va_up (va_up (va_up (va_up (va_up (fun _ => none) (0 : Int32).toNatClampNeg (some q_4)) (1 : Int32).toNatClampNeg (some q_10)) (2 : Int32).toNatClampNeg (some q_16)) (3 : Int32).toNatClampNeg (some q_22)) (4 : Int32).toNatClampNeg (some q_28))))))), (q_4, .inr (4, [.ref q_6, .int 0, .ref q_7])), (q_6, .inl (k_8, 240, .inl (fun _ => 0))), (q_34, .inl (k_35, 6, .inl (fun _ => 0)))] := hD
  have hP9 := hP.sub (ws' := [(h0, .inr (5, [.ref q_1, .int 0, .int (-1), .ref q_34])), (q_1, .inl (k_2, 5, .inr (.inr (.inr (.inr (va_up (va_up (va_up (va_up (va_up (fun _ => none) (0 : Int32).toNatClampNeg (some q_4)) (1 : Int32).toNatClampNeg (some q_10)) (2 : Int32).toNatClampNeg (some q_16)) (3 : Int32).toNatClampNeg (some q_22)) (4 : Int32).toNatClampNeg (some q_28))))))), (q_4, .inr (4, [.ref q_6, .int 0, .ref q_7])), (q_6, .inl (k_8, 240, .inl (fun _ => 0)))]) [0, 1, 2, 3] rfl
  have hD9 := hD.sub (ws' := [(h0, .inr (5, [.ref q_1, .int 0, .int (-1), .ref q_34])), (q_1, .inl (k_2, 5, .inr (.inr (.inr (.inr (va_up (va_up (va_up (va_up (va_up (fun _ => none) (0 : Int32).toNatClampNeg (some q_4)) (1 : Int32).toNatClampNeg (some q_10)) (2 : Int32).toNatClampNeg (some q_16)) (3 : Int32).toNatClampNeg (some q_22)) (4 : Int32).toNatClampNeg (some q_28))))))), (q_4, .inr (4, [.ref q_6, .int 0, .ref q_7])), (q_6, .inl (k_8, 240, .inl (fun _ => 0)))]) [0, 1, 2, 3] (by decide) rfl
  have hK9 := hK.sub (tys' := [(k_2, .object RX4), (k_8, .int)]) [0, 1] rfl
  exact W.vret hx hb hr (fun t ht hW => ⟨⟨(), rfl, trivial, q_1, q_4, q_6, q_34, q_10, q_16, q_22, q_28, q_7, k_2, k_8, by rw [ht]; exact hP9, va_K.moved hW.alike hK9, hD9⟩, hS.F ht⟩) hS.2.2 dX5_init_55
def wf_c_X6_init : List Cond := .code yX6_init cX6_init 1 none :: ([.methodLink RX6 3 objectInit, .instanceMethod objectInit, .code objectInit ⟨#[0xb1]⟩ 1 none, .arrayClass .int, .fieldLink RX6 11 "BuoyVote$Plan" "cells" "[I"] ++ wsX60)
theorem iw_c_X6_init_X6 : ∀ w ∈ wsX60, w ∈ wf_c_X6_init := fun w h => List.mem_cons_of_mem _ (List.mem_append_right _ h)
set_option maxHeartbeats 4000000 in
set_option maxRecDepth 100000 in
theorem c_X6_init (l : Launch) (dC : Nat → ClassId) (dI : Nat → Nat → Nat) (sz : Nat) (h0 : Nat) : Met l yX6_init wf_c_X6_init ({ frames := 1, cells := 1, slots := 64, locals := 12 }) (va_Pc [.ref h0] (fun U => U.heap.size = sz ∧ va_P (dC, dI) vwCl [(h0, .inr (6, [.null, .int 0]))] U.heap ∧ va_K (dC, dI) vwCl [] U ∧ va_D (fun _ => True) [(h0, .inr (6, [.null, .int 0]))])) (va_Qv (fun (u : Unit) => True) (fun (_ : Unit) t => ∃ (q_1 : Nat), va_P (dC, dI) vwCl [(h0, .inr (6, [.ref q_1, .int 0]))] t.heap ∧ va_K (dC, dI) vwCl [] t ∧ va_D (va_A [(h0, .inr (6, [.null, .int 0]))] sz) [(h0, .inr (6, [.ref q_1, .int 0]))]) (va_A [(h0, .inr (6, [.null, .int 0]))] sz)) 1 64 (va_A [(h0, .inr (6, [.null, .int 0]))] sz) := by
  refine Met.ofW (cc := cX6_init) (maxL := 1) (ret := none) (by decide) rfl ?_
  intro p e s m args below meth c s₁ B hml hv
  obtain ⟨rfl, hsz, hP, hK, hD0⟩ := hv
  have hx := B.exec
  have hb := B.bytes
  have hr := B.returns
  have hts := atoms_spec (ws := wf_c_X6_init) B.pre
  have hown : s.vm.findClass RX6 = some m.cls := findClass_of_methodNamed B.named
  have hlocks := B.notSynchronized
  have hin : meth.name = "<init>" := (name_of_methodNamed B.named B.method).1
  subst hsz
  have hD := hD0.self (sz := s.heap.size)
  generalize hAe : va_A [(h0, .inr (6, [.null, .int 0]))] s.heap.size = A at hD ⊢
  have hA : ∀ q : Nat, s.heap.size ≤ q → A q := fun q h => by rw [← hAe]; exact Or.inr h
  have hP : va_P (dC, dI) vwCl [(h0, .inr (6, [.null, .int 0]))] s.heap := hP
  have hl := lv_entry ([.ref h0]) (n := 1) (Nat.le_of_ble_eq_true rfl)
  rw [lg_entry_eq]
  generalize (lg_sl ([.ref h0]) ++ List.replicate (1 - (lg_sl ([.ref h0])).length) Slot.unset).toArray = ls at hl ⊢
  have hl : lv_has ls 1 [(0, .ref h0)] := hl
  obtain ⟨H, hHe⟩ : ∃ H : Heap, s.heap = H := ⟨_, rfl⟩
  have hS : va_S A s.heap H [] := by rw [hHe]; exact va_S.rf
  have hP : va_P (dC, dI) vwCl [(h0, .inr (6, [.null, .int 0]))] H := by rw [← hHe]; exact hP
  rw [hHe]
  refine lv_aload_n hx hb dX6_init_0 rfl (lv_at hl 0 rfl) ?_
  refine W.objInit hx hb hown (hts (.methodLink RX6 3 objectInit) (List.mem_of_getElem? (i := 1) rfl)) (hts (.instanceMethod objectInit) (List.mem_of_getElem? (i := 2) rfl)) (hts (.code objectInit ⟨#[0xb1]⟩ 1 none) (List.mem_of_getElem? (i := 3) rfl)) rfl (by rw [hml]; exact hl.1) rfl dX6_init_1 (Nat.le_of_ble_eq_true rfl) (Nat.le_of_ble_eq_true rfl) ?_
  refine W.eq (g2 := F0 m 4 ls []) rfl ?_
  refine lv_aload_n hx hb dX6_init_4 rfl (lv_at hl 0 rfl) ?_
  refine lv_bipush (v := 64) hx hb dX6_init_5 (by decide) ?_
  refine va_newa (atype := .int) (a0 := (64, .inl (fun _ => 0))) (ty := .int) (N' := 64) hx hb (hts (.arrayClass .int) (List.mem_of_getElem? (i := 4) rfl)) rfl hK hP hD hS hA (fun cA => vp_cell_i cA 64 (fun _ => 0)) (by decide) (by decide) (by decide +kernel) (Nat.le_of_ble_eq_true rfl) (Nat.le_of_ble_eq_true rfl) dX6_init_7 (fun q_1 k_2 H hK hP hD hS => ?_)
  have hP : va_P (dC, dI) vwCl [(h0, .inr (6, [.null, .int 0])), (q_1, .inl (k_2, 64, .inl (fun _ => 0)))] H := hP
  have hD : va_D A [(h0, .inr (6, [.null, .int 0])), (q_1, .inl (k_2, 64, .inl (fun _ => 0)))] := hD
  have hK : va_K (dC, dI) vwCl [(k_2, .int)] s := hK
  refine W.widen (k := 1) (n := 64) (by decide) (by decide) ?_
  refine va_putF (D := (dC, dI)) (ci := 6) (v := .ref q_1) (ty := (.array .int)) (C := RX6) (T := TX6) (N := 2) hx hb hts iw_c_X6_init_X6 tyX6 tyX6_ok nmX6 hown hK hP hD hS 0 rfl rfl 0 (by decide) (hts (.fieldLink RX6 11 "BuoyVote$Plan" "cells" "[I") (List.mem_of_getElem? (i := 5) rfl)) (fun _ h9 => h9) rfl hin rfl (by decide +kernel) rfl rfl (Nat.le_of_ble_eq_true rfl) dX6_init_9 (fun H locs hP hD hS => ?_)
  have hP : va_P (dC, dI) vwCl [(h0, .inr (6, [.ref q_1, .int 0])), (q_1, .inl (k_2, 64, .inl (fun _ => 0)))] H := hP
  have hD : va_D A [(h0, .inr (6, [.ref q_1, .int 0])), (q_1, .inl (k_2, 64, .inl (fun _ => 0)))] := hD
  have hP9 := hP.sub (ws' := [(h0, .inr (6, [.ref q_1, .int 0]))]) [0] rfl
  have hD9 := hD.sub (ws' := [(h0, .inr (6, [.ref q_1, .int 0]))]) [0] (by decide) rfl
  have hK9 := hK.sub (tys' := []) [] rfl
  exact W.vret hx hb hr (fun t ht hW => ⟨⟨(), rfl, trivial, q_1, by rw [ht]; exact hP9, va_K.moved hW.alike hK9, hD9⟩, hS.F ht⟩) hS.2.2 dX6_init_12
def wf_c_X10_init : List Cond := .code yX10_init cX10_init 3 none :: ([.methodLink RX10 3 objectInit, .instanceMethod objectInit, .code objectInit ⟨#[0xb1]⟩ 1 none, .fieldLink RX10 9 "BuoyVote$Waters" "told" "LBuoyVote$Borough;", .fieldLink RX10 15 "BuoyVote$Waters" "laws" "LBuoyVote$LawBook;", .arrayClass .int, .fieldLink RX10 19 "BuoyVote$Waters" "draws" "[I", .fieldLink RX10 23 "BuoyVote$Waters" "leans" "[I", .fieldLink RX10 26 "BuoyVote$Waters" "tally" "[I", .fieldLink RX10 29 "BuoyVote$Waters" "bars" "[I"] ++ wsX100)
theorem iw_c_X10_init_X10 : ∀ w ∈ wsX100, w ∈ wf_c_X10_init := fun w h => List.mem_cons_of_mem _ (List.mem_append_right _ h)
set_option maxHeartbeats 4000000 in
set_option maxRecDepth 100000 in
theorem c_X10_init (l : Launch) (dC : Nat → ClassId) (dI : Nat → Nat → Nat) (sz : Nat) (h0 : Nat) (h1 : Nat) (h2 : Nat) : Met l yX10_init wf_c_X10_init ({ frames := 1, cells := 4, slots := 22, locals := 12 }) (va_Pc [.ref h0, .ref h1, .ref h2] (fun U => U.heap.size = sz ∧ va_P (dC, dI) vwCl [(h0, .inr (10, [.null, .null, .null, .null, .null, .null]))] U.heap ∧ va_K (dC, dI) vwCl [] U ∧ va_D (fun _ => True) [(h0, .inr (10, [.null, .null, .null, .null, .null, .null]))])) (va_Qv (fun (u : Unit) => True) (fun (_ : Unit) t => ∃ (q_5 : Nat), ∃ (q_1 : Nat), ∃ (q_3 : Nat), ∃ (q_7 : Nat), ∃ (k_6 : ClassId), va_P (dC, dI) vwCl [(h0, .inr (10, [.ref h1, .ref h2, .ref q_1, .ref q_3, .ref q_5, .ref q_7])), (q_5, .inl (k_6, 3, .inl (fun _ => 0)))] t.heap ∧ va_K (dC, dI) vwCl [(k_6, .int)] t ∧ va_D (va_A [(h0, .inr (10, [.null, .null, .null, .null, .null, .null]))] sz) [(h0, .inr (10, [.ref h1, .ref h2, .ref q_1, .ref q_3, .ref q_5, .ref q_7])), (q_5, .inl (k_6, 3, .inl (fun _ => 0)))]) (va_A [(h0, .inr (10, [.null, .null, .null, .null, .null, .null]))] sz)) 4 22 (va_A [(h0, .inr (10, [.null, .null, .null, .null, .null, .null]))] sz) := by
  refine Met.ofW (cc := cX10_init) (maxL := 3) (ret := none) (by decide) rfl ?_
  intro p e s m args below meth c s₁ B hml hv
  obtain ⟨rfl, hsz, hP, hK, hD0⟩ := hv
  have hx := B.exec
  have hb := B.bytes
  have hr := B.returns
  have hts := atoms_spec (ws := wf_c_X10_init) B.pre
  have hown : s.vm.findClass RX10 = some m.cls := findClass_of_methodNamed B.named
  have hlocks := B.notSynchronized
  have hin : meth.name = "<init>" := (name_of_methodNamed B.named B.method).1
  subst hsz
  have hD := hD0.self (sz := s.heap.size)
  generalize hAe : va_A [(h0, .inr (10, [.null, .null, .null, .null, .null, .null]))] s.heap.size = A at hD ⊢
  have hA : ∀ q : Nat, s.heap.size ≤ q → A q := fun q h => by rw [← hAe]; exact Or.inr h
  have hP : va_P (dC, dI) vwCl [(h0, .inr (10, [.null, .null, .null, .null, .null, .null]))] s.heap := hP
  have hl := lv_entry ([.ref h0, .ref h1, .ref h2]) (n := 3) (Nat.le_of_ble_eq_true rfl)
  rw [lg_entry_eq]
  generalize (lg_sl ([.ref h0, .ref h1, .ref h2]) ++ List.replicate (3 - (lg_sl ([.ref h0, .ref h1, .ref h2])).length) Slot.unset).toArray = ls at hl ⊢
  have hl : lv_has ls 3 [(0, .ref h0), (1, .ref h1), (2, .ref h2)] := hl
  obtain ⟨H, hHe⟩ : ∃ H : Heap, s.heap = H := ⟨_, rfl⟩
  have hS : va_S A s.heap H [] := by rw [hHe]; exact va_S.rf
  have hP : va_P (dC, dI) vwCl [(h0, .inr (10, [.null, .null, .null, .null, .null, .null]))] H := by rw [← hHe]; exact hP
  rw [hHe]
  refine lv_aload_n hx hb dX10_init_0 rfl (lv_at hl 0 rfl) ?_
  refine W.objInit hx hb hown (hts (.methodLink RX10 3 objectInit) (List.mem_of_getElem? (i := 1) rfl)) (hts (.instanceMethod objectInit) (List.mem_of_getElem? (i := 2) rfl)) (hts (.code objectInit ⟨#[0xb1]⟩ 1 none) (List.mem_of_getElem? (i := 3) rfl)) rfl (by rw [hml]; exact hl.1) rfl dX10_init_1 (Nat.le_of_ble_eq_true rfl) (Nat.le_of_ble_eq_true rfl) ?_
  refine W.eq (g2 := F0 m 4 ls []) rfl ?_
  refine lv_aload_n hx hb dX10_init_4 rfl (lv_at hl 0 rfl) ?_
  refine lv_aload_n hx hb dX10_init_5 rfl (lv_at hl 1 rfl) ?_
  refine va_putF (D := (dC, dI)) (ci := 10) (v := .ref h1) (ty := (.object "BuoyVote$Borough")) (C := RX10) (T := TX10) (N := 6) hx hb hts iw_c_X10_init_X10 tyX10 tyX10_ok nmX10 hown hK hP hD hS 0 rfl rfl 0 (by decide) (hts (.fieldLink RX10 9 "BuoyVote$Waters" "told" "LBuoyVote$Borough;") (List.mem_of_getElem? (i := 4) rfl)) (fun _ h9 => h9) rfl hin rfl (by decide +kernel) rfl rfl (Nat.le_of_ble_eq_true rfl) dX10_init_6 (fun H locs hP hD hS => ?_)
  have hP : va_P (dC, dI) vwCl [(h0, .inr (10, [.ref h1, .null, .null, .null, .null, .null]))] H := hP
  have hD : va_D A [(h0, .inr (10, [.ref h1, .null, .null, .null, .null, .null]))] := hD
  refine lv_aload_n hx hb dX10_init_9 rfl (lv_at hl 0 rfl) ?_
  refine lv_aload_n hx hb dX10_init_10 rfl (lv_at hl 2 rfl) ?_
  refine va_putF (D := (dC, dI)) (ci := 10) (v := .ref h2) (ty := (.object "BuoyVote$LawBook")) (C := RX10) (T := TX10) (N := 6) hx hb hts iw_c_X10_init_X10 tyX10 tyX10_ok nmX10 hown hK hP hD hS 0 rfl rfl 1 (by decide) (hts (.fieldLink RX10 15 "BuoyVote$Waters" "laws" "LBuoyVote$LawBook;") (List.mem_of_getElem? (i := 5) rfl)) (fun _ h9 => h9) rfl hin rfl (by decide +kernel) rfl rfl (Nat.le_of_ble_eq_true rfl) dX10_init_11 (fun H locs hP hD hS => ?_)
  have hP : va_P (dC, dI) vwCl [(h0, .inr (10, [.ref h1, .ref h2, .null, .null, .null, .null]))] H := hP
  have hD : va_D A [(h0, .inr (10, [.ref h1, .ref h2, .null, .null, .null, .null]))] := hD
  refine lv_aload_n hx hb dX10_init_14 rfl (lv_at hl 0 rfl) ?_
  refine lv_iconst (v := 3) hx hb dX10_init_15 (by decide) ?_
  refine va_newa (atype := .int) (a0 := (3, .inl (fun _ => 0))) (ty := .int) (N' := 3) hx hb (hts (.arrayClass .int) (List.mem_of_getElem? (i := 6) rfl)) rfl hK hP hD hS hA (fun cA => vp_cell_i cA 3 (fun _ => 0)) (by decide) (by decide) (by decide +kernel) (Nat.le_of_ble_eq_true rfl) (Nat.le_of_ble_eq_true rfl) dX10_init_16 (fun q_1 k_2 H hK hP hD hS => ?_)
  have hP : va_P (dC, dI) vwCl [(h0, .inr (10, [.ref h1, .ref h2, .null, .null, .null, .null])), (q_1, .inl (k_2, 3, .inl (fun _ => 0)))] H := hP
  have hD : va_D A [(h0, .inr (10, [.ref h1, .ref h2, .null, .null, .null, .null])), (q_1, .inl (k_2, 3, .inl (fun _ => 0)))] := hD
  have hK : va_K (dC, dI) vwCl [(k_2, .int)] s := hK
  refine W.widen (k := 1) (n := 3) (by decide) (by decide) ?_
  refine va_putF (D := (dC, dI)) (ci := 10) (v := .ref q_1) (ty := (.array .int)) (C := RX10) (T := TX10) (N := 6) hx hb hts iw_c_X10_init_X10 tyX10 tyX10_ok nmX10 hown hK hP hD hS 0 rfl rfl 2 (by decide) (hts (.fieldLink RX10 19 "BuoyVote$Waters" "draws" "[I") (List.mem_of_getElem? (i := 7) rfl)) (fun _ h9 => h9) rfl hin rfl (by decide +kernel) rfl rfl (Nat.le_of_ble_eq_true rfl) dX10_init_18 (fun H locs hP hD hS => ?_)
  have hP : va_P (dC, dI) vwCl [(h0, .inr (10, [.ref h1, .ref h2, .ref q_1, .null, .null, .null])), (q_1, .inl (k_2, 3, .inl (fun _ => 0)))] H := hP
  have hD : va_D A [(h0, .inr (10, [.ref h1, .ref h2, .ref q_1, .null, .null, .null])), (q_1, .inl (k_2, 3, .inl (fun _ => 0)))] := hD
  refine lv_aload_n hx hb dX10_init_21 rfl (lv_at hl 0 rfl) ?_
  refine lv_bipush (v := 8) hx hb dX10_init_22 (by decide) ?_
  refine va_newa (atype := .int) (a0 := (8, .inl (fun _ => 0))) (ty := .int) (N' := 8) hx hb (hts (.arrayClass .int) (List.mem_of_getElem? (i := 6) rfl)) rfl hK hP hD hS hA (fun cA => vp_cell_i cA 8 (fun _ => 0)) (by decide) (by decide) (by decide +kernel) (Nat.le_of_ble_eq_true rfl) (Nat.le_of_ble_eq_true rfl) dX10_init_24 (fun q_3 k_4 H hK hP hD hS => ?_)
  have hP : va_P (dC, dI) vwCl [(h0, .inr (10, [.ref h1, .ref h2, .ref q_1, .null, .null, .null])), (q_1, .inl (k_2, 3, .inl (fun _ => 0))), (q_3, .inl (k_4, 8, .inl (fun _ => 0)))] H := hP
  have hD : va_D A [(h0, .inr (10, [.ref h1, .ref h2, .ref q_1, .null, .null, .null])), (q_1, .inl (k_2, 3, .inl (fun _ => 0))), (q_3, .inl (k_4, 8, .inl (fun _ => 0)))] := hD
  have hK : va_K (dC, dI) vwCl [(k_2, .int), (k_4, .int)] s := hK
  refine W.widen (k := 2) (n := 11) (by decide) (by decide) ?_
  refine va_putF (D := (dC, dI)) (ci := 10) (v := .ref q_3) (ty := (.array .int)) (C := RX10) (T := TX10) (N := 6) hx hb hts iw_c_X10_init_X10 tyX10 tyX10_ok nmX10 hown hK hP hD hS 0 rfl rfl 3 (by decide) (hts (.fieldLink RX10 23 "BuoyVote$Waters" "leans" "[I") (List.mem_of_getElem? (i := 8) rfl)) (fun _ h9 => h9) rfl hin rfl (by decide +kernel) rfl rfl (Nat.le_of_ble_eq_true rfl) dX10_init_26 (fun H locs hP hD hS => ?_)
  have hP : va_P (dC, dI) vwCl [(h0, .inr (10, [.ref h1, .ref h2, .ref q_1, .ref q_3, .null, .null])), (q_1, .inl (k_2, 3, .inl (fun _ => 0))), (q_3, .inl (k_4, 8, .inl (fun _ => 0)))] H := hP
  have hD : va_D A [(h0, .inr (10, [.ref h1, .ref h2, .ref q_1, .ref q_3, .null, .null])), (q_1, .inl (k_2, 3, .inl (fun _ => 0))), (q_3, .inl (k_4, 8, .inl (fun _ => 0)))] := hD
  refine lv_aload_n hx hb dX10_init_29 rfl (lv_at hl 0 rfl) ?_
  refine lv_iconst (v := 3) hx hb dX10_init_30 (by decide) ?_
  refine va_newa (atype := .int) (a0 := (3, .inl (fun _ => 0))) (ty := .int) (N' := 3) hx hb (hts (.arrayClass .int) (List.mem_of_getElem? (i := 6) rfl)) rfl hK hP hD hS hA (fun cA => vp_cell_i cA 3 (fun _ => 0)) (by decide) (by decide) (by decide +kernel) (Nat.le_of_ble_eq_true rfl) (Nat.le_of_ble_eq_true rfl) dX10_init_31 (fun q_5 k_6 H hK hP hD hS => ?_)
  have hP : va_P (dC, dI) vwCl [(h0, .inr (10, [.ref h1, .ref h2, .ref q_1, .ref q_3, .null, .null])), (q_1, .inl (k_2, 3, .inl (fun _ => 0))), (q_3, .inl (k_4, 8, .inl (fun _ => 0))), (q_5, .inl (k_6, 3, .inl (fun _ => 0)))] H := hP
  have hD : va_D A [(h0, .inr (10, [.ref h1, .ref h2, .ref q_1, .ref q_3, .null, .null])), (q_1, .inl (k_2, 3, .inl (fun _ => 0))), (q_3, .inl (k_4, 8, .inl (fun _ => 0))), (q_5, .inl (k_6, 3, .inl (fun _ => 0)))] := hD
  have hK : va_K (dC, dI) vwCl [(k_2, .int), (k_4, .int), (k_6, .int)] s := hK
  refine W.widen (k := 3) (n := 14) (by decide) (by decide) ?_
  refine va_putF (D := (dC, dI)) (ci := 10) (v := .ref q_5) (ty := (.array .int)) (C := RX10) (T := TX10) (N := 6) hx hb hts iw_c_X10_init_X10 tyX10 tyX10_ok nmX10 hown hK hP hD hS 0 rfl rfl 4 (by decide) (hts (.fieldLink RX10 26 "BuoyVote$Waters" "tally" "[I") (List.mem_of_getElem? (i := 9) rfl)) (fun _ h9 => h9) rfl hin rfl (by decide +kernel) rfl rfl (Nat.le_of_ble_eq_true rfl) dX10_init_33 (fun H locs hP hD hS => ?_)
  have hP : va_P (dC, dI) vwCl [(h0, .inr (10, [.ref h1, .ref h2, .ref q_1, .ref q_3, .ref q_5, .null])), (q_1, .inl (k_2, 3, .inl (fun _ => 0))), (q_3, .inl (k_4, 8, .inl (fun _ => 0))), (q_5, .inl (k_6, 3, .inl (fun _ => 0)))] H := hP
  have hD : va_D A [(h0, .inr (10, [.ref h1, .ref h2, .ref q_1, .ref q_3, .ref q_5, .null])), (q_1, .inl (k_2, 3, .inl (fun _ => 0))), (q_3, .inl (k_4, 8, .inl (fun _ => 0))), (q_5, .inl (k_6, 3, .inl (fun _ => 0)))] := hD
  refine lv_aload_n hx hb dX10_init_36 rfl (lv_at hl 0 rfl) ?_
  refine lv_bipush (v := 8) hx hb dX10_init_37 (by decide) ?_
  refine va_newa (atype := .int) (a0 := (8, .inl (fun _ => 0))) (ty := .int) (N' := 8) hx hb (hts (.arrayClass .int) (List.mem_of_getElem? (i := 6) rfl)) rfl hK hP hD hS hA (fun cA => vp_cell_i cA 8 (fun _ => 0)) (by decide) (by decide) (by decide +kernel) (Nat.le_of_ble_eq_true rfl) (Nat.le_of_ble_eq_true rfl) dX10_init_39 (fun q_7 k_8 H hK hP hD hS => ?_)
  have hP : va_P (dC, dI) vwCl [(h0, .inr (10, [.ref h1, .ref h2, .ref q_1, .ref q_3, .ref q_5, .null])), (q_1, .inl (k_2, 3, .inl (fun _ => 0))), (q_3, .inl (k_4, 8, .inl (fun _ => 0))), (q_5, .inl (k_6, 3, .inl (fun _ => 0))), (q_7, .inl (k_8, 8, .inl (fun _ => 0)))] H := hP
  have hD : va_D A [(h0, .inr (10, [.ref h1, .ref h2, .ref q_1, .ref q_3, .ref q_5, .null])), (q_1, .inl (k_2, 3, .inl (fun _ => 0))), (q_3, .inl (k_4, 8, .inl (fun _ => 0))), (q_5, .inl (k_6, 3, .inl (fun _ => 0))), (q_7, .inl (k_8, 8, .inl (fun _ => 0)))] := hD
  have hK : va_K (dC, dI) vwCl [(k_2, .int), (k_4, .int), (k_6, .int), (k_8, .int)] s := hK
  refine W.widen (k := 4) (n := 22) (by decide) (by decide) ?_
  refine va_putF (D := (dC, dI)) (ci := 10) (v := .ref q_7) (ty := (.array .int)) (C := RX10) (T := TX10) (N := 6) hx hb hts iw_c_X10_init_X10 tyX10 tyX10_ok nmX10 hown hK hP hD hS 0 rfl rfl 5 (by decide) (hts (.fieldLink RX10 29 "BuoyVote$Waters" "bars" "[I") (List.mem_of_getElem? (i := 10) rfl)) (fun _ h9 => h9) rfl hin rfl (by decide +kernel) rfl rfl (Nat.le_of_ble_eq_true rfl) dX10_init_41 (fun H locs hP hD hS => ?_)
  have hP : va_P (dC, dI) vwCl [(h0, .inr (10, [.ref h1, .ref h2, .ref q_1, .ref q_3, .ref q_5, .ref q_7])), (q_1, .inl (k_2, 3, .inl (fun _ => 0))), (q_3, .inl (k_4, 8, .inl (fun _ => 0))), (q_5, .inl (k_6, 3, .inl (fun _ => 0))), (q_7, .inl (k_8, 8, .inl (fun _ => 0)))] H := hP
  have hD : va_D A [(h0, .inr (10, [.ref h1, .ref h2, .ref q_1, .ref q_3, .ref q_5, .ref q_7])), (q_1, .inl (k_2, 3, .inl (fun _ => 0))), (q_3, .inl (k_4, 8, .inl (fun _ => 0))), (q_5, .inl (k_6, 3, .inl (fun _ => 0))), (q_7, .inl (k_8, 8, .inl (fun _ => 0)))] := hD
  have hP9 := hP.sub (ws' := [(h0, .inr (10, [.ref h1, .ref h2, .ref q_1, .ref q_3, .ref q_5, .ref q_7])), (q_5, .inl (k_6, 3, .inl (fun _ => 0)))]) [0, 3] rfl
  have hD9 := hD.sub (ws' := [(h0, .inr (10, [.ref h1, .ref h2, .ref q_1, .ref q_3, .ref q_5, .ref q_7])), (q_5, .inl (k_6, 3, .inl (fun _ => 0)))]) [0, 3] (by decide) rfl
  have hK9 := hK.sub (tys' := [(k_6, .int)]) [2] rfl
  exact W.vret hx hb hr (fun t ht hW => ⟨⟨(), rfl, trivial, q_5, q_1, q_3, q_7, k_6, by rw [ht]; exact hP9, va_K.moved hW.alike hK9, hD9⟩, hS.F ht⟩) hS.2.2 dX10_init_44
def wf_c_X7_init : List Cond := .code yX7_init cX7_init 1 none :: ([.methodLink RX7 3 objectInit, .instanceMethod objectInit, .code objectInit ⟨#[0xb1]⟩ 1 none, .arrayClass .int, .fieldLink RX7 9 "BuoyVote$Sea" "x" "[I", .fieldLink RX7 15 "BuoyVote$Sea" "y" "[I", .fieldLink RX7 18 "BuoyVote$Sea" "goalX" "[I", .fieldLink RX7 21 "BuoyVote$Sea" "goalY" "[I", .fieldLink RX7 24 "BuoyVote$Sea" "won" "[I", .fieldLink RX7 27 "BuoyVote$Sea" "sang" "[I", .fieldLink RX7 30 "BuoyVote$Sea" "liking" "[I", .fieldLink RX7 33 "BuoyVote$Sea" "old" "[I", .fieldLink RX7 36 "BuoyVote$Sea" "barnacles" "[I"] ++ wsX70)
theorem iw_c_X7_init_X7 : ∀ w ∈ wsX70, w ∈ wf_c_X7_init := fun w h => List.mem_cons_of_mem _ (List.mem_append_right _ h)
set_option maxHeartbeats 4000000 in
set_option maxRecDepth 100000 in
theorem c_X7_init (l : Launch) (dC : Nat → ClassId) (dI : Nat → Nat → Nat) (sz : Nat) (h0 : Nat) : Met l yX7_init wf_c_X7_init ({ frames := 1, cells := 9, slots := 58, locals := 12 }) (va_Pc [.ref h0] (fun U => U.heap.size = sz ∧ va_P (dC, dI) vwCl [(h0, .inr (7, [.int 0, .int 0, .int 0, .int 0, .null, .null, .null, .null, .null, .null, .null, .null, .null]))] U.heap ∧ va_K (dC, dI) vwCl [] U ∧ va_D (fun _ => True) [(h0, .inr (7, [.int 0, .int 0, .int 0, .int 0, .null, .null, .null, .null, .null, .null, .null, .null, .null]))])) (va_Qv (fun (u : Unit) => True) (fun (_ : Unit) t => ∃ (q_1 : Nat), ∃ (q_3 : Nat), ∃ (q_5 : Nat), ∃ (q_7 : Nat), ∃ (q_9 : Nat), ∃ (q_11 : Nat), ∃ (q_13 : Nat), ∃ (q_15 : Nat), ∃ (q_17 : Nat), va_P (dC, dI) vwCl [(h0, .inr (7, [.int 0, .int 0, .int 0, .int 0, .ref q_1, .ref q_3, .ref q_5, .ref q_7, .ref q_9, .ref q_11, .ref q_13, .ref q_15, .ref q_17]))] t.heap ∧ va_K (dC, dI) vwCl [] t ∧ va_D (va_A [(h0, .inr (7, [.int 0, .int 0, .int 0, .int 0, .null, .null, .null, .null, .null, .null, .null, .null, .null]))] sz) [(h0, .inr (7, [.int 0, .int 0, .int 0, .int 0, .ref q_1, .ref q_3, .ref q_5, .ref q_7, .ref q_9, .ref q_11, .ref q_13, .ref q_15, .ref q_17]))]) (va_A [(h0, .inr (7, [.int 0, .int 0, .int 0, .int 0, .null, .null, .null, .null, .null, .null, .null, .null, .null]))] sz)) 9 58 (va_A [(h0, .inr (7, [.int 0, .int 0, .int 0, .int 0, .null, .null, .null, .null, .null, .null, .null, .null, .null]))] sz) := by
  refine Met.ofW (cc := cX7_init) (maxL := 1) (ret := none) (by decide) rfl ?_
  intro p e s m args below meth c s₁ B hml hv
  obtain ⟨rfl, hsz, hP, hK, hD0⟩ := hv
  have hx := B.exec
  have hb := B.bytes
  have hr := B.returns
  have hts := atoms_spec (ws := wf_c_X7_init) B.pre
  have hown : s.vm.findClass RX7 = some m.cls := findClass_of_methodNamed B.named
  have hlocks := B.notSynchronized
  have hin : meth.name = "<init>" := (name_of_methodNamed B.named B.method).1
  subst hsz
  have hD := hD0.self (sz := s.heap.size)
  generalize hAe : va_A [(h0, .inr (7, [.int 0, .int 0, .int 0, .int 0, .null, .null, .null, .null, .null, .null, .null, .null, .null]))] s.heap.size = A at hD ⊢
  have hA : ∀ q : Nat, s.heap.size ≤ q → A q := fun q h => by rw [← hAe]; exact Or.inr h
  have hP : va_P (dC, dI) vwCl [(h0, .inr (7, [.int 0, .int 0, .int 0, .int 0, .null, .null, .null, .null, .null, .null, .null, .null, .null]))] s.heap := hP
  have hl := lv_entry ([.ref h0]) (n := 1) (Nat.le_of_ble_eq_true rfl)
  rw [lg_entry_eq]
  generalize (lg_sl ([.ref h0]) ++ List.replicate (1 - (lg_sl ([.ref h0])).length) Slot.unset).toArray = ls at hl ⊢
  have hl : lv_has ls 1 [(0, .ref h0)] := hl
  obtain ⟨H, hHe⟩ : ∃ H : Heap, s.heap = H := ⟨_, rfl⟩
  have hS : va_S A s.heap H [] := by rw [hHe]; exact va_S.rf
  have hP : va_P (dC, dI) vwCl [(h0, .inr (7, [.int 0, .int 0, .int 0, .int 0, .null, .null, .null, .null, .null, .null, .null, .null, .null]))] H := by rw [← hHe]; exact hP
  rw [hHe]
  refine lv_aload_n hx hb dX7_init_0 rfl (lv_at hl 0 rfl) ?_
  refine W.objInit hx hb hown (hts (.methodLink RX7 3 objectInit) (List.mem_of_getElem? (i := 1) rfl)) (hts (.instanceMethod objectInit) (List.mem_of_getElem? (i := 2) rfl)) (hts (.code objectInit ⟨#[0xb1]⟩ 1 none) (List.mem_of_getElem? (i := 3) rfl)) rfl (by rw [hml]; exact hl.1) rfl dX7_init_1 (Nat.le_of_ble_eq_true rfl) (Nat.le_of_ble_eq_true rfl) ?_
  refine W.eq (g2 := F0 m 4 ls []) rfl ?_
  refine lv_aload_n hx hb dX7_init_4 rfl (lv_at hl 0 rfl) ?_
  refine lv_iconst (v := 3) hx hb dX7_init_5 (by decide) ?_
  refine va_newa (atype := .int) (a0 := (3, .inl (fun _ => 0))) (ty := .int) (N' := 3) hx hb (hts (.arrayClass .int) (List.mem_of_getElem? (i := 4) rfl)) rfl hK hP hD hS hA (fun cA => vp_cell_i cA 3 (fun _ => 0)) (by decide) (by decide) (by decide +kernel) (Nat.le_of_ble_eq_true rfl) (Nat.le_of_ble_eq_true rfl) dX7_init_6 (fun q_1 k_2 H hK hP hD hS => ?_)
  have hP : va_P (dC, dI) vwCl [(h0, .inr (7, [.int 0, .int 0, .int 0, .int 0, .null, .null, .null, .null, .null, .null, .null, .null, .null])), (q_1, .inl (k_2, 3, .inl (fun _ => 0)))] H := hP
  have hD : va_D A [(h0, .inr (7, [.int 0, .int 0, .int 0, .int 0, .null, .null, .null, .null, .null, .null, .null, .null, .null])), (q_1, .inl (k_2, 3, .inl (fun _ => 0)))] := hD
  have hK : va_K (dC, dI) vwCl [(k_2, .int)] s := hK
  refine W.widen (k := 1) (n := 3) (by decide) (by decide) ?_
  refine va_putF (D := (dC, dI)) (ci := 7) (v := .ref q_1) (ty := (.array .int)) (C := RX7) (T := TX7) (N := 13) hx hb hts iw_c_X7_init_X7 tyX7 tyX7_ok nmX7 hown hK hP hD hS 0 rfl rfl 4 (by decide) (hts (.fieldLink RX7 9 "BuoyVote$Sea" "x" "[I") (List.mem_of_getElem? (i := 5) rfl)) (fun _ h9 => h9) rfl hin rfl (by decide +kernel) rfl rfl (Nat.le_of_ble_eq_true rfl) dX7_init_8 (fun H locs hP hD hS => ?_)
  have hP : va_P (dC, dI) vwCl [(h0, .inr (7, [.int 0, .int 0, .int 0, .int 0, .ref q_1, .null, .null, .null, .null, .null, .null, .null, .null])), (q_1, .inl (k_2, 3, .inl (fun _ => 0)))] H := hP
  have hD : va_D A [(h0, .inr (7, [.int 0, .int 0, .int 0, .int 0, .ref q_1, .null, .null, .null, .null, .null, .null, .null, .null])), (q_1, .inl (k_2, 3, .inl (fun _ => 0)))] := hD
  refine lv_aload_n hx hb dX7_init_11 rfl (lv_at hl 0 rfl) ?_
  refine lv_iconst (v := 3) hx hb dX7_init_12 (by decide) ?_
  refine va_newa (atype := .int) (a0 := (3, .inl (fun _ => 0))) (ty := .int) (N' := 3) hx hb (hts (.arrayClass .int) (List.mem_of_getElem? (i := 4) rfl)) rfl hK hP hD hS hA (fun cA => vp_cell_i cA 3 (fun _ => 0)) (by decide) (by decide) (by decide +kernel) (Nat.le_of_ble_eq_true rfl) (Nat.le_of_ble_eq_true rfl) dX7_init_13 (fun q_3 k_4 H hK hP hD hS => ?_)
  have hP : va_P (dC, dI) vwCl [(h0, .inr (7, [.int 0, .int 0, .int 0, .int 0, .ref q_1, .null, .null, .null, .null, .null, .null, .null, .null])), (q_1, .inl (k_2, 3, .inl (fun _ => 0))), (q_3, .inl (k_4, 3, .inl (fun _ => 0)))] H := hP
  have hD : va_D A [(h0, .inr (7, [.int 0, .int 0, .int 0, .int 0, .ref q_1, .null, .null, .null, .null, .null, .null, .null, .null])), (q_1, .inl (k_2, 3, .inl (fun _ => 0))), (q_3, .inl (k_4, 3, .inl (fun _ => 0)))] := hD
  have hK : va_K (dC, dI) vwCl [(k_2, .int), (k_4, .int)] s := hK
  refine W.widen (k := 2) (n := 6) (by decide) (by decide) ?_
  refine va_putF (D := (dC, dI)) (ci := 7) (v := .ref q_3) (ty := (.array .int)) (C := RX7) (T := TX7) (N := 13) hx hb hts iw_c_X7_init_X7 tyX7 tyX7_ok nmX7 hown hK hP hD hS 0 rfl rfl 5 (by decide) (hts (.fieldLink RX7 15 "BuoyVote$Sea" "y" "[I") (List.mem_of_getElem? (i := 6) rfl)) (fun _ h9 => h9) rfl hin rfl (by decide +kernel) rfl rfl (Nat.le_of_ble_eq_true rfl) dX7_init_15 (fun H locs hP hD hS => ?_)
  have hP : va_P (dC, dI) vwCl [(h0, .inr (7, [.int 0, .int 0, .int 0, .int 0, .ref q_1, .ref q_3, .null, .null, .null, .null, .null, .null, .null])), (q_1, .inl (k_2, 3, .inl (fun _ => 0))), (q_3, .inl (k_4, 3, .inl (fun _ => 0)))] H := hP
  have hD : va_D A [(h0, .inr (7, [.int 0, .int 0, .int 0, .int 0, .ref q_1, .ref q_3, .null, .null, .null, .null, .null, .null, .null])), (q_1, .inl (k_2, 3, .inl (fun _ => 0))), (q_3, .inl (k_4, 3, .inl (fun _ => 0)))] := hD
  refine lv_aload_n hx hb dX7_init_18 rfl (lv_at hl 0 rfl) ?_
  refine lv_iconst (v := 3) hx hb dX7_init_19 (by decide) ?_
  refine va_newa (atype := .int) (a0 := (3, .inl (fun _ => 0))) (ty := .int) (N' := 3) hx hb (hts (.arrayClass .int) (List.mem_of_getElem? (i := 4) rfl)) rfl hK hP hD hS hA (fun cA => vp_cell_i cA 3 (fun _ => 0)) (by decide) (by decide) (by decide +kernel) (Nat.le_of_ble_eq_true rfl) (Nat.le_of_ble_eq_true rfl) dX7_init_20 (fun q_5 k_6 H hK hP hD hS => ?_)
  have hP : va_P (dC, dI) vwCl [(h0, .inr (7, [.int 0, .int 0, .int 0, .int 0, .ref q_1, .ref q_3, .null, .null, .null, .null, .null, .null, .null])), (q_1, .inl (k_2, 3, .inl (fun _ => 0))), (q_3, .inl (k_4, 3, .inl (fun _ => 0))), (q_5, .inl (k_6, 3, .inl (fun _ => 0)))] H := hP
  have hD : va_D A [(h0, .inr (7, [.int 0, .int 0, .int 0, .int 0, .ref q_1, .ref q_3, .null, .null, .null, .null, .null, .null, .null])), (q_1, .inl (k_2, 3, .inl (fun _ => 0))), (q_3, .inl (k_4, 3, .inl (fun _ => 0))), (q_5, .inl (k_6, 3, .inl (fun _ => 0)))] := hD
  have hK : va_K (dC, dI) vwCl [(k_2, .int), (k_4, .int), (k_6, .int)] s := hK
  refine W.widen (k := 3) (n := 9) (by decide) (by decide) ?_
  refine va_putF (D := (dC, dI)) (ci := 7) (v := .ref q_5) (ty := (.array .int)) (C := RX7) (T := TX7) (N := 13) hx hb hts iw_c_X7_init_X7 tyX7 tyX7_ok nmX7 hown hK hP hD hS 0 rfl rfl 6 (by decide) (hts (.fieldLink RX7 18 "BuoyVote$Sea" "goalX" "[I") (List.mem_of_getElem? (i := 7) rfl)) (fun _ h9 => h9) rfl hin rfl (by decide +kernel) rfl rfl (Nat.le_of_ble_eq_true rfl) dX7_init_22 (fun H locs hP hD hS => ?_)
  have hP : va_P (dC, dI) vwCl [(h0, .inr (7, [.int 0, .int 0, .int 0, .int 0, .ref q_1, .ref q_3, .ref q_5, .null, .null, .null, .null, .null, .null])), (q_1, .inl (k_2, 3, .inl (fun _ => 0))), (q_3, .inl (k_4, 3, .inl (fun _ => 0))), (q_5, .inl (k_6, 3, .inl (fun _ => 0)))] H := hP
  have hD : va_D A [(h0, .inr (7, [.int 0, .int 0, .int 0, .int 0, .ref q_1, .ref q_3, .ref q_5, .null, .null, .null, .null, .null, .null])), (q_1, .inl (k_2, 3, .inl (fun _ => 0))), (q_3, .inl (k_4, 3, .inl (fun _ => 0))), (q_5, .inl (k_6, 3, .inl (fun _ => 0)))] := hD
  refine lv_aload_n hx hb dX7_init_25 rfl (lv_at hl 0 rfl) ?_
  refine lv_iconst (v := 3) hx hb dX7_init_26 (by decide) ?_
  refine va_newa (atype := .int) (a0 := (3, .inl (fun _ => 0))) (ty := .int) (N' := 3) hx hb (hts (.arrayClass .int) (List.mem_of_getElem? (i := 4) rfl)) rfl hK hP hD hS hA (fun cA => vp_cell_i cA 3 (fun _ => 0)) (by decide) (by decide) (by decide +kernel) (Nat.le_of_ble_eq_true rfl) (Nat.le_of_ble_eq_true rfl) dX7_init_27 (fun q_7 k_8 H hK hP hD hS => ?_)
  have hP : va_P (dC, dI) vwCl [(h0, .inr (7, [.int 0, .int 0, .int 0, .int 0, .ref q_1, .ref q_3, .ref q_5, .null, .null, .null, .null, .null, .null])), (q_1, .inl (k_2, 3, .inl (fun _ => 0))), (q_3, .inl (k_4, 3, .inl (fun _ => 0))), (q_5, .inl (k_6, 3, .inl (fun _ => 0))), (q_7, .inl (k_8, 3, .inl (fun _ => 0)))] H := hP
  have hD : va_D A [(h0, .inr (7, [.int 0, .int 0, .int 0, .int 0, .ref q_1, .ref q_3, .ref q_5, .null, .null, .null, .null, .null, .null])), (q_1, .inl (k_2, 3, .inl (fun _ => 0))), (q_3, .inl (k_4, 3, .inl (fun _ => 0))), (q_5, .inl (k_6, 3, .inl (fun _ => 0))), (q_7, .inl (k_8, 3, .inl (fun _ => 0)))] := hD
  have hK : va_K (dC, dI) vwCl [(k_2, .int), (k_4, .int), (k_6, .int), (k_8, .int)] s := hK
  refine W.widen (k := 4) (n := 12) (by decide) (by decide) ?_
  refine va_putF (D := (dC, dI)) (ci := 7) (v := .ref q_7) (ty := (.array .int)) (C := RX7) (T := TX7) (N := 13) hx hb hts iw_c_X7_init_X7 tyX7 tyX7_ok nmX7 hown hK hP hD hS 0 rfl rfl 7 (by decide) (hts (.fieldLink RX7 21 "BuoyVote$Sea" "goalY" "[I") (List.mem_of_getElem? (i := 8) rfl)) (fun _ h9 => h9) rfl hin rfl (by decide +kernel) rfl rfl (Nat.le_of_ble_eq_true rfl) dX7_init_29 (fun H locs hP hD hS => ?_)
  have hP : va_P (dC, dI) vwCl [(h0, .inr (7, [.int 0, .int 0, .int 0, .int 0, .ref q_1, .ref q_3, .ref q_5, .ref q_7, .null, .null, .null, .null, .null])), (q_1, .inl (k_2, 3, .inl (fun _ => 0))), (q_3, .inl (k_4, 3, .inl (fun _ => 0))), (q_5, .inl (k_6, 3, .inl (fun _ => 0))), (q_7, .inl (k_8, 3, .inl (fun _ => 0)))] H := hP
  have hD : va_D A [(h0, .inr (7, [.int 0, .int 0, .int 0, .int 0, .ref q_1, .ref q_3, .ref q_5, .ref q_7, .null, .null, .null, .null, .null])), (q_1, .inl (k_2, 3, .inl (fun _ => 0))), (q_3, .inl (k_4, 3, .inl (fun _ => 0))), (q_5, .inl (k_6, 3, .inl (fun _ => 0))), (q_7, .inl (k_8, 3, .inl (fun _ => 0)))] := hD
  refine lv_aload_n hx hb dX7_init_32 rfl (lv_at hl 0 rfl) ?_
  refine lv_iconst (v := 3) hx hb dX7_init_33 (by decide) ?_
  refine va_newa (atype := .int) (a0 := (3, .inl (fun _ => 0))) (ty := .int) (N' := 3) hx hb (hts (.arrayClass .int) (List.mem_of_getElem? (i := 4) rfl)) rfl hK hP hD hS hA (fun cA => vp_cell_i cA 3 (fun _ => 0)) (by decide) (by decide) (by decide +kernel) (Nat.le_of_ble_eq_true rfl) (Nat.le_of_ble_eq_true rfl) dX7_init_34 (fun q_9 k_10 H hK hP hD hS => ?_)
  have hP : va_P (dC, dI) vwCl [(h0, .inr (7, [.int 0, .int 0, .int 0, .int 0, .ref q_1, .ref q_3, .ref q_5, .ref q_7, .null, .null, .null, .null, .null])), (q_1, .inl (k_2, 3, .inl (fun _ => 0))), (q_3, .inl (k_4, 3, .inl (fun _ => 0))), (q_5, .inl (k_6, 3, .inl (fun _ => 0))), (q_7, .inl (k_8, 3, .inl (fun _ => 0))), (q_9, .inl (k_10, 3, .inl (fun _ => 0)))] H := hP
  have hD : va_D A [(h0, .inr (7, [.int 0, .int 0, .int 0, .int 0, .ref q_1, .ref q_3, .ref q_5, .ref q_7, .null, .null, .null, .null, .null])), (q_1, .inl (k_2, 3, .inl (fun _ => 0))), (q_3, .inl (k_4, 3, .inl (fun _ => 0))), (q_5, .inl (k_6, 3, .inl (fun _ => 0))), (q_7, .inl (k_8, 3, .inl (fun _ => 0))), (q_9, .inl (k_10, 3, .inl (fun _ => 0)))] := hD
  have hK : va_K (dC, dI) vwCl [(k_2, .int), (k_4, .int), (k_6, .int), (k_8, .int), (k_10, .int)] s := hK
  refine W.widen (k := 5) (n := 15) (by decide) (by decide) ?_
  refine va_putF (D := (dC, dI)) (ci := 7) (v := .ref q_9) (ty := (.array .int)) (C := RX7) (T := TX7) (N := 13) hx hb hts iw_c_X7_init_X7 tyX7 tyX7_ok nmX7 hown hK hP hD hS 0 rfl rfl 8 (by decide) (hts (.fieldLink RX7 24 "BuoyVote$Sea" "won" "[I") (List.mem_of_getElem? (i := 9) rfl)) (fun _ h9 => h9) rfl hin rfl (by decide +kernel) rfl rfl (Nat.le_of_ble_eq_true rfl) dX7_init_36 (fun H locs hP hD hS => ?_)
  have hP : va_P (dC, dI) vwCl [(h0, .inr (7, [.int 0, .int 0, .int 0, .int 0, .ref q_1, .ref q_3, .ref q_5, .ref q_7, .ref q_9, .null, .null, .null, .null])), (q_1, .inl (k_2, 3, .inl (fun _ => 0))), (q_3, .inl (k_4, 3, .inl (fun _ => 0))), (q_5, .inl (k_6, 3, .inl (fun _ => 0))), (q_7, .inl (k_8, 3, .inl (fun _ => 0))), (q_9, .inl (k_10, 3, .inl (fun _ => 0)))] H := hP
  have hD : va_D A [(h0, .inr (7, [.int 0, .int 0, .int 0, .int 0, .ref q_1, .ref q_3, .ref q_5, .ref q_7, .ref q_9, .null, .null, .null, .null])), (q_1, .inl (k_2, 3, .inl (fun _ => 0))), (q_3, .inl (k_4, 3, .inl (fun _ => 0))), (q_5, .inl (k_6, 3, .inl (fun _ => 0))), (q_7, .inl (k_8, 3, .inl (fun _ => 0))), (q_9, .inl (k_10, 3, .inl (fun _ => 0)))] := hD
  refine lv_aload_n hx hb dX7_init_39 rfl (lv_at hl 0 rfl) ?_
  refine lv_iconst (v := 3) hx hb dX7_init_40 (by decide) ?_
  refine va_newa (atype := .int) (a0 := (3, .inl (fun _ => 0))) (ty := .int) (N' := 3) hx hb (hts (.arrayClass .int) (List.mem_of_getElem? (i := 4) rfl)) rfl hK hP hD hS hA (fun cA => vp_cell_i cA 3 (fun _ => 0)) (by decide) (by decide) (by decide +kernel) (Nat.le_of_ble_eq_true rfl) (Nat.le_of_ble_eq_true rfl) dX7_init_41 (fun q_11 k_12 H hK hP hD hS => ?_)
  have hP : va_P (dC, dI) vwCl [(h0, .inr (7, [.int 0, .int 0, .int 0, .int 0, .ref q_1, .ref q_3, .ref q_5, .ref q_7, .ref q_9, .null, .null, .null, .null])), (q_1, .inl (k_2, 3, .inl (fun _ => 0))), (q_3, .inl (k_4, 3, .inl (fun _ => 0))), (q_5, .inl (k_6, 3, .inl (fun _ => 0))), (q_7, .inl (k_8, 3, .inl (fun _ => 0))), (q_9, .inl (k_10, 3, .inl (fun _ => 0))), (q_11, .inl (k_12, 3, .inl (fun _ => 0)))] H := hP
  have hD : va_D A [(h0, .inr (7, [.int 0, .int 0, .int 0, .int 0, .ref q_1, .ref q_3, .ref q_5, .ref q_7, .ref q_9, .null, .null, .null, .null])), (q_1, .inl (k_2, 3, .inl (fun _ => 0))), (q_3, .inl (k_4, 3, .inl (fun _ => 0))), (q_5, .inl (k_6, 3, .inl (fun _ => 0))), (q_7, .inl (k_8, 3, .inl (fun _ => 0))), (q_9, .inl (k_10, 3, .inl (fun _ => 0))), (q_11, .inl (k_12, 3, .inl (fun _ => 0)))] := hD
  have hK : va_K (dC, dI) vwCl [(k_2, .int), (k_4, .int), (k_6, .int), (k_8, .int), (k_10, .int), (k_12, .int)] s := hK
  refine W.widen (k := 6) (n := 18) (by decide) (by decide) ?_
  refine va_putF (D := (dC, dI)) (ci := 7) (v := .ref q_11) (ty := (.array .int)) (C := RX7) (T := TX7) (N := 13) hx hb hts iw_c_X7_init_X7 tyX7 tyX7_ok nmX7 hown hK hP hD hS 0 rfl rfl 9 (by decide) (hts (.fieldLink RX7 27 "BuoyVote$Sea" "sang" "[I") (List.mem_of_getElem? (i := 10) rfl)) (fun _ h9 => h9) rfl hin rfl (by decide +kernel) rfl rfl (Nat.le_of_ble_eq_true rfl) dX7_init_43 (fun H locs hP hD hS => ?_)
  have hP : va_P (dC, dI) vwCl [(h0, .inr (7, [.int 0, .int 0, .int 0, .int 0, .ref q_1, .ref q_3, .ref q_5, .ref q_7, .ref q_9, .ref q_11, .null, .null, .null])), (q_1, .inl (k_2, 3, .inl (fun _ => 0))), (q_3, .inl (k_4, 3, .inl (fun _ => 0))), (q_5, .inl (k_6, 3, .inl (fun _ => 0))), (q_7, .inl (k_8, 3, .inl (fun _ => 0))), (q_9, .inl (k_10, 3, .inl (fun _ => 0))), (q_11, .inl (k_12, 3, .inl (fun _ => 0)))] H := hP
  have hD : va_D A [(h0, .inr (7, [.int 0, .int 0, .int 0, .int 0, .ref q_1, .ref q_3, .ref q_5, .ref q_7, .ref q_9, .ref q_11, .null, .null, .null])), (q_1, .inl (k_2, 3, .inl (fun _ => 0))), (q_3, .inl (k_4, 3, .inl (fun _ => 0))), (q_5, .inl (k_6, 3, .inl (fun _ => 0))), (q_7, .inl (k_8, 3, .inl (fun _ => 0))), (q_9, .inl (k_10, 3, .inl (fun _ => 0))), (q_11, .inl (k_12, 3, .inl (fun _ => 0)))] := hD
  refine lv_aload_n hx hb dX7_init_46 rfl (lv_at hl 0 rfl) ?_
  refine lv_bipush (v := 24) hx hb dX7_init_47 (by decide) ?_
  refine va_newa (atype := .int) (a0 := (24, .inl (fun _ => 0))) (ty := .int) (N' := 24) hx hb (hts (.arrayClass .int) (List.mem_of_getElem? (i := 4) rfl)) rfl hK hP hD hS hA (fun cA => vp_cell_i cA 24 (fun _ => 0)) (by decide) (by decide) (by decide +kernel) (Nat.le_of_ble_eq_true rfl) (Nat.le_of_ble_eq_true rfl) dX7_init_49 (fun q_13 k_14 H hK hP hD hS => ?_)
  have hP : va_P (dC, dI) vwCl [(h0, .inr (7, [.int 0, .int 0, .int 0, .int 0, .ref q_1, .ref q_3, .ref q_5, .ref q_7, .ref q_9, .ref q_11, .null, .null, .null])), (q_1, .inl (k_2, 3, .inl (fun _ => 0))), (q_3, .inl (k_4, 3, .inl (fun _ => 0))), (q_5, .inl (k_6, 3, .inl (fun _ => 0))), (q_7, .inl (k_8, 3, .inl (fun _ => 0))), (q_9, .inl (k_10, 3, .inl (fun _ => 0))), (q_11, .inl (k_12, 3, .inl (fun _ => 0))), (q_13, .inl (k_14, 24, .inl (fun _ => 0)))] H := hP
  have hD : va_D A [(h0, .inr (7, [.int 0, .int 0, .int 0, .int 0, .ref q_1, .ref q_3, .ref q_5, .ref q_7, .ref q_9, .ref q_11, .null, .null, .null])), (q_1, .inl (k_2, 3, .inl (fun _ => 0))), (q_3, .inl (k_4, 3, .inl (fun _ => 0))), (q_5, .inl (k_6, 3, .inl (fun _ => 0))), (q_7, .inl (k_8, 3, .inl (fun _ => 0))), (q_9, .inl (k_10, 3, .inl (fun _ => 0))), (q_11, .inl (k_12, 3, .inl (fun _ => 0))), (q_13, .inl (k_14, 24, .inl (fun _ => 0)))] := hD
  have hK : va_K (dC, dI) vwCl [(k_2, .int), (k_4, .int), (k_6, .int), (k_8, .int), (k_10, .int), (k_12, .int), (k_14, .int)] s := hK
  refine W.widen (k := 7) (n := 42) (by decide) (by decide) ?_
  refine va_putF (D := (dC, dI)) (ci := 7) (v := .ref q_13) (ty := (.array .int)) (C := RX7) (T := TX7) (N := 13) hx hb hts iw_c_X7_init_X7 tyX7 tyX7_ok nmX7 hown hK hP hD hS 0 rfl rfl 10 (by decide) (hts (.fieldLink RX7 30 "BuoyVote$Sea" "liking" "[I") (List.mem_of_getElem? (i := 11) rfl)) (fun _ h9 => h9) rfl hin rfl (by decide +kernel) rfl rfl (Nat.le_of_ble_eq_true rfl) dX7_init_51 (fun H locs hP hD hS => ?_)
  have hP : va_P (dC, dI) vwCl [(h0, .inr (7, [.int 0, .int 0, .int 0, .int 0, .ref q_1, .ref q_3, .ref q_5, .ref q_7, .ref q_9, .ref q_11, .ref q_13, .null, .null])), (q_1, .inl (k_2, 3, .inl (fun _ => 0))), (q_3, .inl (k_4, 3, .inl (fun _ => 0))), (q_5, .inl (k_6, 3, .inl (fun _ => 0))), (q_7, .inl (k_8, 3, .inl (fun _ => 0))), (q_9, .inl (k_10, 3, .inl (fun _ => 0))), (q_11, .inl (k_12, 3, .inl (fun _ => 0))), (q_13, .inl (k_14, 24, .inl (fun _ => 0)))] H := hP
  have hD : va_D A [(h0, .inr (7, [.int 0, .int 0, .int 0, .int 0, .ref q_1, .ref q_3, .ref q_5, .ref q_7, .ref q_9, .ref q_11, .ref q_13, .null, .null])), (q_1, .inl (k_2, 3, .inl (fun _ => 0))), (q_3, .inl (k_4, 3, .inl (fun _ => 0))), (q_5, .inl (k_6, 3, .inl (fun _ => 0))), (q_7, .inl (k_8, 3, .inl (fun _ => 0))), (q_9, .inl (k_10, 3, .inl (fun _ => 0))), (q_11, .inl (k_12, 3, .inl (fun _ => 0))), (q_13, .inl (k_14, 24, .inl (fun _ => 0)))] := hD
  refine lv_aload_n hx hb dX7_init_54 rfl (lv_at hl 0 rfl) ?_
  refine lv_bipush (v := 8) hx hb dX7_init_55 (by decide) ?_
  refine va_newa (atype := .int) (a0 := (8, .inl (fun _ => 0))) (ty := .int) (N' := 8) hx hb (hts (.arrayClass .int) (List.mem_of_getElem? (i := 4) rfl)) rfl hK hP hD hS hA (fun cA => vp_cell_i cA 8 (fun _ => 0)) (by decide) (by decide) (by decide +kernel) (Nat.le_of_ble_eq_true rfl) (Nat.le_of_ble_eq_true rfl) dX7_init_57 (fun q_15 k_16 H hK hP hD hS => ?_)
  have hP : va_P (dC, dI) vwCl [(h0, .inr (7, [.int 0, .int 0, .int 0, .int 0, .ref q_1, .ref q_3, .ref q_5, .ref q_7, .ref q_9, .ref q_11, .ref q_13, .null, .null])), (q_1, .inl (k_2, 3, .inl (fun _ => 0))), (q_3, .inl (k_4, 3, .inl (fun _ => 0))), (q_5, .inl (k_6, 3, .inl (fun _ => 0))), (q_7, .inl (k_8, 3, .inl (fun _ => 0))), (q_9, .inl (k_10, 3, .inl (fun _ => 0))), (q_11, .inl (k_12, 3, .inl (fun _ => 0))), (q_13, .inl (k_14, 24, .inl (fun _ => 0))), (q_15, .inl (k_16, 8, .inl (fun _ => 0)))] H := hP
  have hD : va_D A [(h0, .inr (7, [.int 0, .int 0, .int 0, .int 0, .ref q_1, .ref q_3, .ref q_5, .ref q_7, .ref q_9, .ref q_11, .ref q_13, .null, .null])), (q_1, .inl (k_2, 3, .inl (fun _ => 0))), (q_3, .inl (k_4, 3, .inl (fun _ => 0))), (q_5, .inl (k_6, 3, .inl (fun _ => 0))), (q_7, .inl (k_8, 3, .inl (fun _ => 0))), (q_9, .inl (k_10, 3, .inl (fun _ => 0))), (q_11, .inl (k_12, 3, .inl (fun _ => 0))), (q_13, .inl (k_14, 24, .inl (fun _ => 0))), (q_15, .inl (k_16, 8, .inl (fun _ => 0)))] := hD
  have hK : va_K (dC, dI) vwCl [(k_2, .int), (k_4, .int), (k_6, .int), (k_8, .int), (k_10, .int), (k_12, .int), (k_14, .int), (k_16, .int)] s := hK
  refine W.widen (k := 8) (n := 50) (by decide) (by decide) ?_
  refine va_putF (D := (dC, dI)) (ci := 7) (v := .ref q_15) (ty := (.array .int)) (C := RX7) (T := TX7) (N := 13) hx hb hts iw_c_X7_init_X7 tyX7 tyX7_ok nmX7 hown hK hP hD hS 0 rfl rfl 11 (by decide) (hts (.fieldLink RX7 33 "BuoyVote$Sea" "old" "[I") (List.mem_of_getElem? (i := 12) rfl)) (fun _ h9 => h9) rfl hin rfl (by decide +kernel) rfl rfl (Nat.le_of_ble_eq_true rfl) dX7_init_59 (fun H locs hP hD hS => ?_)
  have hP : va_P (dC, dI) vwCl [(h0, .inr (7, [.int 0, .int 0, .int 0, .int 0, .ref q_1, .ref q_3, .ref q_5, .ref q_7, .ref q_9, .ref q_11, .ref q_13, .ref q_15, .null])), (q_1, .inl (k_2, 3, .inl (fun _ => 0))), (q_3, .inl (k_4, 3, .inl (fun _ => 0))), (q_5, .inl (k_6, 3, .inl (fun _ => 0))), (q_7, .inl (k_8, 3, .inl (fun _ => 0))), (q_9, .inl (k_10, 3, .inl (fun _ => 0))), (q_11, .inl (k_12, 3, .inl (fun _ => 0))), (q_13, .inl (k_14, 24, .inl (fun _ => 0))), (q_15, .inl (k_16, 8, .inl (fun _ => 0)))] H := hP
  have hD : va_D A [(h0, .inr (7, [.int 0, .int 0, .int 0, .int 0, .ref q_1, .ref q_3, .ref q_5, .ref q_7, .ref q_9, .ref q_11, .ref q_13, .ref q_15, .null])), (q_1, .inl (k_2, 3, .inl (fun _ => 0))), (q_3, .inl (k_4, 3, .inl (fun _ => 0))), (q_5, .inl (k_6, 3, .inl (fun _ => 0))), (q_7, .inl (k_8, 3, .inl (fun _ => 0))), (q_9, .inl (k_10, 3, .inl (fun _ => 0))), (q_11, .inl (k_12, 3, .inl (fun _ => 0))), (q_13, .inl (k_14, 24, .inl (fun _ => 0))), (q_15, .inl (k_16, 8, .inl (fun _ => 0)))] := hD
  refine lv_aload_n hx hb dX7_init_62 rfl (lv_at hl 0 rfl) ?_
  refine lv_bipush (v := 8) hx hb dX7_init_63 (by decide) ?_
  refine va_newa (atype := .int) (a0 := (8, .inl (fun _ => 0))) (ty := .int) (N' := 8) hx hb (hts (.arrayClass .int) (List.mem_of_getElem? (i := 4) rfl)) rfl hK hP hD hS hA (fun cA => vp_cell_i cA 8 (fun _ => 0)) (by decide) (by decide) (by decide +kernel) (Nat.le_of_ble_eq_true rfl) (Nat.le_of_ble_eq_true rfl) dX7_init_65 (fun q_17 k_18 H hK hP hD hS => ?_)
  have hP : va_P (dC, dI) vwCl [(h0, .inr (7, [.int 0, .int 0, .int 0, .int 0, .ref q_1, .ref q_3, .ref q_5, .ref q_7, .ref q_9, .ref q_11, .ref q_13, .ref q_15, .null])), (q_1, .inl (k_2, 3, .inl (fun _ => 0))), (q_3, .inl (k_4, 3, .inl (fun _ => 0))), (q_5, .inl (k_6, 3, .inl (fun _ => 0))), (q_7, .inl (k_8, 3, .inl (fun _ => 0))), (q_9, .inl (k_10, 3, .inl (fun _ => 0))), (q_11, .inl (k_12, 3, .inl (fun _ => 0))), (q_13, .inl (k_14, 24, .inl (fun _ => 0))), (q_15, .inl (k_16, 8, .inl (fun _ => 0))), (q_17, .inl (k_18, 8, .inl (fun _ => 0)))] H := hP
  have hD : va_D A [(h0, .inr (7, [.int 0, .int 0, .int 0, .int 0, .ref q_1, .ref q_3, .ref q_5, .ref q_7, .ref q_9, .ref q_11, .ref q_13, .ref q_15, .null])), (q_1, .inl (k_2, 3, .inl (fun _ => 0))), (q_3, .inl (k_4, 3, .inl (fun _ => 0))), (q_5, .inl (k_6, 3, .inl (fun _ => 0))), (q_7, .inl (k_8, 3, .inl (fun _ => 0))), (q_9, .inl (k_10, 3, .inl (fun _ => 0))), (q_11, .inl (k_12, 3, .inl (fun _ => 0))), (q_13, .inl (k_14, 24, .inl (fun _ => 0))), (q_15, .inl (k_16, 8, .inl (fun _ => 0))), (q_17, .inl (k_18, 8, .inl (fun _ => 0)))] := hD
  have hK : va_K (dC, dI) vwCl [(k_2, .int), (k_4, .int), (k_6, .int), (k_8, .int), (k_10, .int), (k_12, .int), (k_14, .int), (k_16, .int), (k_18, .int)] s := hK
  refine W.widen (k := 9) (n := 58) (by decide) (by decide) ?_
  refine va_putF (D := (dC, dI)) (ci := 7) (v := .ref q_17) (ty := (.array .int)) (C := RX7) (T := TX7) (N := 13) hx hb hts iw_c_X7_init_X7 tyX7 tyX7_ok nmX7 hown hK hP hD hS 0 rfl rfl 12 (by decide) (hts (.fieldLink RX7 36 "BuoyVote$Sea" "barnacles" "[I") (List.mem_of_getElem? (i := 13) rfl)) (fun _ h9 => h9) rfl hin rfl (by decide +kernel) rfl rfl (Nat.le_of_ble_eq_true rfl) dX7_init_67 (fun H locs hP hD hS => ?_)
  have hP : va_P (dC, dI) vwCl [(h0, .inr (7, [.int 0, .int 0, .int 0, .int 0, .ref q_1, .ref q_3, .ref q_5, .ref q_7, .ref q_9, .ref q_11, .ref q_13, .ref q_15, .ref q_17])), (q_1, .inl (k_2, 3, .inl (fun _ => 0))), (q_3, .inl (k_4, 3, .inl (fun _ => 0))), (q_5, .inl (k_6, 3, .inl (fun _ => 0))), (q_7, .inl (k_8, 3, .inl (fun _ => 0))), (q_9, .inl (k_10, 3, .inl (fun _ => 0))), (q_11, .inl (k_12, 3, .inl (fun _ => 0))), (q_13, .inl (k_14, 24, .inl (fun _ => 0))), (q_15, .inl (k_16, 8, .inl (fun _ => 0))), (q_17, .inl (k_18, 8, .inl (fun _ => 0)))] H := hP
  have hD : va_D A [(h0, .inr (7, [.int 0, .int 0, .int 0, .int 0, .ref q_1, .ref q_3, .ref q_5, .ref q_7, .ref q_9, .ref q_11, .ref q_13, .ref q_15, .ref q_17])), (q_1, .inl (k_2, 3, .inl (fun _ => 0))), (q_3, .inl (k_4, 3, .inl (fun _ => 0))), (q_5, .inl (k_6, 3, .inl (fun _ => 0))), (q_7, .inl (k_8, 3, .inl (fun _ => 0))), (q_9, .inl (k_10, 3, .inl (fun _ => 0))), (q_11, .inl (k_12, 3, .inl (fun _ => 0))), (q_13, .inl (k_14, 24, .inl (fun _ => 0))), (q_15, .inl (k_16, 8, .inl (fun _ => 0))), (q_17, .inl (k_18, 8, .inl (fun _ => 0)))] := hD
  have hP9 := hP.sub (ws' := [(h0, .inr (7, [.int 0, .int 0, .int 0, .int 0, .ref q_1, .ref q_3, .ref q_5, .ref q_7, .ref q_9, .ref q_11, .ref q_13, .ref q_15, .ref q_17]))]) [0] rfl
  have hD9 := hD.sub (ws' := [(h0, .inr (7, [.int 0, .int 0, .int 0, .int 0, .ref q_1, .ref q_3, .ref q_5, .ref q_7, .ref q_9, .ref q_11, .ref q_13, .ref q_15, .ref q_17]))]) [0] (by decide) rfl
  have hK9 := hK.sub (tys' := []) [] rfl
  exact W.vret hx hb hr (fun t ht hW => ⟨⟨(), rfl, trivial, q_1, q_3, q_5, q_7, q_9, q_11, q_13, q_15, q_17, by rw [ht]; exact hP9, va_K.moved hW.alike hK9, hD9⟩, hS.F ht⟩) hS.2.2 dX7_init_70
