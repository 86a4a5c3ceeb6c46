noncomputable def wd_c_X7_put (a0 : Nat) (a1 : Int32) (a2 : Int32) (a3 : Int32) (a4 : Int32) (a5 : Nat) (a6 : Nat) (a7 : Nat) (a8 : Nat) (a9 : Nat) (a10 : Nat) (a11 : Nat) (a12 : Nat) (a13 : Nat) (a14 : Nat) (a15 : ClassId) (a16 : Nat → Int32) (a17 : Nat) (a18 : ClassId) (a19 : Nat → Int32) : va_W := [(a0, .inr (7, [.int a1, .int a2, .int a3, .int a4, .ref a5, .ref a6, .ref a7, .ref a8, .ref a9, .ref a10, .ref a11, .ref a12, .ref a13])), (a14, .inl (a15, 3, .inl a16)), (a17, .inl (a18, 3, .inl a19))]
noncomputable def wf_c_X7_put : List Cond := List.cons (.code yX7_put cX7_put 4 none) (@HAppend.hAppend (List Cond) (List Cond) (List Cond) _ [.fieldLink RX7 9 "BuoyVote$Sea" "x" "[I", .fieldLink RX7 15 "BuoyVote$Sea" "y" "[I"] wsX70)
theorem iw_c_X7_put_X7 : ∀ w ∈ wsX70, w ∈ wf_c_X7_put := fun w h => List.mem_cons_of_mem _ (List.mem_append_right _ h)
set_option maxHeartbeats 4000000 in
set_option maxRecDepth 100000 in
theorem c_X7_put (l : Launch) (dC : Nat → ClassId) (dI : Nat → Nat → Nat) (sz : Nat) (h0 : Nat) (p1 : Int32) (p2 : Int32) (p3 : Int32) (h0_f0 : Int32) (h0_f1 : Int32) (h0_f2 : Int32) (h0_f3 : Int32) (h0_4 : Nat) (h0_5 : Nat) (h0_6 : Nat) (h0_7 : Nat) (h0_8 : Nat) (h0_9 : Nat) (h0_10 : Nat) (h0_11 : Nat) (h0_12 : Nat) (h0_4k : ClassId) (h0_4c : Nat → Int32) (h0_5k : ClassId) (h0_5c : Nat → Int32) (g_p1 : RG p1 0 2) (g_p2 : RG p2 (-1) 99) (g_p3 : RG p3 (-1) 99) : Met l yX7_put wf_c_X7_put ({ frames := 0, cells := 0, slots := 0, locals := 0 }) (va_Pc [.ref h0, .int p1, .int p2, .int p3] (fun U => U.heap.size = sz ∧ va_P (dC, dI) vwCl (wd_c_X7_put h0 h0_f0 h0_f1 h0_f2 h0_f3 h0_4 h0_5 h0_6 h0_7 h0_8 h0_9 h0_10 h0_11 h0_12 h0_4 h0_4k h0_4c h0_5 h0_5k h0_5c) U.heap ∧ va_K (dC, dI) vwCl [(h0_4k, .int), (h0_5k, .int)] U ∧ va_D (fun _ => True) (wd_c_X7_put h0 h0_f0 h0_f1 h0_f2 h0_f3 h0_4 h0_5 h0_6 h0_7 h0_8 h0_9 h0_10 h0_11 h0_12 h0_4 h0_4k h0_4c h0_5 h0_5k h0_5c))) (va_Qv (fun (u : (Nat → Int32) × (Nat → Int32)) => (True)) (fun (u : (Nat → Int32) × (Nat → Int32)) t => va_P (dC, dI) vwCl (wd_c_X7_put h0 h0_f0 h0_f1 h0_f2 h0_f3 h0_4 h0_5 h0_6 h0_7 h0_8 h0_9 h0_10 h0_11 h0_12 h0_4 h0_4k (u.1) h0_5 h0_5k (u.2)) t.heap ∧ va_K (dC, dI) vwCl [] t ∧ va_D (va_A (wd_c_X7_put h0 h0_f0 h0_f1 h0_f2 h0_f3 h0_4 h0_5 h0_6 h0_7 h0_8 h0_9 h0_10 h0_11 h0_12 h0_4 h0_4k h0_4c h0_5 h0_5k h0_5c) sz) (wd_c_X7_put h0 h0_f0 h0_f1 h0_f2 h0_f3 h0_4 h0_5 h0_6 h0_7 h0_8 h0_9 h0_10 h0_11 h0_12 h0_4 h0_4k (u.1) h0_5 h0_5k (u.2))) (va_A (wd_c_X7_put h0 h0_f0 h0_f1 h0_f2 h0_f3 h0_4 h0_5 h0_6 h0_7 h0_8 h0_9 h0_10 h0_11 h0_12 h0_4 h0_4k h0_4c h0_5 h0_5k h0_5c) sz)) 0 0 (va_A (wd_c_X7_put h0 h0_f0 h0_f1 h0_f2 h0_f3 h0_4 h0_5 h0_6 h0_7 h0_8 h0_9 h0_10 h0_11 h0_12 h0_4 h0_4k h0_4c h0_5 h0_5k h0_5c) sz) := by
  refine Met.ofW (cc := cX7_put) (maxL := 4) (ret := none) (by decide +kernel) rfl ?_
  intro p e s m args below meth c s₁ B hml hv
  obtain ⟨rfl, hsz, hP, hK, hD0⟩ := hv
  have hx := B.exec
  have hb := B.bytes
  have hr := B.returns
  have hts := atoms_spec (ws := wf_c_X7_put) B.pre
  have hown : s.vm.findClass RX7 = some m.cls := findClass_of_methodNamed B.named
  have hlocks := B.notSynchronized
  subst hsz
  have hD := hD0.self (sz := s.heap.size)
  generalize hAe : va_A (wd_c_X7_put h0 h0_f0 h0_f1 h0_f2 h0_f3 h0_4 h0_5 h0_6 h0_7 h0_8 h0_9 h0_10 h0_11 h0_12 h0_4 h0_4k h0_4c h0_5 h0_5k h0_5c) s.heap.size = A at hD ⊢
  have hA : ∀ q : Nat, s.heap.size ≤ q → A q := fun q h => by rw [← hAe]; exact Or.inr h
  have hP : va_P (dC, dI) vwCl (wd_c_X7_put h0 h0_f0 h0_f1 h0_f2 h0_f3 h0_4 h0_5 h0_6 h0_7 h0_8 h0_9 h0_10 h0_11 h0_12 h0_4 h0_4k h0_4c h0_5 h0_5k h0_5c) s.heap := hP
  have hl := lv_entry ([.ref h0, .int p1, .int p2, .int p3]) (n := 4) (Nat.le_of_ble_eq_true rfl)
  rw [lg_entry_eq]
  generalize (lg_sl ([.ref h0, .int p1, .int p2, .int p3]) ++ List.replicate (4 - (lg_sl ([.ref h0, .int p1, .int p2, .int p3])).length) Slot.unset).toArray = ls at hl ⊢
  have hl : lv_has ls 4 [(0, .ref h0), (1, .int p1), (2, .int p2), (3, .int p3)] := hl
  obtain ⟨H, hHe⟩ : ∃ H : Heap, s.heap = H := ⟨_, rfl⟩
  have hS : va_S A s.heap H [] := by rw [hHe]; exact va_S.rf
  have hP : va_P (dC, dI) vwCl (wd_c_X7_put h0 h0_f0 h0_f1 h0_f2 h0_f3 h0_4 h0_5 h0_6 h0_7 h0_8 h0_9 h0_10 h0_11 h0_12 h0_4 h0_4k h0_4c h0_5 h0_5k h0_5c) H := by rw [← hHe]; exact hP
  rw [hHe]
  refine lv_aload_n hx hb dX7_put_0 rfl (lv_at hl 0 rfl) ?_
  as_aux_lemma =>
  refine va_get (D := (dC, dI)) (ci := 7) (v := .ref h0_4) (C := RX7) (T := TX7) (N := 13) hx hb hts iw_c_X7_put_X7 hown hK hP 0 rfl rfl 4 (by decide +kernel) (hts (.fieldLink RX7 9 "BuoyVote$Sea" "x" "[I") (List.mem_of_getElem? (i := 1) rfl)) (fun _ h9 => h9) rfl dX7_put_1 ?_
  refine lv_iload_n hx hb dX7_put_4 rfl (lv_at hl 1 rfl) ?_
  refine lv_iload_n hx hb dX7_put_5 rfl (lv_at hl 2 rfl) ?_
  refine va_iast hx hb hK hP hD hS 1 0 rfl rfl (RG_in g_p1 (by decide +kernel)) dX7_put_6 (fun H locs hP hD hS => ?_)
  have hP : va_P (dC, dI) vwCl (wd_c_X7_put h0 h0_f0 h0_f1 h0_f2 h0_f3 h0_4 h0_5 h0_6 h0_7 h0_8 h0_9 h0_10 h0_11 h0_12 h0_4 h0_4k (upd h0_4c (p1 : Int32).toNatClampNeg p2) h0_5 h0_5k h0_5c) H := hP
  have hD : va_D A (wd_c_X7_put h0 h0_f0 h0_f1 h0_f2 h0_f3 h0_4 h0_5 h0_6 h0_7 h0_8 h0_9 h0_10 h0_11 h0_12 h0_4 h0_4k (upd h0_4c (p1 : Int32).toNatClampNeg p2) h0_5 h0_5k h0_5c) := hD
  have l_2 : (upd h0_4c (p1 : Int32).toNatClampNeg p2) (p1 : Int32).toNatClampNeg = p2 := pk_us
  generalize (upd h0_4c (p1 : Int32).toNatClampNeg p2) = w_1 at hP hD l_2
  have hP : va_P (dC, dI) vwCl (wd_c_X7_put h0 h0_f0 h0_f1 h0_f2 h0_f3 h0_4 h0_5 h0_6 h0_7 h0_8 h0_9 h0_10 h0_11 h0_12 h0_4 h0_4k w_1 h0_5 h0_5k h0_5c) H := hP
  have hD : va_D A (wd_c_X7_put h0 h0_f0 h0_f1 h0_f2 h0_f3 h0_4 h0_5 h0_6 h0_7 h0_8 h0_9 h0_10 h0_11 h0_12 h0_4 h0_4k w_1 h0_5 h0_5k h0_5c) := hD
  refine lv_aload_n hx hb dX7_put_7 rfl (lv_at hl 0 rfl) ?_
  refine va_get (D := (dC, dI)) (ci := 7) (v := .ref h0_5) (C := RX7) (T := TX7) (N := 13) hx hb hts iw_c_X7_put_X7 hown hK hP 0 rfl rfl 5 (by decide +kernel) (hts (.fieldLink RX7 15 "BuoyVote$Sea" "y" "[I") (List.mem_of_getElem? (i := 2) rfl)) (fun _ h9 => h9) rfl dX7_put_8 ?_
  refine lv_iload_n hx hb dX7_put_11 rfl (lv_at hl 1 rfl) ?_
  refine lv_iload_n hx hb dX7_put_12 rfl (lv_at hl 3 rfl) ?_
  as_aux_lemma =>
  refine va_iast hx hb hK hP hD hS 2 1 rfl rfl (RG_in g_p1 (by decide +kernel)) dX7_put_13 (fun H locs hP hD hS => ?_)
  have hP : va_P (dC, dI) vwCl (wd_c_X7_put h0 h0_f0 h0_f1 h0_f2 h0_f3 h0_4 h0_5 h0_6 h0_7 h0_8 h0_9 h0_10 h0_11 h0_12 h0_4 h0_4k w_1 h0_5 h0_5k (upd h0_5c (p1 : Int32).toNatClampNeg p3)) H := hP
  have hD : va_D A (wd_c_X7_put h0 h0_f0 h0_f1 h0_f2 h0_f3 h0_4 h0_5 h0_6 h0_7 h0_8 h0_9 h0_10 h0_11 h0_12 h0_4 h0_4k w_1 h0_5 h0_5k (upd h0_5c (p1 : Int32).toNatClampNeg p3)) := hD
  have l_4 : (upd h0_5c (p1 : Int32).toNatClampNeg p3) (p1 : Int32).toNatClampNeg = p3 := pk_us
  generalize (upd h0_5c (p1 : Int32).toNatClampNeg p3) = w_3 at hP hD l_4
  have hP : va_P (dC, dI) vwCl (wd_c_X7_put h0 h0_f0 h0_f1 h0_f2 h0_f3 h0_4 h0_5 h0_6 h0_7 h0_8 h0_9 h0_10 h0_11 h0_12 h0_4 h0_4k w_1 h0_5 h0_5k w_3) H := hP
  have hD : va_D A (wd_c_X7_put h0 h0_f0 h0_f1 h0_f2 h0_f3 h0_4 h0_5 h0_6 h0_7 h0_8 h0_9 h0_10 h0_11 h0_12 h0_4 h0_4k w_1 h0_5 h0_5k w_3) := hD
  have hK9 := hK.sub (tys' := []) [] rfl
  exact W.vret hx hb hr (fun t ht hW => ⟨⟨(w_1, w_3), rfl, trivial, by rw [ht]; exact hP, va_K.moved hW.alike hK9, hD⟩, hS.F ht⟩) hS.2.2 dX7_put_14
noncomputable def wd_c_X11_hasBorough (a0 : Nat) (a1 : Nat) (a2 : Nat) (a3 : Nat) (a4 : Nat) (a5 : Nat) (a6 : Int32) (a7 : Nat) (a8 : Nat) (a9 : Nat) (a10 : Nat) (a11 : Nat) (a12 : Nat) (a13 : Nat) (a14 : Nat) (a15 : Nat) (a16 : Int64) (a17 : Nat) (a18 : Nat) (a19 : Int32) (a20 : Int32) (a21 : Int32) : va_W := [(a0, .inr (11, [.ref a1, .ref a2, .ref a3, .ref a4, .ref a5, .int a6, .ref a7, .ref a8, .ref a9, .ref a10, .ref a11, .ref a12, .ref a13, .ref a14, .ref a15, .long a16])), (a17, .inr (0, [.ref a18, .int a19, .int a20, .int a21]))]
noncomputable def wf_c_X11_hasBorough : List Cond := List.cons (.code yX11_hasBorough cX11_hasBorough 1 (some .boolean)) (@HAppend.hAppend (List Cond) (List Cond) (List Cond) _ (@HAppend.hAppend (List Cond) (List Cond) (List Cond) _ [.fieldLink RX11 19 "BuoyVote" "told" "LBuoyVote$Borough;", .fieldLink RX11 275 "BuoyVote$Borough" "buoys" "I"] wsX110) wsX00)
theorem iw_c_X11_hasBorough_X11 : ∀ w ∈ wsX110, w ∈ wf_c_X11_hasBorough := fun w h => List.mem_cons_of_mem _ (List.mem_append_left _ (List.mem_append_right _ h))
theorem iw_c_X11_hasBorough_X0 : ∀ w ∈ wsX00, w ∈ wf_c_X11_hasBorough := fun w h => List.mem_cons_of_mem _ (List.mem_append_right _ h)
set_option maxHeartbeats 4000000 in
set_option maxRecDepth 100000 in
theorem c_X11_hasBorough (l : Launch) (dC : Nat → ClassId) (dI : Nat → Nat → Nat) (sz : Nat) (h0 : Nat) (h0_0 : Nat) (h0_1 : Nat) (h0_2 : Nat) (h0_3 : Nat) (h0_4 : Nat) (h0_f5 : Int32) (h0_6 : Nat) (h0_7 : Nat) (h0_8 : Nat) (h0_9 : Nat) (h0_10 : Nat) (h0_11 : Nat) (h0_12 : Nat) (h0_13 : Nat) (h0_14 : Nat) (h0_f15 : Int64) (h0_1_0 : Nat) (h0_1_f1 : Int32) (h0_1_f2 : Int32) (h0_1_f3 : Int32) (g_h0_f5 : RG h0_f5 0 4) (g_h0_1_f1 : RG h0_1_f1 0 8) (g_h0_1_f2 : RG h0_1_f2 0 3) (g_h0_1_f3 : RG h0_1_f3 0 1) : Met l yX11_hasBorough wf_c_X11_hasBorough ({ frames := 0, cells := 0, slots := 0, locals := 0 }) (va_Pc [.ref h0] (fun U => U.heap.size = sz ∧ va_P (dC, dI) vwCl (wd_c_X11_hasBorough h0 h0_0 h0_1 h0_2 h0_3 h0_4 h0_f5 h0_6 h0_7 h0_8 h0_9 h0_10 h0_11 h0_12 h0_13 h0_14 h0_f15 h0_1 h0_1_0 h0_1_f1 h0_1_f2 h0_1_f3) U.heap ∧ va_K (dC, dI) vwCl [] U ∧ va_D (fun _ => True) (wd_c_X11_hasBorough h0 h0_0 h0_1 h0_2 h0_3 h0_4 h0_f5 h0_6 h0_7 h0_8 h0_9 h0_10 h0_11 h0_12 h0_13 h0_14 h0_f15 h0_1 h0_1_0 h0_1_f1 h0_1_f2 h0_1_f3))) (va_Qi (fun (r : Int32) (u : Unit) => (r = 0 ∧ RG h0_1_f1 0 0) ∨ (r = 1 ∧ RG h0_1_f1 1 8)) (fun (u : Unit) t => va_P (dC, dI) vwCl (wd_c_X11_hasBorough h0 h0_0 h0_1 h0_2 h0_3 h0_4 h0_f5 h0_6 h0_7 h0_8 h0_9 h0_10 h0_11 h0_12 h0_13 h0_14 h0_f15 h0_1 h0_1_0 h0_1_f1 h0_1_f2 h0_1_f3) t.heap ∧ va_K (dC, dI) vwCl [] t ∧ va_D (va_A (wd_c_X11_hasBorough h0 h0_0 h0_1 h0_2 h0_3 h0_4 h0_f5 h0_6 h0_7 h0_8 h0_9 h0_10 h0_11 h0_12 h0_13 h0_14 h0_f15 h0_1 h0_1_0 h0_1_f1 h0_1_f2 h0_1_f3) sz) (wd_c_X11_hasBorough h0 h0_0 h0_1 h0_2 h0_3 h0_4 h0_f5 h0_6 h0_7 h0_8 h0_9 h0_10 h0_11 h0_12 h0_13 h0_14 h0_f15 h0_1 h0_1_0 h0_1_f1 h0_1_f2 h0_1_f3)) (va_A (wd_c_X11_hasBorough h0 h0_0 h0_1 h0_2 h0_3 h0_4 h0_f5 h0_6 h0_7 h0_8 h0_9 h0_10 h0_11 h0_12 h0_13 h0_14 h0_f15 h0_1 h0_1_0 h0_1_f1 h0_1_f2 h0_1_f3) sz)) 0 0 (va_A (wd_c_X11_hasBorough h0 h0_0 h0_1 h0_2 h0_3 h0_4 h0_f5 h0_6 h0_7 h0_8 h0_9 h0_10 h0_11 h0_12 h0_13 h0_14 h0_f15 h0_1 h0_1_0 h0_1_f1 h0_1_f2 h0_1_f3) sz) := by
  refine Met.ofW (cc := cX11_hasBorough) (maxL := 1) (ret := (some .boolean)) (by decide +kernel) rfl ?_
  intro p e s m args below meth c s₁ B hml hv
  obtain ⟨rfl, hsz, hP, hK, hD0⟩ := hv
  have hx := B.exec
  have hb := B.bytes
  have hr := B.returns
  have hts := atoms_spec (ws := wf_c_X11_hasBorough) B.pre
  have hown : s.vm.findClass RX11 = some m.cls := findClass_of_methodNamed B.named
  have hlocks := B.notSynchronized
  subst hsz
  have hD := hD0.self (sz := s.heap.size)
  generalize hAe : va_A (wd_c_X11_hasBorough h0 h0_0 h0_1 h0_2 h0_3 h0_4 h0_f5 h0_6 h0_7 h0_8 h0_9 h0_10 h0_11 h0_12 h0_13 h0_14 h0_f15 h0_1 h0_1_0 h0_1_f1 h0_1_f2 h0_1_f3) s.heap.size = A at hD ⊢
  have hA : ∀ q : Nat, s.heap.size ≤ q → A q := fun q h => by rw [← hAe]; exact Or.inr h
  have hP : va_P (dC, dI) vwCl (wd_c_X11_hasBorough h0 h0_0 h0_1 h0_2 h0_3 h0_4 h0_f5 h0_6 h0_7 h0_8 h0_9 h0_10 h0_11 h0_12 h0_13 h0_14 h0_f15 h0_1 h0_1_0 h0_1_f1 h0_1_f2 h0_1_f3) s.heap := hP
  have hl := lv_entry ([.ref h0]) (n := 1) (Nat.le_of_ble_eq_true rfl)
  rw [lg_entry_eq]
  generalize (lg_sl ([.ref h0]) ++ List.replicate (1 - (lg_sl ([.ref h0])).length) Slot.unset).toArray = ls at hl ⊢
  have hl : lv_has ls 1 [(0, .ref h0)] := hl
  obtain ⟨H, hHe⟩ : ∃ H : Heap, s.heap = H := ⟨_, rfl⟩
  have hS : va_S A s.heap H [] := by rw [hHe]; exact va_S.rf
  have hP : va_P (dC, dI) vwCl (wd_c_X11_hasBorough h0 h0_0 h0_1 h0_2 h0_3 h0_4 h0_f5 h0_6 h0_7 h0_8 h0_9 h0_10 h0_11 h0_12 h0_13 h0_14 h0_f15 h0_1 h0_1_0 h0_1_f1 h0_1_f2 h0_1_f3) H := by rw [← hHe]; exact hP
  rw [hHe]
  refine lv_aload_n hx hb dX11_hasBorough_0 rfl (lv_at hl 0 rfl) ?_
  as_aux_lemma =>
  refine va_get (D := (dC, dI)) (ci := 11) (v := .ref h0_1) (C := RX11) (T := TX11) (N := 16) hx hb hts iw_c_X11_hasBorough_X11 hown hK hP 0 rfl rfl 1 (by decide +kernel) (hts (.fieldLink RX11 19 "BuoyVote" "told" "LBuoyVote$Borough;") (List.mem_of_getElem? (i := 1) rfl)) (fun _ h9 => h9) rfl dX11_hasBorough_1 ?_
  refine va_get (D := (dC, dI)) (ci := 0) (v := .int h0_1_f1) (C := RX0) (T := TX0) (N := 4) hx hb hts iw_c_X11_hasBorough_X0 hown hK hP 1 rfl rfl 1 (by decide +kernel) (hts (.fieldLink RX11 275 "BuoyVote$Borough" "buoys" "I") (List.mem_of_getElem? (i := 2) rfl)) (fun _ h9 => h9) rfl dX11_hasBorough_4 ?_
  refine lv_if_le (tgt := 14) hx hb dX11_hasBorough_7 rfl (fun c_1 => ?_) (fun c_1 => ?_)
  · have g_2 : RG h0_1_f1 0 0 := RG_le1 g_h0_1_f1 (RG_k 0 0 rfl) c_1 (by decide +kernel)
    refine lv_iconst (v := 0) hx hb dX11_hasBorough_14 kc_iconst_0 ?_
    have hK9 := hK.sub (tys' := []) [] rfl
    exact W.zret (v := 0) hx hb hr rfl (fun t ht hW => ⟨⟨0, (), rfl, (Or.inl ⟨rfl, g_2⟩), by rw [ht]; exact hP, va_K.moved hW.alike hK9, hD⟩, hS.F ht⟩) hS.2.2 dX11_hasBorough_15
  · have d_3 := Int32.not_le.mp c_1
    have g_4 : RG h0_1_f1 1 8 := RG_lt2 (RG_k 0 0 rfl) g_h0_1_f1 d_3 (by decide +kernel)
    refine lv_iconst (v := 1) hx hb dX11_hasBorough_10 kc_iconst_1 ?_
    refine lv_goto (tgt := 15) hx hb dX11_hasBorough_11 rfl ?_
    have hK9 := hK.sub (tys' := []) [] rfl
    exact W.zret (v := 1) hx hb hr rfl (fun t ht hW => ⟨⟨1, (), rfl, (Or.inr ⟨rfl, g_4⟩), by rw [ht]; exact hP, va_K.moved hW.alike hK9, hD⟩, hS.F ht⟩) hS.2.2 dX11_hasBorough_15
noncomputable def wd_c_X0_tideHours (a0 : Nat) (a1 : Nat) (a2 : Int32) (a3 : Int32) (a4 : Int32) (a5 : Nat) (a6 : ClassId) (a7 : Nat → Int32) : va_W := [(a0, .inr (0, [.ref a1, .int a2, .int a3, .int a4])), (a5, .inl (a6, 80, .inl a7))]
noncomputable def wf_c_X0_tideHours : List Cond := List.cons (.code yX0_tideHours cX0_tideHours 1 (some .int)) (@HAppend.hAppend (List Cond) (List Cond) (List Cond) _ [.fieldLink RX0 11 "BuoyVote$Borough" "values" "[I"] wsX00)
theorem iw_c_X0_tideHours_X0 : ∀ w ∈ wsX00, w ∈ wf_c_X0_tideHours := fun w h => List.mem_cons_of_mem _ (List.mem_append_right _ h)
set_option maxHeartbeats 4000000 in
set_option maxRecDepth 100000 in
theorem c_X0_tideHours (l : Launch) (dC : Nat → ClassId) (dI : Nat → Nat → Nat) (sz : Nat) (h0 : Nat) (h0_0 : Nat) (h0_f1 : Int32) (h0_f2 : Int32) (h0_f3 : Int32) (h0_0k : ClassId) (h0_0c : Nat → Int32) (g_h0_f1 : RG h0_f1 0 8) (g_h0_f2 : RG h0_f2 0 3) (g_h0_f3 : RG h0_f3 0 1) (a_h0_0c : AI h0_0c (-1) 99) : Met l yX0_tideHours wf_c_X0_tideHours ({ frames := 0, cells := 0, slots := 0, locals := 0 }) (va_Pc [.ref h0] (fun U => U.heap.size = sz ∧ va_P (dC, dI) vwCl (wd_c_X0_tideHours h0 h0_0 h0_f1 h0_f2 h0_f3 h0_0 h0_0k h0_0c) U.heap ∧ va_K (dC, dI) vwCl [(h0_0k, .int)] U ∧ va_D (fun _ => True) (wd_c_X0_tideHours h0 h0_0 h0_f1 h0_f2 h0_f3 h0_0 h0_0k h0_0c))) (va_Qi (fun (r : Int32) (u : Unit) => (RG r (-1) 99)) (fun (u : Unit) t => va_P (dC, dI) vwCl (wd_c_X0_tideHours h0 h0_0 h0_f1 h0_f2 h0_f3 h0_0 h0_0k h0_0c) t.heap ∧ va_K (dC, dI) vwCl [] t ∧ va_D (va_A (wd_c_X0_tideHours h0 h0_0 h0_f1 h0_f2 h0_f3 h0_0 h0_0k h0_0c) sz) (wd_c_X0_tideHours h0 h0_0 h0_f1 h0_f2 h0_f3 h0_0 h0_0k h0_0c)) (va_A (wd_c_X0_tideHours h0 h0_0 h0_f1 h0_f2 h0_f3 h0_0 h0_0k h0_0c) sz)) 0 0 (va_A (wd_c_X0_tideHours h0 h0_0 h0_f1 h0_f2 h0_f3 h0_0 h0_0k h0_0c) sz) := by
  refine Met.ofW (cc := cX0_tideHours) (maxL := 1) (ret := (some .int)) (by decide +kernel) rfl ?_
  intro p e s m args below meth c s₁ B hml hv
  obtain ⟨rfl, hsz, hP, hK, hD0⟩ := hv
  have hx := B.exec
  have hb := B.bytes
  have hr := B.returns
  have hts := atoms_spec (ws := wf_c_X0_tideHours) B.pre
  have hown : s.vm.findClass RX0 = some m.cls := findClass_of_methodNamed B.named
  have hlocks := B.notSynchronized
  subst hsz
  have hD := hD0.self (sz := s.heap.size)
  generalize hAe : va_A (wd_c_X0_tideHours h0 h0_0 h0_f1 h0_f2 h0_f3 h0_0 h0_0k h0_0c) s.heap.size = A at hD ⊢
  have hA : ∀ q : Nat, s.heap.size ≤ q → A q := fun q h => by rw [← hAe]; exact Or.inr h
  have hP : va_P (dC, dI) vwCl (wd_c_X0_tideHours h0 h0_0 h0_f1 h0_f2 h0_f3 h0_0 h0_0k h0_0c) s.heap := hP
  have hl := lv_entry ([.ref h0]) (n := 1) (Nat.le_of_ble_eq_true rfl)
  rw [lg_entry_eq]
  generalize (lg_sl ([.ref h0]) ++ List.replicate (1 - (lg_sl ([.ref h0])).length) Slot.unset).toArray = ls at hl ⊢
  have hl : lv_has ls 1 [(0, .ref h0)] := hl
  obtain ⟨H, hHe⟩ : ∃ H : Heap, s.heap = H := ⟨_, rfl⟩
  have hS : va_S A s.heap H [] := by rw [hHe]; exact va_S.rf
  have hP : va_P (dC, dI) vwCl (wd_c_X0_tideHours h0 h0_0 h0_f1 h0_f2 h0_f3 h0_0 h0_0k h0_0c) H := by rw [← hHe]; exact hP
  rw [hHe]
  refine lv_aload_n hx hb dX0_tideHours_0 rfl (lv_at hl 0 rfl) ?_
  as_aux_lemma =>
  refine va_get (D := (dC, dI)) (ci := 0) (v := .ref h0_0) (C := RX0) (T := TX0) (N := 4) hx hb hts iw_c_X0_tideHours_X0 hown hK hP 0 rfl rfl 0 (by decide +kernel) (hts (.fieldLink RX0 11 "BuoyVote$Borough" "values" "[I") (List.mem_of_getElem? (i := 1) rfl)) (fun _ h9 => h9) rfl dX0_tideHours_1 ?_
  refine lv_iconst (v := 2) hx hb dX0_tideHours_4 kc_iconst_2 ?_
  refine va_iald hx hb hK hP 1 0 rfl rfl (RG_in (RG_k 2 2 rfl) (by decide +kernel)) dX0_tideHours_5 ?_
  refine lv_topi (fun x_1 ex_1 => ?_)
  have g_2 : RG x_1 (-1) 99 := AI_rd a_h0_0c ex_1
  have hK9 := hK.sub (tys' := []) [] rfl
  exact W.iret (v := x_1) hx hb hr (fun t ht hW => ⟨⟨x_1, (), rfl, g_2, by rw [ht]; exact hP, va_K.moved hW.alike hK9, hD⟩, hS.F ht⟩) hS.2.2 dX0_tideHours_6
noncomputable def wd_c_X0_countHours (a0 : Nat) (a1 : Nat) (a2 : Int32) (a3 : Int32) (a4 : Int32) (a5 : Nat) (a6 : ClassId) (a7 : Nat → Int32) : va_W := [(a0, .inr (0, [.ref a1, .int a2, .int a3, .int a4])), (a5, .inl (a6, 80, .inl a7))]
noncomputable def wf_c_X0_countHours : List Cond := List.cons (.code yX0_countHours cX0_countHours 1 (some .int)) (@HAppend.hAppend (List Cond) (List Cond) (List Cond) _ [.fieldLink RX0 11 "BuoyVote$Borough" "values" "[I"] wsX00)
theorem iw_c_X0_countHours_X0 : ∀ w ∈ wsX00, w ∈ wf_c_X0_countHours := fun w h => List.mem_cons_of_mem _ (List.mem_append_right _ h)
set_option maxHeartbeats 4000000 in
set_option maxRecDepth 100000 in
theorem c_X0_countHours (l : Launch) (dC : Nat → ClassId) (dI : Nat → Nat → Nat) (sz : Nat) (h0 : Nat) (h0_0 : Nat) (h0_f1 : Int32) (h0_f2 : Int32) (h0_f3 : Int32) (h0_0k : ClassId) (h0_0c : Nat → Int32) (g_h0_f1 : RG h0_f1 0 8) (g_h0_f2 : RG h0_f2 0 3) (g_h0_f3 : RG h0_f3 0 1) (a_h0_0c : AI h0_0c (-1) 99) : Met l yX0_countHours wf_c_X0_countHours ({ frames := 0, cells := 0, slots := 0, locals := 0 }) (va_Pc [.ref h0] (fun U => U.heap.size = sz ∧ va_P (dC, dI) vwCl (wd_c_X0_countHours h0 h0_0 h0_f1 h0_f2 h0_f3 h0_0 h0_0k h0_0c) U.heap ∧ va_K (dC, dI) vwCl [(h0_0k, .int)] U ∧ va_D (fun _ => True) (wd_c_X0_countHours h0 h0_0 h0_f1 h0_f2 h0_f3 h0_0 h0_0k h0_0c))) (va_Qi (fun (r : Int32) (u : Unit) => (RG r (-1) 99)) (fun (u : Unit) t => va_P (dC, dI) vwCl (wd_c_X0_countHours h0 h0_0 h0_f1 h0_f2 h0_f3 h0_0 h0_0k h0_0c) t.heap ∧ va_K (dC, dI) vwCl [] t ∧ va_D (va_A (wd_c_X0_countHours h0 h0_0 h0_f1 h0_f2 h0_f3 h0_0 h0_0k h0_0c) sz) (wd_c_X0_countHours h0 h0_0 h0_f1 h0_f2 h0_f3 h0_0 h0_0k h0_0c)) (va_A (wd_c_X0_countHours h0 h0_0 h0_f1 h0_f2 h0_f3 h0_0 h0_0k h0_0c) sz)) 0 0 (va_A (wd_c_X0_countHours h0 h0_0 h0_f1 h0_f2 h0_f3 h0_0 h0_0k h0_0c) sz) := by
  refine Met.ofW (cc := cX0_countHours) (maxL := 1) (ret := (some .int)) (by decide +kernel) rfl ?_
  intro p e s m args below meth c s₁ B hml hv
  obtain ⟨rfl, hsz, hP, hK, hD0⟩ := hv
  have hx := B.exec
  have hb := B.bytes
  have hr := B.returns
  have hts := atoms_spec (ws := wf_c_X0_countHours) B.pre
  have hown : s.vm.findClass RX0 = some m.cls := findClass_of_methodNamed B.named
  have hlocks := B.notSynchronized
  subst hsz
  have hD := hD0.self (sz := s.heap.size)
  generalize hAe : va_A (wd_c_X0_countHours h0 h0_0 h0_f1 h0_f2 h0_f3 h0_0 h0_0k h0_0c) s.heap.size = A at hD ⊢
  have hA : ∀ q : Nat, s.heap.size ≤ q → A q := fun q h => by rw [← hAe]; exact Or.inr h
  have hP : va_P (dC, dI) vwCl (wd_c_X0_countHours h0 h0_0 h0_f1 h0_f2 h0_f3 h0_0 h0_0k h0_0c) s.heap := hP
  have hl := lv_entry ([.ref h0]) (n := 1) (Nat.le_of_ble_eq_true rfl)
  rw [lg_entry_eq]
  generalize (lg_sl ([.ref h0]) ++ List.replicate (1 - (lg_sl ([.ref h0])).length) Slot.unset).toArray = ls at hl ⊢
  have hl : lv_has ls 1 [(0, .ref h0)] := hl
  obtain ⟨H, hHe⟩ : ∃ H : Heap, s.heap = H := ⟨_, rfl⟩
  have hS : va_S A s.heap H [] := by rw [hHe]; exact va_S.rf
  have hP : va_P (dC, dI) vwCl (wd_c_X0_countHours h0 h0_0 h0_f1 h0_f2 h0_f3 h0_0 h0_0k h0_0c) H := by rw [← hHe]; exact hP
  rw [hHe]
  refine lv_aload_n hx hb dX0_countHours_0 rfl (lv_at hl 0 rfl) ?_
  as_aux_lemma =>
  refine va_get (D := (dC, dI)) (ci := 0) (v := .ref h0_0) (C := RX0) (T := TX0) (N := 4) hx hb hts iw_c_X0_countHours_X0 hown hK hP 0 rfl rfl 0 (by decide +kernel) (hts (.fieldLink RX0 11 "BuoyVote$Borough" "values" "[I") (List.mem_of_getElem? (i := 1) rfl)) (fun _ h9 => h9) rfl dX0_countHours_1 ?_
  refine lv_iconst (v := 3) hx hb dX0_countHours_4 kc_iconst_3 ?_
  refine va_iald hx hb hK hP 1 0 rfl rfl (RG_in (RG_k 3 3 rfl) (by decide +kernel)) dX0_countHours_5 ?_
  refine lv_topi (fun x_1 ex_1 => ?_)
  have g_2 : RG x_1 (-1) 99 := AI_rd a_h0_0c ex_1
  have hK9 := hK.sub (tys' := []) [] rfl
  exact W.iret (v := x_1) hx hb hr (fun t ht hW => ⟨⟨x_1, (), rfl, g_2, by rw [ht]; exact hP, va_K.moved hW.alike hK9, hD⟩, hS.F ht⟩) hS.2.2 dX0_countHours_6
noncomputable def wd_c_X10_isRising (a0 : Nat) (a1 : Nat) (a2 : Nat) (a3 : Nat) (a4 : Nat) (a5 : Nat) (a6 : Nat) (a7 : Nat) (a8 : Nat) (a9 : Int32) (a10 : Int32) (a11 : Int32) (a12 : Nat) (a13 : ClassId) (a14 : Nat → Int32) : va_W := [(a0, .inr (10, [.ref a1, .ref a2, .ref a3, .ref a4, .ref a5, .ref a6])), (a7, .inr (0, [.ref a8, .int a9, .int a10, .int a11])), (a12, .inl (a13, 80, .inl a14))]
noncomputable def wf_c_X10_isRising : List Cond := List.cons (.code yX10_isRising cX10_isRising 3 (some .boolean)) (@HAppend.hAppend (List Cond) (List Cond) (List Cond) _ (@HAppend.hAppend (List Cond) (List Cond) (List Cond) _ [.fieldLink RX10 9 "BuoyVote$Waters" "told" "LBuoyVote$Borough;", .methodLink RX10 32 yX0_tideHours, .instanceMethod yX0_tideHours, .selects RX0 yX0_tideHours yX0_tideHours, .initialized RX0, .code yX0_tideHours cX0_tideHours 1 (some .int), .fieldLink RX0 11 "BuoyVote$Borough" "values" "[I"] wsX100) wsX00)
theorem iw_c_X10_isRising_X10 : ∀ w ∈ wsX100, w ∈ wf_c_X10_isRising := fun w h => List.mem_cons_of_mem _ (List.mem_append_left _ (List.mem_append_right _ h))
theorem iw_c_X10_isRising_X0 : ∀ w ∈ wsX00, w ∈ wf_c_X10_isRising := fun w h => List.mem_cons_of_mem _ (List.mem_append_right _ h)
set_option maxRecDepth 20000 in
theorem gf_c_X10_isRising_c_X0_tideHours : GoodIn wf_c_X10_isRising (wsV RX10 32 RX0 yX0_tideHours wf_c_X0_tideHours) := goodIn_app (gi_l [2, 3, 4, 5] rfl rfl) (gi_cons (j := 6) rfl rfl (goodIn_app (gi_l [7] rfl rfl) (goodIn_sub iw_c_X10_isRising_X0 gw_X0)))
set_option maxHeartbeats 4000000 in
set_option maxRecDepth 100000 in
theorem c_X10_isRising (l : Launch) (dC : Nat → ClassId) (dI : Nat → Nat → Nat) (sz : Nat) (h0 : Nat) (p1 : Int32) (h0_0 : Nat) (h0_1 : Nat) (h0_2 : Nat) (h0_3 : Nat) (h0_4 : Nat) (h0_5 : Nat) (h0_0_0 : Nat) (h0_0_f1 : Int32) (h0_0_f2 : Int32) (h0_0_f3 : Int32) (h0_0_0k : ClassId) (h0_0_0c : Nat → Int32) (g_p1 : RG p1 0 2147483647) (g_h0_0_f1 : RG h0_0_f1 0 8) (g_h0_0_f2 : RG h0_0_f2 0 3) (g_h0_0_f3 : RG h0_0_f3 0 1) (a_h0_0_0c : AI h0_0_0c (-1) 99) : Met l yX10_isRising wf_c_X10_isRising ({ frames := 1, cells := 0, slots := 0, locals := 20 }) (va_Pc [.ref h0, .int p1] (fun U => U.heap.size = sz ∧ va_P (dC, dI) vwCl (wd_c_X10_isRising h0 h0_0 h0_1 h0_2 h0_3 h0_4 h0_5 h0_0 h0_0_0 h0_0_f1 h0_0_f2 h0_0_f3 h0_0_0 h0_0_0k h0_0_0c) U.heap ∧ va_K (dC, dI) vwCl [(h0_0_0k, .int)] U ∧ va_D (fun _ => True) (wd_c_X10_isRising h0 h0_0 h0_1 h0_2 h0_3 h0_4 h0_5 h0_0 h0_0_0 h0_0_f1 h0_0_f2 h0_0_f3 h0_0_0 h0_0_0k h0_0_0c))) (va_Qi (fun (r : Int32) (u : Unit) => (r = 0) ∨ (r = 1)) (fun (u : Unit) t => va_P (dC, dI) vwCl (wd_c_X10_isRising h0 h0_0 h0_1 h0_2 h0_3 h0_4 h0_5 h0_0 h0_0_0 h0_0_f1 h0_0_f2 h0_0_f3 h0_0_0 h0_0_0k h0_0_0c) t.heap ∧ va_K (dC, dI) vwCl [] t ∧ va_D (va_A (wd_c_X10_isRising h0 h0_0 h0_1 h0_2 h0_3 h0_4 h0_5 h0_0 h0_0_0 h0_0_f1 h0_0_f2 h0_0_f3 h0_0_0 h0_0_0k h0_0_0c) sz) (wd_c_X10_isRising h0 h0_0 h0_1 h0_2 h0_3 h0_4 h0_5 h0_0 h0_0_0 h0_0_f1 h0_0_f2 h0_0_f3 h0_0_0 h0_0_0k h0_0_0c)) (va_A (wd_c_X10_isRising h0 h0_0 h0_1 h0_2 h0_3 h0_4 h0_5 h0_0 h0_0_0 h0_0_f1 h0_0_f2 h0_0_f3 h0_0_0 h0_0_0k h0_0_0c) sz)) 0 0 (va_A (wd_c_X10_isRising h0 h0_0 h0_1 h0_2 h0_3 h0_4 h0_5 h0_0 h0_0_0 h0_0_f1 h0_0_f2 h0_0_f3 h0_0_0 h0_0_0k h0_0_0c) sz) := by
  refine Met.ofW (cc := cX10_isRising) (maxL := 3) (ret := (some .boolean)) (by decide +kernel) rfl ?_
  intro p e s m args below meth c s₁ B hml hv
  obtain ⟨rfl, hsz, hP, hK, hD0⟩ := hv
  have hx := B.exec
  have hb := B.bytes
  have hr := B.returns
  have hts := atoms_spec (ws := wf_c_X10_isRising) B.pre
  have hown : s.vm.findClass RX10 = some m.cls := findClass_of_methodNamed B.named
  have hlocks := B.notSynchronized
  subst hsz
  have hD := hD0.self (sz := s.heap.size)
  generalize hAe : va_A (wd_c_X10_isRising h0 h0_0 h0_1 h0_2 h0_3 h0_4 h0_5 h0_0 h0_0_0 h0_0_f1 h0_0_f2 h0_0_f3 h0_0_0 h0_0_0k h0_0_0c) s.heap.size = A at hD ⊢
  have hA : ∀ q : Nat, s.heap.size ≤ q → A q := fun q h => by rw [← hAe]; exact Or.inr h
  have hP : va_P (dC, dI) vwCl (wd_c_X10_isRising h0 h0_0 h0_1 h0_2 h0_3 h0_4 h0_5 h0_0 h0_0_0 h0_0_f1 h0_0_f2 h0_0_f3 h0_0_0 h0_0_0k h0_0_0c) s.heap := hP
  have hl := lv_entry ([.ref h0, .int p1]) (n := 3) (Nat.le_of_ble_eq_true rfl)
  rw [lg_entry_eq]
  generalize (lg_sl ([.ref h0, .int p1]) ++ List.replicate (3 - (lg_sl ([.ref h0, .int p1])).length) Slot.unset).toArray = ls at hl ⊢
  have hl : lv_has ls 3 [(0, .ref h0), (1, .int p1)] := hl
  obtain ⟨H, hHe⟩ : ∃ H : Heap, s.heap = H := ⟨_, rfl⟩
  have hS : va_S A s.heap H [] := by rw [hHe]; exact va_S.rf
  have hP : va_P (dC, dI) vwCl (wd_c_X10_isRising h0 h0_0 h0_1 h0_2 h0_3 h0_4 h0_5 h0_0 h0_0_0 h0_0_f1 h0_0_f2 h0_0_f3 h0_0_0 h0_0_0k h0_0_0c) H := by rw [← hHe]; exact hP
  rw [hHe]
  refine lv_aload_n hx hb dX10_isRising_0 rfl (lv_at hl 0 rfl) ?_
  as_aux_lemma =>
  refine va_get (D := (dC, dI)) (ci := 10) (v := .ref h0_0) (C := RX10) (T := TX10) (N := 6) hx hb hts iw_c_X10_isRising_X10 hown hK hP 0 rfl rfl 0 (by decide +kernel) (hts (.fieldLink RX10 9 "BuoyVote$Waters" "told" "LBuoyVote$Borough;") (List.mem_of_getElem? (i := 1) rfl)) (fun _ h9 => h9) rfl dX10_isRising_1 ?_
  obtain ⟨hPc, hDc, hFc, hqc⟩ := cl_cut (wc := (wd_c_X0_tideHours h0_0 h0_0_0 h0_0_f1 h0_0_f2 h0_0_f3 h0_0_0 h0_0_0k h0_0_0c)) hP hD hS hA [1, 2] (by decide +kernel) rfl
  have hKc := hK.sub (tys' := [(h0_0_0k, .int)]) [0] rfl
  have hrv := va_recv hKc hPc (ci := 0) (q0 := 0) rfl rfl
  refine va_calli (va_runV (As := []) (rest := []) ⟨hx, hb, hml, hown, hts⟩ (c_X0_tideHours l dC dI H.size h0_0 h0_0_0 h0_0_f1 h0_0_f2 h0_0_f3 h0_0_0k h0_0_0c g_h0_0_f1 g_h0_0_f2 g_h0_0_f3 a_h0_0_0c) (cwV 0 hts gf_c_X10_isRising_c_X0_tideHours rfl rfl rfl mdV_X0_tideHours ⟨Nat.le_of_ble_eq_true rfl, Nat.le_of_ble_eq_true rfl⟩) ⟨fun a U g mk q => by obtain ⟨q0, q1, qP, qK, qD⟩ := q; exact ⟨q0, q1, qP, va_K.moved (u := U) (U := U.calling g mk a) (Vm.Alike.refl U.vm) qK, qD⟩, hrv, fun U hU hW => ⟨rfl, by rw [hU], by rw [hU]; exact hPc, va_K.moved hW.alike hKc, hDc.weaken (fun _ _ _ _ => trivial)⟩⟩ rfl rfl hl.1 rfl (lv_room (Nat.le_of_ble_eq_true rfl)) dX10_isRising_4 ⟨Nat.le_of_ble_eq_true rfl, Nat.le_of_ble_eq_true rfl⟩) hS (fun q _ h => hFc q h) hFc (fun r_1 u t H1 locs ht hvm hw hB hz1 hk1 hS => ?_)
  obtain ⟨hP1, hK1, hD1⟩ := hB
  rw [ht] at hP1
  obtain ⟨hP, hD⟩ := cl_put (w1 := (wd_c_X0_tideHours h0_0 h0_0_0 h0_0_f1 h0_0_f2 h0_0_f3 h0_0_0 h0_0_0k h0_0_0c)) (nw := (wd_c_X10_isRising h0 h0_0 h0_1 h0_2 h0_3 h0_4 h0_5 h0_0 h0_0_0 h0_0_f1 h0_0_f2 h0_0_f3 h0_0_0 h0_0_0k h0_0_0c)) hP hD [1, 2] [0, 3, 4] 3 rfl hqc (by decide +kernel) rfl hk1 hFc hP1 hD1
  generalize H1 = H at hP hS ⊢
  as_aux_lemma =>
  have h_2 := hw
  refine lv_istore_n (lv' := [(2, .int r_1), (0, .ref h0), (1, .int p1)]) hx hb dX10_isRising_7 rfl hl (Nat.le_of_ble_eq_true rfl) rfl (fun ls hl => ?_)
  refine lv_iload_n hx hb dX10_isRising_8 rfl (lv_at hl 0 rfl) ?_
  refine lv_if_le (tgt := 25) hx hb dX10_isRising_9 rfl (fun c_3 => ?_) (fun c_3 => ?_)
  · have g_4 : RG r_1 (-1) 0 := RG_le1 h_2 (RG_k 0 0 rfl) c_3 (by decide +kernel)
    refine lv_iconst (v := 0) hx hb dX10_isRising_25 kc_iconst_0 ?_
    have hK9 := hK.sub (tys' := []) [] rfl
    exact W.zret (v := 0) hx hb hr rfl (fun t ht hW => ⟨⟨0, (), rfl, (Or.inl rfl), by rw [ht]; exact hP, va_K.moved hW.alike hK9, hD⟩, hS.F ht⟩) hS.2.2 dX10_isRising_26
  · have d_5 := Int32.not_le.mp c_3
    have g_6 : RG r_1 1 99 := RG_lt2 (RG_k 0 0 rfl) h_2 d_5 (by decide +kernel)
    refine lv_iload_n hx hb dX10_isRising_12 rfl (lv_at hl 2 rfl) ?_
    refine lv_iconst (v := 2) hx hb dX10_isRising_13 kc_iconst_2 ?_
    refine lv_iload_n hx hb dX10_isRising_14 rfl (lv_at hl 0 rfl) ?_
    refine lv_imul hx hb dX10_isRising_15 ?_
    as_aux_lemma =>
    refine lv_topi (fun x_7 ex_7 => ?_)
    have g_8 : RG x_7 2 198 := RG_mulc (RG_com ex_7) (q := 2) rfl g_6 (by decide +kernel)
    refine lv_irem hx hb dX10_isRising_16 (RG_ne0 g_8 (by decide +kernel)) ?_
    refine lv_topi (fun x_9 ex_9 => ?_)
    have g_10 : RG x_9 0 197 := RG_rem ex_9 g_p1 g_8 (by decide +kernel)
    refine lv_iload_n hx hb dX10_isRising_17 rfl (lv_at hl 0 rfl) ?_
    refine lv_icmp_ge (tgt := 25) hx hb dX10_isRising_18 rfl (fun c_11 => ?_) (fun c_11 => ?_)
    · have g_12 : RG x_9 1 197 := RG_le2 g_6 g_10 c_11 (by decide +kernel)
      refine lv_iconst (v := 0) hx hb dX10_isRising_25 kc_iconst_0 ?_
      have hK9 := hK.sub (tys' := []) [] rfl
      exact W.zret (v := 0) hx hb hr rfl (fun t ht hW => ⟨⟨0, (), rfl, (Or.inl rfl), by rw [ht]; exact hP, va_K.moved hW.alike hK9, hD⟩, hS.F ht⟩) hS.2.2 dX10_isRising_26
    · have d_13 := Int32.not_le.mp c_11
      have g_14 : RG x_9 0 98 := RG_lt1 g_10 g_6 d_13 (by decide +kernel)
      refine lv_iconst (v := 1) hx hb dX10_isRising_21 kc_iconst_1 ?_
      as_aux_lemma =>
      refine lv_goto (tgt := 26) hx hb dX10_isRising_22 rfl ?_
      have hK9 := hK.sub (tys' := []) [] rfl
      exact W.zret (v := 1) hx hb hr rfl (fun t ht hW => ⟨⟨1, (), rfl, (Or.inr rfl), by rw [ht]; exact hP, va_K.moved hW.alike hK9, hD⟩, hS.F ht⟩) hS.2.2 dX10_isRising_26
noncomputable def wd_c_X11_rule (a0 : Nat) (a1 : Nat) (a2 : Nat) (a3 : Nat) (a4 : Nat) (a5 : Nat) (a6 : Int32) (a7 : Nat) (a8 : Nat) (a9 : Nat) (a10 : Nat) (a11 : Nat) (a12 : Nat) (a13 : Nat) (a14 : Nat) (a15 : Nat) (a16 : Int64) (a17 : Nat) (a18 : Nat) (a19 : Int32) (a20 : Int32) (a21 : Int32) (a22 : Nat) (a23 : Int32) (a24 : Int32) (a25 : Int32) (a26 : Int32) (a27 : Nat) (a28 : Nat) (a29 : Nat) (a30 : Nat) (a31 : Nat) (a32 : Nat) (a33 : Nat) (a34 : Nat) (a35 : Nat) (a36 : Nat) (a37 : ClassId) (a38 : Nat → Int32) (a39 : Nat) (a40 : Nat) (a41 : Nat) (a42 : Nat) (a43 : Nat) (a44 : Nat) (a45 : Nat) : va_W := [(a0, .inr (11, [.ref a1, .ref a2, .ref a3, .ref a4, .ref a5, .int a6, .ref a7, .ref a8, .ref a9, .ref a10, .ref a11, .ref a12, .ref a13, .ref a14, .ref a15, .long a16])), (a17, .inr (0, [.ref a18, .int a19, .int a20, .int a21])), (a22, .inr (7, [.int a23, .int a24, .int a25, .int a26, .ref a27, .ref a28, .ref a29, .ref a30, .ref a31, .ref a32, .ref a33, .ref a34, .ref a35])), (a36, .inl (a37, 80, .inl a38)), (a39, .inr (10, [.ref a40, .ref a41, .ref a42, .ref a43, .ref a44, .ref a45]))]
noncomputable def wf_c_X11_rule : List Cond := List.cons (.code yX11_rule cX11_rule 2 (some .int)) (@HAppend.hAppend (List Cond) (List Cond) (List Cond) _ (@HAppend.hAppend (List Cond) (List Cond) (List Cond) _ (@HAppend.hAppend (List Cond) (List Cond) (List Cond) _ (@HAppend.hAppend (List Cond) (List Cond) (List Cond) _ [.methodLink RX11 140 yX11_hasBorough, .instanceMethod yX11_hasBorough, .selects RX11 yX11_hasBorough yX11_hasBorough, .initialized RX11, .code yX11_hasBorough cX11_hasBorough 1 (some .boolean), .fieldLink RX11 19 "BuoyVote" "told" "LBuoyVote$Borough;", .fieldLink RX11 275 "BuoyVote$Borough" "buoys" "I", .fieldLink RX11 52 "BuoyVote" "now" "LBuoyVote$Sea;", .fieldLink RX11 144 "BuoyVote$Sea" "wind" "I", .fieldLink RX11 147 "BuoyVote$Sea" "way" "I", .methodLink RX11 150 yX0_tideHours, .instanceMethod yX0_tideHours, .selects RX0 yX0_tideHours yX0_tideHours, .initialized RX0, .code yX0_tideHours cX0_tideHours 1 (some .int), .fieldLink RX0 11 "BuoyVote$Borough" "values" "[I", .methodLink RX11 153 yX0_countHours, .instanceMethod yX0_countHours, .selects RX0 yX0_countHours yX0_countHours, .code yX0_countHours cX0_countHours 1 (some .int), .fieldLink RX11 45 "BuoyVote" "waters" "LBuoyVote$Waters;", .fieldLink RX11 156 "BuoyVote$Sea" "hour" "I", .methodLink RX11 159 yX10_isRising, .instanceMethod yX10_isRising, .selects RX10 yX10_isRising yX10_isRising, .initialized RX10, .code yX10_isRising cX10_isRising 3 (some .boolean), .fieldLink RX10 9 "BuoyVote$Waters" "told" "LBuoyVote$Borough;", .methodLink RX10 32 yX0_tideHours] wsX110) wsX00) wsX70) wsX100)
theorem iw_c_X11_rule_X11 : ∀ w ∈ wsX110, w ∈ wf_c_X11_rule := fun w h => List.mem_cons_of_mem _ (List.mem_append_left _ (List.mem_append_left _ (List.mem_append_left _ (List.mem_append_right _ h))))
theorem iw_c_X11_rule_X0 : ∀ w ∈ wsX00, w ∈ wf_c_X11_rule := fun w h => List.mem_cons_of_mem _ (List.mem_append_left _ (List.mem_append_left _ (List.mem_append_right _ h)))
theorem iw_c_X11_rule_X7 : ∀ w ∈ wsX70, w ∈ wf_c_X11_rule := fun w h => List.mem_cons_of_mem _ (List.mem_append_left _ (List.mem_append_right _ h))
theorem iw_c_X11_rule_X10 : ∀ w ∈ wsX100, w ∈ wf_c_X11_rule := fun w h => List.mem_cons_of_mem _ (List.mem_append_right _ h)
set_option maxRecDepth 20000 in
theorem gf_c_X11_rule_c_X11_hasBorough : GoodIn wf_c_X11_rule (wsV RX11 140 RX11 yX11_hasBorough wf_c_X11_hasBorough) := goodIn_app (gi_l [1, 2, 3, 4] rfl rfl) (gi_cons (j := 5) rfl rfl (goodIn_app (goodIn_app (gi_l [6, 7] rfl rfl) (goodIn_sub iw_c_X11_rule_X11 gw_X11)) (goodIn_sub iw_c_X11_rule_X0 gw_X0)))
set_option maxRecDepth 20000 in
theorem gf_c_X11_rule_c_X0_tideHours : GoodIn wf_c_X11_rule (wsV RX11 150 RX0 yX0_tideHours wf_c_X0_tideHours) := goodIn_app (gi_l [11, 12, 13, 14] rfl rfl) (gi_cons (j := 15) rfl rfl (goodIn_app (gi_l [16] rfl rfl) (goodIn_sub iw_c_X11_rule_X0 gw_X0)))
set_option maxRecDepth 20000 in
theorem gf_c_X11_rule_c_X0_countHours : GoodIn wf_c_X11_rule (wsV RX11 153 RX0 yX0_countHours wf_c_X0_countHours) := goodIn_app (gi_l [17, 18, 19, 14] rfl rfl) (gi_cons (j := 20) rfl rfl (goodIn_app (gi_l [16] rfl rfl) (goodIn_sub iw_c_X11_rule_X0 gw_X0)))
set_option maxRecDepth 20000 in
theorem gf_c_X11_rule_c_X10_isRising : GoodIn wf_c_X11_rule (wsV RX11 159 RX10 yX10_isRising wf_c_X10_isRising) := goodIn_app (gi_l [23, 24, 25, 26] rfl rfl) (gi_cons (j := 27) rfl rfl (goodIn_app (goodIn_app (gi_l [28, 29, 12, 13, 14, 15, 16] rfl rfl) (goodIn_sub iw_c_X11_rule_X10 gw_X10)) (goodIn_sub iw_c_X11_rule_X0 gw_X0)))
set_option maxHeartbeats 4000000 in
set_option maxRecDepth 100000 in
theorem c_X11_rule (l : Launch) (dC : Nat → ClassId) (dI : Nat → Nat → Nat) (sz : Nat) (h0 : Nat) (p1 : Int32) (h0_0 : Nat) (h0_1 : Nat) (h0_2 : Nat) (h0_3 : Nat) (h0_4 : Nat) (h0_f5 : Int32) (h0_6 : Nat) (h0_7 : Nat) (h0_8 : Nat) (h0_9 : Nat) (h0_10 : Nat) (h0_11 : Nat) (h0_12 : Nat) (h0_13 : Nat) (h0_14 : Nat) (h0_f15 : Int64) (h0_1_0 : Nat) (h0_1_f1 : Int32) (h0_1_f2 : Int32) (h0_1_f3 : Int32) (h0_7_f0 : Int32) (h0_7_f1 : Int32) (h0_7_f2 : Int32) (h0_7_f3 : Int32) (h0_7_4 : Nat) (h0_7_5 : Nat) (h0_7_6 : Nat) (h0_7_7 : Nat) (h0_7_8 : Nat) (h0_7_9 : Nat) (h0_7_10 : Nat) (h0_7_11 : Nat) (h0_7_12 : Nat) (h0_1_0k : ClassId) (h0_1_0c : Nat → Int32) (h0_6_2 : Nat) (h0_6_3 : Nat) (h0_6_4 : Nat) (h0_6_5 : Nat) (g_h0_f5 : RG h0_f5 0 4) (g_h0_1_f1 : RG h0_1_f1 0 8) (g_h0_1_f2 : RG h0_1_f2 0 3) (g_h0_1_f3 : RG h0_1_f3 0 1) (g_h0_7_f2 : RG h0_7_f2 0 9999) (g_h0_7_f3 : RG h0_7_f3 0 9999) (a_h0_1_0c : AI h0_1_0c (-1) 99) : Met l yX11_rule wf_c_X11_rule ({ frames := 2, cells := 0, slots := 0, locals := 42 }) (va_Pc [.ref h0, .int p1] (fun U => U.heap.size = sz ∧ va_P (dC, dI) vwCl (wd_c_X11_rule h0 h0_0 h0_1 h0_2 h0_3 h0_4 h0_f5 h0_6 h0_7 h0_8 h0_9 h0_10 h0_11 h0_12 h0_13 h0_14 h0_f15 h0_1 h0_1_0 h0_1_f1 h0_1_f2 h0_1_f3 h0_7 h0_7_f0 h0_7_f1 h0_7_f2 h0_7_f3 h0_7_4 h0_7_5 h0_7_6 h0_7_7 h0_7_8 h0_7_9 h0_7_10 h0_7_11 h0_7_12 h0_1_0 h0_1_0k h0_1_0c h0_6 h0_1 h0_3 h0_6_2 h0_6_3 h0_6_4 h0_6_5) U.heap ∧ va_K (dC, dI) vwCl [(h0_1_0k, .int)] U ∧ va_D (fun _ => True) (wd_c_X11_rule h0 h0_0 h0_1 h0_2 h0_3 h0_4 h0_f5 h0_6 h0_7 h0_8 h0_9 h0_10 h0_11 h0_12 h0_13 h0_14 h0_f15 h0_1 h0_1_0 h0_1_f1 h0_1_f2 h0_1_f3 h0_7 h0_7_f0 h0_7_f1 h0_7_f2 h0_7_f3 h0_7_4 h0_7_5 h0_7_6 h0_7_7 h0_7_8 h0_7_9 h0_7_10 h0_7_11 h0_7_12 h0_1_0 h0_1_0k h0_1_0c h0_6 h0_1 h0_3 h0_6_2 h0_6_3 h0_6_4 h0_6_5))) (va_Qi (fun (r : Int32) (u : Unit) => (r = (-1)) ∨ (RG r (-2147483648) 2147483647 ∧ RG h0_1_f1 1 8 ∧ RG p1 0 3) ∨ (r = 0 ∧ RG h0_1_f1 1 8 ∧ RG p1 4 4) ∨ (r = 1 ∧ RG h0_1_f1 1 8 ∧ RG p1 4 4)) (fun (u : Unit) t => va_P (dC, dI) vwCl (wd_c_X11_rule h0 h0_0 h0_1 h0_2 h0_3 h0_4 h0_f5 h0_6 h0_7 h0_8 h0_9 h0_10 h0_11 h0_12 h0_13 h0_14 h0_f15 h0_1 h0_1_0 h0_1_f1 h0_1_f2 h0_1_f3 h0_7 h0_7_f0 h0_7_f1 h0_7_f2 h0_7_f3 h0_7_4 h0_7_5 h0_7_6 h0_7_7 h0_7_8 h0_7_9 h0_7_10 h0_7_11 h0_7_12 h0_1_0 h0_1_0k h0_1_0c h0_6 h0_1 h0_3 h0_6_2 h0_6_3 h0_6_4 h0_6_5) t.heap ∧ va_K (dC, dI) vwCl [] t ∧ va_D (va_A (wd_c_X11_rule h0 h0_0 h0_1 h0_2 h0_3 h0_4 h0_f5 h0_6 h0_7 h0_8 h0_9 h0_10 h0_11 h0_12 h0_13 h0_14 h0_f15 h0_1 h0_1_0 h0_1_f1 h0_1_f2 h0_1_f3 h0_7 h0_7_f0 h0_7_f1 h0_7_f2 h0_7_f3 h0_7_4 h0_7_5 h0_7_6 h0_7_7 h0_7_8 h0_7_9 h0_7_10 h0_7_11 h0_7_12 h0_1_0 h0_1_0k h0_1_0c h0_6 h0_1 h0_3 h0_6_2 h0_6_3 h0_6_4 h0_6_5) sz) (wd_c_X11_rule h0 h0_0 h0_1 h0_2 h0_3 h0_4 h0_f5 h0_6 h0_7 h0_8 h0_9 h0_10 h0_11 h0_12 h0_13 h0_14 h0_f15 h0_1 h0_1_0 h0_1_f1 h0_1_f2 h0_1_f3 h0_7 h0_7_f0 h0_7_f1 h0_7_f2 h0_7_f3 h0_7_4 h0_7_5 h0_7_6 h0_7_7 h0_7_8 h0_7_9 h0_7_10 h0_7_11 h0_7_12 h0_1_0 h0_1_0k h0_1_0c h0_6 h0_1 h0_3 h0_6_2 h0_6_3 h0_6_4 h0_6_5)) (va_A (wd_c_X11_rule h0 h0_0 h0_1 h0_2 h0_3 h0_4 h0_f5 h0_6 h0_7 h0_8 h0_9 h0_10 h0_11 h0_12 h0_13 h0_14 h0_f15 h0_1 h0_1_0 h0_1_f1 h0_1_f2 h0_1_f3 h0_7 h0_7_f0 h0_7_f1 h0_7_f2 h0_7_f3 h0_7_4 h0_7_5 h0_7_6 h0_7_7 h0_7_8 h0_7_9 h0_7_10 h0_7_11 h0_7_12 h0_1_0 h0_1_0k h0_1_0c h0_6 h0_1 h0_3 h0_6_2 h0_6_3 h0_6_4 h0_6_5) sz)) 0 0 (va_A (wd_c_X11_rule h0 h0_0 h0_1 h0_2 h0_3 h0_4 h0_f5 h0_6 h0_7 h0_8 h0_9 h0_10 h0_11 h0_12 h0_13 h0_14 h0_f15 h0_1 h0_1_0 h0_1_f1 h0_1_f2 h0_1_f3 h0_7 h0_7_f0 h0_7_f1 h0_7_f2 h0_7_f3 h0_7_4 h0_7_5 h0_7_6 h0_7_7 h0_7_8 h0_7_9 h0_7_10 h0_7_11 h0_7_12 h0_1_0 h0_1_0k h0_1_0c h0_6 h0_1 h0_3 h0_6_2 h0_6_3 h0_6_4 h0_6_5) sz) := by
  refine Met.ofW (cc := cX11_rule) (maxL := 2) (ret := (some .int)) (by decide +kernel) rfl ?_
  intro p e s m args below meth c s₁ B hml hv
  obtain ⟨rfl, hsz, hP, hK, hD0⟩ := hv
  have hx := B.exec
  have hb := B.bytes
  have hr := B.returns
  have hts := atoms_spec (ws := wf_c_X11_rule) B.pre
  have hown : s.vm.findClass RX11 = some m.cls := findClass_of_methodNamed B.named
  have hlocks := B.notSynchronized
  subst hsz
  have hD := hD0.self (sz := s.heap.size)
  generalize hAe : va_A (wd_c_X11_rule h0 h0_0 h0_1 h0_2 h0_3 h0_4 h0_f5 h0_6 h0_7 h0_8 h0_9 h0_10 h0_11 h0_12 h0_13 h0_14 h0_f15 h0_1 h0_1_0 h0_1_f1 h0_1_f2 h0_1_f3 h0_7 h0_7_f0 h0_7_f1 h0_7_f2 h0_7_f3 h0_7_4 h0_7_5 h0_7_6 h0_7_7 h0_7_8 h0_7_9 h0_7_10 h0_7_11 h0_7_12 h0_1_0 h0_1_0k h0_1_0c h0_6 h0_1 h0_3 h0_6_2 h0_6_3 h0_6_4 h0_6_5) s.heap.size = A at hD ⊢
  have hA : ∀ q : Nat, s.heap.size ≤ q → A q := fun q h => by rw [← hAe]; exact Or.inr h
  have hP : va_P (dC, dI) vwCl (wd_c_X11_rule h0 h0_0 h0_1 h0_2 h0_3 h0_4 h0_f5 h0_6 h0_7 h0_8 h0_9 h0_10 h0_11 h0_12 h0_13 h0_14 h0_f15 h0_1 h0_1_0 h0_1_f1 h0_1_f2 h0_1_f3 h0_7 h0_7_f0 h0_7_f1 h0_7_f2 h0_7_f3 h0_7_4 h0_7_5 h0_7_6 h0_7_7 h0_7_8 h0_7_9 h0_7_10 h0_7_11 h0_7_12 h0_1_0 h0_1_0k h0_1_0c h0_6 h0_1 h0_3 h0_6_2 h0_6_3 h0_6_4 h0_6_5) s.heap := hP
  have hl := lv_entry ([.ref h0, .int p1]) (n := 2) (Nat.le_of_ble_eq_true rfl)
  rw [lg_entry_eq]
  generalize (lg_sl ([.ref h0, .int p1]) ++ List.replicate (2 - (lg_sl ([.ref h0, .int p1])).length) Slot.unset).toArray = ls at hl ⊢
  have hl : lv_has ls 2 [(0, .ref h0), (1, .int p1)] := hl
  obtain ⟨H, hHe⟩ : ∃ H : Heap, s.heap = H := ⟨_, rfl⟩
  have hS : va_S A s.heap H [] := by rw [hHe]; exact va_S.rf
  have hP : va_P (dC, dI) vwCl (wd_c_X11_rule h0 h0_0 h0_1 h0_2 h0_3 h0_4 h0_f5 h0_6 h0_7 h0_8 h0_9 h0_10 h0_11 h0_12 h0_13 h0_14 h0_f15 h0_1 h0_1_0 h0_1_f1 h0_1_f2 h0_1_f3 h0_7 h0_7_f0 h0_7_f1 h0_7_f2 h0_7_f3 h0_7_4 h0_7_5 h0_7_6 h0_7_7 h0_7_8 h0_7_9 h0_7_10 h0_7_11 h0_7_12 h0_1_0 h0_1_0k h0_1_0c h0_6 h0_1 h0_3 h0_6_2 h0_6_3 h0_6_4 h0_6_5) H := by rw [← hHe]; exact hP
  rw [hHe]
  refine lv_aload_n hx hb dX11_rule_0 rfl (lv_at hl 0 rfl) ?_
  as_aux_lemma =>
  obtain ⟨hPc, hDc, hFc, hqc⟩ := cl_cut (wc := (wd_c_X11_hasBorough h0 h0_0 h0_1 h0_2 h0_3 h0_4 h0_f5 h0_6 h0_7 h0_8 h0_9 h0_10 h0_11 h0_12 h0_13 h0_14 h0_f15 h0_1 h0_1_0 h0_1_f1 h0_1_f2 h0_1_f3)) hP hD hS hA [0, 1] (by decide +kernel) rfl
  have hKc := hK.sub (tys' := []) [] rfl
  have hrv := va_recv hKc hPc (ci := 11) (q0 := 0) rfl rfl
  refine va_calli (va_runV (As := []) (rest := []) ⟨hx, hb, hml, hown, hts⟩ (c_X11_hasBorough l dC dI H.size h0 h0_0 h0_1 h0_2 h0_3 h0_4 h0_f5 h0_6 h0_7 h0_8 h0_9 h0_10 h0_11 h0_12 h0_13 h0_14 h0_f15 h0_1_0 h0_1_f1 h0_1_f2 h0_1_f3 g_h0_f5 g_h0_1_f1 g_h0_1_f2 g_h0_1_f3) (cwV 0 hts gf_c_X11_rule_c_X11_hasBorough rfl rfl rfl mdV_X11_hasBorough ⟨Nat.le_of_ble_eq_true rfl, Nat.le_of_ble_eq_true rfl⟩) ⟨fun a U g mk q => by obtain ⟨q0, q1, qP, qK, qD⟩ := q; exact ⟨q0, q1, qP, va_K.moved (u := U) (U := U.calling g mk a) (Vm.Alike.refl U.vm) qK, qD⟩, hrv, fun U hU hW => ⟨rfl, by rw [hU], by rw [hU]; exact hPc, va_K.moved hW.alike hKc, hDc.weaken (fun _ _ _ _ => trivial)⟩⟩ rfl rfl hl.1 rfl (lv_room (Nat.le_of_ble_eq_true rfl)) dX11_rule_1 ⟨Nat.le_of_ble_eq_true rfl, Nat.le_of_ble_eq_true rfl⟩) hS (fun q _ h => hFc q h) hFc (fun r_1 u t H1 locs ht hvm hw hB hz1 hk1 hS => ?_)
  obtain ⟨hP1, hK1, hD1⟩ := hB
  rw [ht] at hP1
  obtain ⟨hP, hD⟩ := cl_put (w1 := (wd_c_X11_hasBorough h0 h0_0 h0_1 h0_2 h0_3 h0_4 h0_f5 h0_6 h0_7 h0_8 h0_9 h0_10 h0_11 h0_12 h0_13 h0_14 h0_f15 h0_1 h0_1_0 h0_1_f1 h0_1_f2 h0_1_f3)) (nw := (wd_c_X11_rule h0 h0_0 h0_1 h0_2 h0_3 h0_4 h0_f5 h0_6 h0_7 h0_8 h0_9 h0_10 h0_11 h0_12 h0_13 h0_14 h0_f15 h0_1 h0_1_0 h0_1_f1 h0_1_f2 h0_1_f3 h0_7 h0_7_f0 h0_7_f1 h0_7_f2 h0_7_f3 h0_7_4 h0_7_5 h0_7_6 h0_7_7 h0_7_8 h0_7_9 h0_7_10 h0_7_11 h0_7_12 h0_1_0 h0_1_0k h0_1_0c h0_6 h0_1 h0_3 h0_6_2 h0_6_3 h0_6_4 h0_6_5)) hP hD [0, 1] [5, 6, 2, 3, 4] 5 rfl hqc (by decide +kernel) rfl hk1 hFc hP1 hD1
  generalize H1 = H at hP hS ⊢
  as_aux_lemma =>
  rcases hw with ⟨h_2, h_3⟩ | ⟨h_4, h_5⟩
  · rw [h_2]
    refine lv_if_ne (tgt := 9) hx hb dX11_rule_4 rfl (fun c_6 => absurd c_6 (by decide +kernel)) (fun c_6 => ?_)
    refine lv_iconst (v := (-1)) hx hb dX11_rule_7 kc_iconst_m1 ?_
    have hK9 := hK.sub (tys' := []) [] rfl
    exact W.iret (v := (-1)) hx hb hr (fun t ht hW => ⟨⟨(-1), (), rfl, (Or.inl rfl), by rw [ht]; exact hP, va_K.moved hW.alike hK9, hD⟩, hS.F ht⟩) hS.2.2 dX11_rule_8
  · rw [h_4]
    refine lv_if_ne (tgt := 9) hx hb dX11_rule_4 rfl (fun c_7 => ?_) (fun c_7 => absurd c_7 (by decide +kernel))
    refine lv_iload_n hx hb dX11_rule_9 rfl (lv_at hl 1 rfl) ?_
    by_cases c_8 : p1 = 0
    · have hsw : p1.toInt = 0 := by rw [c_8]; rfl
      refine lv_tableIn (off := 34) (tgt := 44) hx hb dX11_rule_10 (by rw [hsw]; decide) (by rw [hsw]; decide) (by rw [hsw]; decide) (by decide +kernel) ?_
      have g_9 : RG p1 0 0 := RG_k _ _ hsw
      refine lv_aload_n hx hb dX11_rule_44 rfl (lv_at hl 0 rfl) ?_
      as_aux_lemma =>
      refine va_get (D := (dC, dI)) (ci := 11) (v := .ref h0_7) (C := RX11) (T := TX11) (N := 16) hx hb hts iw_c_X11_rule_X11 hown hK hP 0 rfl rfl 7 (by decide +kernel) (hts (.fieldLink RX11 52 "BuoyVote" "now" "LBuoyVote$Sea;") (List.mem_of_getElem? (i := 8) rfl)) (fun _ h9 => h9) rfl dX11_rule_45 ?_
      refine va_get (D := (dC, dI)) (ci := 7) (v := .int h0_7_f0) (C := RX7) (T := TX7) (N := 13) hx hb hts iw_c_X11_rule_X7 hown hK hP 2 rfl rfl 0 (by decide +kernel) (hts (.fieldLink RX11 144 "BuoyVote$Sea" "wind" "I") (List.mem_of_getElem? (i := 9) rfl)) (fun _ h9 => h9) rfl dX11_rule_48 ?_
      have hK9 := hK.sub (tys' := []) [] rfl
      exact W.iret (v := h0_7_f0) hx hb hr (fun t ht hW => ⟨⟨h0_7_f0, (), rfl, (Or.inr (Or.inl ⟨(RG_any h0_7_f0), h_5, (RG_w g_9 (by decide +kernel))⟩)), by rw [ht]; exact hP, va_K.moved hW.alike hK9, hD⟩, hS.F ht⟩) hS.2.2 dX11_rule_51
    by_cases c_10 : p1 = 1
    · have hsw : p1.toInt = 1 := by rw [c_10]; rfl
      refine lv_tableIn (off := 42) (tgt := 52) hx hb dX11_rule_10 (by rw [hsw]; decide) (by rw [hsw]; decide) (by rw [hsw]; decide) (by decide +kernel) ?_
      have g_11 : RG p1 1 1 := RG_k _ _ hsw
      refine lv_aload_n hx hb dX11_rule_52 rfl (lv_at hl 0 rfl) ?_
      refine va_get (D := (dC, dI)) (ci := 11) (v := .ref h0_7) (C := RX11) (T := TX11) (N := 16) hx hb hts iw_c_X11_rule_X11 hown hK hP 0 rfl rfl 7 (by decide +kernel) (hts (.fieldLink RX11 52 "BuoyVote" "now" "LBuoyVote$Sea;") (List.mem_of_getElem? (i := 8) rfl)) (fun _ h9 => h9) rfl dX11_rule_53 ?_
      refine va_get (D := (dC, dI)) (ci := 7) (v := .int h0_7_f1) (C := RX7) (T := TX7) (N := 13) hx hb hts iw_c_X11_rule_X7 hown hK hP 2 rfl rfl 1 (by decide +kernel) (hts (.fieldLink RX11 147 "BuoyVote$Sea" "way" "I") (List.mem_of_getElem? (i := 10) rfl)) (fun _ h9 => h9) rfl dX11_rule_56 ?_
      have hK9 := hK.sub (tys' := []) [] rfl
      exact W.iret (v := h0_7_f1) hx hb hr (fun t ht hW => ⟨⟨h0_7_f1, (), rfl, (Or.inr (Or.inl ⟨(RG_any h0_7_f1), h_5, (RG_w g_11 (by decide +kernel))⟩)), by rw [ht]; exact hP, va_K.moved hW.alike hK9, hD⟩, hS.F ht⟩) hS.2.2 dX11_rule_59
    by_cases c_12 : p1 = 2
    · have hsw : p1.toInt = 2 := by rw [c_12]; rfl
      refine lv_tableIn (off := 50) (tgt := 60) hx hb dX11_rule_10 (by rw [hsw]; decide) (by rw [hsw]; decide) (by rw [hsw]; decide) (by decide +kernel) ?_
      as_aux_lemma =>
      have g_13 : RG p1 2 2 := RG_k _ _ hsw
      refine lv_aload_n hx hb dX11_rule_60 rfl (lv_at hl 0 rfl) ?_
      refine va_get (D := (dC, dI)) (ci := 11) (v := .ref h0_1) (C := RX11) (T := TX11) (N := 16) hx hb hts iw_c_X11_rule_X11 hown hK hP 0 rfl rfl 1 (by decide +kernel) (hts (.fieldLink RX11 19 "BuoyVote" "told" "LBuoyVote$Borough;") (List.mem_of_getElem? (i := 6) rfl)) (fun _ h9 => h9) rfl dX11_rule_61 ?_
      obtain ⟨hPc, hDc, hFc, hqc⟩ := cl_cut (wc := (wd_c_X0_tideHours h0_1 h0_1_0 h0_1_f1 h0_1_f2 h0_1_f3 h0_1_0 h0_1_0k h0_1_0c)) hP hD hS hA [1, 3] (by decide +kernel) rfl
      have hKc := hK.sub (tys' := [(h0_1_0k, .int)]) [0] rfl
      have hrv := va_recv hKc hPc (ci := 0) (q0 := 0) rfl rfl
      refine va_calli (va_runV (As := []) (rest := []) ⟨hx, hb, hml, hown, hts⟩ (c_X0_tideHours l dC dI H.size h0_1 h0_1_0 h0_1_f1 h0_1_f2 h0_1_f3 h0_1_0k h0_1_0c (RG_w h_5 (by decide +kernel)) g_h0_1_f2 g_h0_1_f3 a_h0_1_0c) (cwV 0 hts gf_c_X11_rule_c_X0_tideHours rfl rfl rfl mdV_X0_tideHours ⟨Nat.le_of_ble_eq_true rfl, Nat.le_of_ble_eq_true rfl⟩) ⟨fun a U g mk q => by obtain ⟨q0, q1, qP, qK, qD⟩ := q; exact ⟨q0, q1, qP, va_K.moved (u := U) (U := U.calling g mk a) (Vm.Alike.refl U.vm) qK, qD⟩, hrv, fun U hU hW => ⟨rfl, by rw [hU], by rw [hU]; exact hPc, va_K.moved hW.alike hKc, hDc.weaken (fun _ _ _ _ => trivial)⟩⟩ rfl rfl hl.1 rfl (lv_room (Nat.le_of_ble_eq_true rfl)) dX11_rule_64 ⟨Nat.le_of_ble_eq_true rfl, Nat.le_of_ble_eq_true rfl⟩) hS (fun q _ h => hFc q h) hFc (fun r_14 u t H1 locs ht hvm hw hB hz1 hk1 hS => ?_)
      obtain ⟨hP1, hK1, hD1⟩ := hB
      rw [ht] at hP1
      obtain ⟨hP, hD⟩ := cl_put (w1 := (wd_c_X0_tideHours h0_1 h0_1_0 h0_1_f1 h0_1_f2 h0_1_f3 h0_1_0 h0_1_0k h0_1_0c)) (nw := (wd_c_X11_rule h0 h0_0 h0_1 h0_2 h0_3 h0_4 h0_f5 h0_6 h0_7 h0_8 h0_9 h0_10 h0_11 h0_12 h0_13 h0_14 h0_f15 h0_1 h0_1_0 h0_1_f1 h0_1_f2 h0_1_f3 h0_7 h0_7_f0 h0_7_f1 h0_7_f2 h0_7_f3 h0_7_4 h0_7_5 h0_7_6 h0_7_7 h0_7_8 h0_7_9 h0_7_10 h0_7_11 h0_7_12 h0_1_0 h0_1_0k h0_1_0c h0_6 h0_1 h0_3 h0_6_2 h0_6_3 h0_6_4 h0_6_5)) hP hD [1, 3] [0, 5, 2, 6, 4] 5 rfl hqc (by decide +kernel) rfl hk1 hFc hP1 hD1
      generalize H1 = H at hP hS ⊢
      as_aux_lemma =>
      have h_15 := hw
      have hK9 := hK.sub (tys' := []) [] rfl
      exact W.iret (v := r_14) hx hb hr (fun t ht hW => ⟨⟨r_14, (), rfl, (Or.inr (Or.inl ⟨(RG_w h_15 (by decide +kernel)), h_5, (RG_w g_13 (by decide +kernel))⟩)), by rw [ht]; exact hP, va_K.moved hW.alike hK9, hD⟩, hS.F ht⟩) hS.2.2 dX11_rule_67
    by_cases c_16 : p1 = 3
    · have hsw : p1.toInt = 3 := by rw [c_16]; rfl
      refine lv_tableIn (off := 58) (tgt := 68) hx hb dX11_rule_10 (by rw [hsw]; decide) (by rw [hsw]; decide) (by rw [hsw]; decide) (by decide +kernel) ?_
      have g_17 : RG p1 3 3 := RG_k _ _ hsw
      refine lv_aload_n hx hb dX11_rule_68 rfl (lv_at hl 0 rfl) ?_
      refine va_get (D := (dC, dI)) (ci := 11) (v := .ref h0_1) (C := RX11) (T := TX11) (N := 16) hx hb hts iw_c_X11_rule_X11 hown hK hP 0 rfl rfl 1 (by decide +kernel) (hts (.fieldLink RX11 19 "BuoyVote" "told" "LBuoyVote$Borough;") (List.mem_of_getElem? (i := 6) rfl)) (fun _ h9 => h9) rfl dX11_rule_69 ?_
      obtain ⟨hPc, hDc, hFc, hqc⟩ := cl_cut (wc := (wd_c_X0_countHours h0_1 h0_1_0 h0_1_f1 h0_1_f2 h0_1_f3 h0_1_0 h0_1_0k h0_1_0c)) hP hD hS hA [1, 3] (by decide +kernel) rfl
      have hKc := hK.sub (tys' := [(h0_1_0k, .int)]) [0] rfl
      have hrv := va_recv hKc hPc (ci := 0) (q0 := 0) rfl rfl
      refine va_calli (va_runV (As := []) (rest := []) ⟨hx, hb, hml, hown, hts⟩ (c_X0_countHours l dC dI H.size h0_1 h0_1_0 h0_1_f1 h0_1_f2 h0_1_f3 h0_1_0k h0_1_0c (RG_w h_5 (by decide +kernel)) g_h0_1_f2 g_h0_1_f3 a_h0_1_0c) (cwV 0 hts gf_c_X11_rule_c_X0_countHours rfl rfl rfl mdV_X0_countHours ⟨Nat.le_of_ble_eq_true rfl, Nat.le_of_ble_eq_true rfl⟩) ⟨fun a U g mk q => by obtain ⟨q0, q1, qP, qK, qD⟩ := q; exact ⟨q0, q1, qP, va_K.moved (u := U) (U := U.calling g mk a) (Vm.Alike.refl U.vm) qK, qD⟩, hrv, fun U hU hW => ⟨rfl, by rw [hU], by rw [hU]; exact hPc, va_K.moved hW.alike hKc, hDc.weaken (fun _ _ _ _ => trivial)⟩⟩ rfl rfl hl.1 rfl (lv_room (Nat.le_of_ble_eq_true rfl)) dX11_rule_72 ⟨Nat.le_of_ble_eq_true rfl, Nat.le_of_ble_eq_true rfl⟩) hS (fun q _ h => hFc q h) hFc (fun r_18 u t H1 locs ht hvm hw hB hz1 hk1 hS => ?_)
      obtain ⟨hP1, hK1, hD1⟩ := hB
      rw [ht] at hP1
      obtain ⟨hP, hD⟩ := cl_put (w1 := (wd_c_X0_countHours h0_1 h0_1_0 h0_1_f1 h0_1_f2 h0_1_f3 h0_1_0 h0_1_0k h0_1_0c)) (nw := (wd_c_X11_rule h0 h0_0 h0_1 h0_2 h0_3 h0_4 h0_f5 h0_6 h0_7 h0_8 h0_9 h0_10 h0_11 h0_12 h0_13 h0_14 h0_f15 h0_1 h0_1_0 h0_1_f1 h0_1_f2 h0_1_f3 h0_7 h0_7_f0 h0_7_f1 h0_7_f2 h0_7_f3 h0_7_4 h0_7_5 h0_7_6 h0_7_7 h0_7_8 h0_7_9 h0_7_10 h0_7_11 h0_7_12 h0_1_0 h0_1_0k h0_1_0c h0_6 h0_1 h0_3 h0_6_2 h0_6_3 h0_6_4 h0_6_5)) hP hD [1, 3] [0, 5, 2, 6, 4] 5 rfl hqc (by decide +kernel) rfl hk1 hFc hP1 hD1
      generalize H1 = H at hP hS ⊢
      as_aux_lemma =>
      have h_19 := hw
      have hK9 := hK.sub (tys' := []) [] rfl
      exact W.iret (v := r_18) hx hb hr (fun t ht hW => ⟨⟨r_18, (), rfl, (Or.inr (Or.inl ⟨(RG_w h_19 (by decide +kernel)), h_5, (RG_w g_17 (by decide +kernel))⟩)), by rw [ht]; exact hP, va_K.moved hW.alike hK9, hD⟩, hS.F ht⟩) hS.2.2 dX11_rule_75
    by_cases c_20 : p1 = 4
    · have hsw : p1.toInt = 4 := by rw [c_20]; rfl
      refine lv_tableIn (off := 66) (tgt := 76) hx hb dX11_rule_10 (by rw [hsw]; decide) (by rw [hsw]; decide) (by rw [hsw]; decide) (by decide +kernel) ?_
      have g_21 : RG p1 4 4 := RG_k _ _ hsw
      refine lv_aload_n hx hb dX11_rule_76 rfl (lv_at hl 0 rfl) ?_
      refine va_get (D := (dC, dI)) (ci := 11) (v := .ref h0_6) (C := RX11) (T := TX11) (N := 16) hx hb hts iw_c_X11_rule_X11 hown hK hP 0 rfl rfl 6 (by decide +kernel) (hts (.fieldLink RX11 45 "BuoyVote" "waters" "LBuoyVote$Waters;") (List.mem_of_getElem? (i := 21) rfl)) (fun _ h9 => h9) rfl dX11_rule_77 ?_
      refine lv_aload_n hx hb dX11_rule_80 rfl (lv_at hl 0 rfl) ?_
      refine va_get (D := (dC, dI)) (ci := 11) (v := .ref h0_7) (C := RX11) (T := TX11) (N := 16) hx hb hts iw_c_X11_rule_X11 hown hK hP 0 rfl rfl 7 (by decide +kernel) (hts (.fieldLink RX11 52 "BuoyVote" "now" "LBuoyVote$Sea;") (List.mem_of_getElem? (i := 8) rfl)) (fun _ h9 => h9) rfl dX11_rule_81 ?_
      refine va_get (D := (dC, dI)) (ci := 7) (v := .int h0_7_f2) (C := RX7) (T := TX7) (N := 13) hx hb hts iw_c_X11_rule_X7 hown hK hP 2 rfl rfl 2 (by decide +kernel) (hts (.fieldLink RX11 156 "BuoyVote$Sea" "hour" "I") (List.mem_of_getElem? (i := 22) rfl)) (fun _ h9 => h9) rfl dX11_rule_84 ?_
      obtain ⟨hPc, hDc, hFc, hqc⟩ := cl_cut (wc := (wd_c_X10_isRising h0_6 h0_1 h0_3 h0_6_2 h0_6_3 h0_6_4 h0_6_5 h0_1 h0_1_0 h0_1_f1 h0_1_f2 h0_1_f3 h0_1_0 h0_1_0k h0_1_0c)) hP hD hS hA [4, 1, 3] (by decide +kernel) rfl
      have hKc := hK.sub (tys' := [(h0_1_0k, .int)]) [0] rfl
      have hrv := va_recv hKc hPc (ci := 10) (q0 := 0) rfl rfl
      refine va_calli (va_runV (As := [.int h0_7_f2]) (rest := []) ⟨hx, hb, hml, hown, hts⟩ (c_X10_isRising l dC dI H.size h0_6 h0_7_f2 h0_1 h0_3 h0_6_2 h0_6_3 h0_6_4 h0_6_5 h0_1_0 h0_1_f1 h0_1_f2 h0_1_f3 h0_1_0k h0_1_0c (RG_w g_h0_7_f2 (by decide +kernel)) (RG_w h_5 (by decide +kernel)) g_h0_1_f2 g_h0_1_f3 a_h0_1_0c) (cwV 1 hts gf_c_X11_rule_c_X10_isRising rfl rfl rfl mdV_X10_isRising ⟨Nat.le_of_ble_eq_true rfl, Nat.le_of_ble_eq_true rfl⟩) ⟨fun a U g mk q => by obtain ⟨q0, q1, qP, qK, qD⟩ := q; exact ⟨q0, q1, qP, va_K.moved (u := U) (U := U.calling g mk a) (Vm.Alike.refl U.vm) qK, qD⟩, hrv, fun U hU hW => ⟨rfl, by rw [hU], by rw [hU]; exact hPc, va_K.moved hW.alike hKc, hDc.weaken (fun _ _ _ _ => trivial)⟩⟩ rfl rfl hl.1 rfl (lv_room (Nat.le_of_ble_eq_true rfl)) dX11_rule_87 ⟨Nat.le_of_ble_eq_true rfl, Nat.le_of_ble_eq_true rfl⟩) hS (fun q _ h => hFc q h) hFc (fun r_22 u t H1 locs ht hvm hw hB hz1 hk1 hS => ?_)
      as_aux_lemma =>
      obtain ⟨hP1, hK1, hD1⟩ := hB
      rw [ht] at hP1
      obtain ⟨hP, hD⟩ := cl_put (w1 := (wd_c_X10_isRising h0_6 h0_1 h0_3 h0_6_2 h0_6_3 h0_6_4 h0_6_5 h0_1 h0_1_0 h0_1_f1 h0_1_f2 h0_1_f3 h0_1_0 h0_1_0k h0_1_0c)) (nw := (wd_c_X11_rule h0 h0_0 h0_1 h0_2 h0_3 h0_4 h0_f5 h0_6 h0_7 h0_8 h0_9 h0_10 h0_11 h0_12 h0_13 h0_14 h0_f15 h0_1 h0_1_0 h0_1_f1 h0_1_f2 h0_1_f3 h0_7 h0_7_f0 h0_7_f1 h0_7_f2 h0_7_f3 h0_7_4 h0_7_5 h0_7_6 h0_7_7 h0_7_8 h0_7_9 h0_7_10 h0_7_11 h0_7_12 h0_1_0 h0_1_0k h0_1_0c h0_6 h0_1 h0_3 h0_6_2 h0_6_3 h0_6_4 h0_6_5)) hP hD [4, 1, 3] [0, 6, 2, 7, 5] 5 rfl hqc (by decide +kernel) rfl hk1 hFc hP1 hD1
      generalize H1 = H at hP hS ⊢
      as_aux_lemma =>
      rcases hw with h_23 | h_24
      · rw [h_23]
        refine lv_if_eq (tgt := 97) hx hb dX11_rule_90 rfl (fun c_25 => ?_) (fun c_25 => absurd c_25 (by decide +kernel))
        refine lv_iconst (v := 0) hx hb dX11_rule_97 kc_iconst_0 ?_
        have hK9 := hK.sub (tys' := []) [] rfl
        exact W.iret (v := 0) hx hb hr (fun t ht hW => ⟨⟨0, (), rfl, (Or.inr (Or.inr (Or.inl ⟨rfl, h_5, g_21⟩))), by rw [ht]; exact hP, va_K.moved hW.alike hK9, hD⟩, hS.F ht⟩) hS.2.2 dX11_rule_98
      · rw [h_24]
        refine lv_if_eq (tgt := 97) hx hb dX11_rule_90 rfl (fun c_26 => absurd c_26 (by decide +kernel)) (fun c_26 => ?_)
        refine lv_iconst (v := 1) hx hb dX11_rule_93 kc_iconst_1 ?_
        refine lv_goto (tgt := 98) hx hb dX11_rule_94 rfl ?_
        have hK9 := hK.sub (tys' := []) [] rfl
        exact W.iret (v := 1) hx hb hr (fun t ht hW => ⟨⟨1, (), rfl, (Or.inr (Or.inr (Or.inr ⟨rfl, h_5, g_21⟩))), by rw [ht]; exact hP, va_K.moved hW.alike hK9, hD⟩, hS.F ht⟩) hS.2.2 dX11_rule_98
    have hsw : p1.toInt < 0 ∨ 4 < p1.toInt := by
      have zc_8 := lv_neT c_8 (a := 0) (by decide +kernel)
      have zc_10 := lv_neT c_10 (a := 1) (by decide +kernel)
      have zc_12 := lv_neT c_12 (a := 2) (by decide +kernel)
      have zc_16 := lv_neT c_16 (a := 3) (by decide +kernel)
      have zc_20 := lv_neT c_20 (a := 4) (by decide +kernel)
      have zg1 := ((RG_any p1)).1
      have zg2 := ((RG_any p1)).2
      omega
    refine lv_tableOut (tgt := 99) hx hb dX11_rule_10 hsw (by decide +kernel) ?_
    as_aux_lemma =>
    refine lv_iconst (v := (-1)) hx hb dX11_rule_99 kc_iconst_m1 ?_
    have hK9 := hK.sub (tys' := []) [] rfl
    exact W.iret (v := (-1)) hx hb hr (fun t ht hW => ⟨⟨(-1), (), rfl, (Or.inl rfl), by rw [ht]; exact hP, va_K.moved hW.alike hK9, hD⟩, hS.F ht⟩) hS.2.2 dX11_rule_100
noncomputable def wd_c_X11_isBoat (a0 : Nat) (a1 : Nat) (a2 : Nat) (a3 : Nat) (a4 : Nat) (a5 : Nat) (a6 : Int32) (a7 : Nat) (a8 : Nat) (a9 : Nat) (a10 : Nat) (a11 : Nat) (a12 : Nat) (a13 : Nat) (a14 : Nat) (a15 : Nat) (a16 : Int64) (a17 : Nat) (a18 : Nat) (a19 : Int32) (a20 : Int32) (a21 : Int32) : va_W := [(a0, .inr (11, [.ref a1, .ref a2, .ref a3, .ref a4, .ref a5, .int a6, .ref a7, .ref a8, .ref a9, .ref a10, .ref a11, .ref a12, .ref a13, .ref a14, .ref a15, .long a16])), (a17, .inr (0, [.ref a18, .int a19, .int a20, .int a21]))]
noncomputable def wf_c_X11_isBoat : List Cond := List.cons (.code yX11_isBoat cX11_isBoat 2 (some .boolean)) (@HAppend.hAppend (List Cond) (List Cond) (List Cond) _ (@HAppend.hAppend (List Cond) (List Cond) (List Cond) _ [.fieldLink RX11 19 "BuoyVote" "told" "LBuoyVote$Borough;", .fieldLink RX11 272 "BuoyVote$Borough" "boats" "I"] wsX110) wsX00)
theorem iw_c_X11_isBoat_X11 : ∀ w ∈ wsX110, w ∈ wf_c_X11_isBoat := fun w h => List.mem_cons_of_mem _ (List.mem_append_left _ (List.mem_append_right _ h))
theorem iw_c_X11_isBoat_X0 : ∀ w ∈ wsX00, w ∈ wf_c_X11_isBoat := fun w h => List.mem_cons_of_mem _ (List.mem_append_right _ h)
set_option maxHeartbeats 4000000 in
set_option maxRecDepth 100000 in
theorem c_X11_isBoat (l : Launch) (dC : Nat → ClassId) (dI : Nat → Nat → Nat) (sz : Nat) (h0 : Nat) (p1 : Int32) (h0_0 : Nat) (h0_1 : Nat) (h0_2 : Nat) (h0_3 : Nat) (h0_4 : Nat) (h0_f5 : Int32) (h0_6 : Nat) (h0_7 : Nat) (h0_8 : Nat) (h0_9 : Nat) (h0_10 : Nat) (h0_11 : Nat) (h0_12 : Nat) (h0_13 : Nat) (h0_14 : Nat) (h0_f15 : Int64) (h0_1_0 : Nat) (h0_1_f1 : Int32) (h0_1_f2 : Int32) (h0_1_f3 : Int32) (g_h0_f5 : RG h0_f5 0 4) (g_h0_1_f1 : RG h0_1_f1 0 8) (g_h0_1_f2 : RG h0_1_f2 0 3) (g_h0_1_f3 : RG h0_1_f3 0 1) : Met l yX11_isBoat wf_c_X11_isBoat ({ frames := 0, cells := 0, slots := 0, locals := 0 }) (va_Pc [.ref h0, .int p1] (fun U => U.heap.size = sz ∧ va_P (dC, dI) vwCl (wd_c_X11_isBoat h0 h0_0 h0_1 h0_2 h0_3 h0_4 h0_f5 h0_6 h0_7 h0_8 h0_9 h0_10 h0_11 h0_12 h0_13 h0_14 h0_f15 h0_1 h0_1_0 h0_1_f1 h0_1_f2 h0_1_f3) U.heap ∧ va_K (dC, dI) vwCl [] U ∧ va_D (fun _ => True) (wd_c_X11_isBoat h0 h0_0 h0_1 h0_2 h0_3 h0_4 h0_f5 h0_6 h0_7 h0_8 h0_9 h0_10 h0_11 h0_12 h0_13 h0_14 h0_f15 h0_1 h0_1_0 h0_1_f1 h0_1_f2 h0_1_f3))) (va_Qi (fun (r : Int32) (u : Unit) => (r = 0 ∧ RG p1 (-2147483648) 2147483647) ∨ (r = 1 ∧ RG h0_1_f2 1 3 ∧ RG p1 0 2)) (fun (u : Unit) t => va_P (dC, dI) vwCl (wd_c_X11_isBoat h0 h0_0 h0_1 h0_2 h0_3 h0_4 h0_f5 h0_6 h0_7 h0_8 h0_9 h0_10 h0_11 h0_12 h0_13 h0_14 h0_f15 h0_1 h0_1_0 h0_1_f1 h0_1_f2 h0_1_f3) t.heap ∧ va_K (dC, dI) vwCl [] t ∧ va_D (va_A (wd_c_X11_isBoat h0 h0_0 h0_1 h0_2 h0_3 h0_4 h0_f5 h0_6 h0_7 h0_8 h0_9 h0_10 h0_11 h0_12 h0_13 h0_14 h0_f15 h0_1 h0_1_0 h0_1_f1 h0_1_f2 h0_1_f3) sz) (wd_c_X11_isBoat h0 h0_0 h0_1 h0_2 h0_3 h0_4 h0_f5 h0_6 h0_7 h0_8 h0_9 h0_10 h0_11 h0_12 h0_13 h0_14 h0_f15 h0_1 h0_1_0 h0_1_f1 h0_1_f2 h0_1_f3)) (va_A (wd_c_X11_isBoat h0 h0_0 h0_1 h0_2 h0_3 h0_4 h0_f5 h0_6 h0_7 h0_8 h0_9 h0_10 h0_11 h0_12 h0_13 h0_14 h0_f15 h0_1 h0_1_0 h0_1_f1 h0_1_f2 h0_1_f3) sz)) 0 0 (va_A (wd_c_X11_isBoat h0 h0_0 h0_1 h0_2 h0_3 h0_4 h0_f5 h0_6 h0_7 h0_8 h0_9 h0_10 h0_11 h0_12 h0_13 h0_14 h0_f15 h0_1 h0_1_0 h0_1_f1 h0_1_f2 h0_1_f3) sz) := by
  refine Met.ofW (cc := cX11_isBoat) (maxL := 2) (ret := (some .boolean)) (by decide +kernel) rfl ?_
  intro p e s m args below meth c s₁ B hml hv
  obtain ⟨rfl, hsz, hP, hK, hD0⟩ := hv
  have hx := B.exec
  have hb := B.bytes
  have hr := B.returns
  have hts := atoms_spec (ws := wf_c_X11_isBoat) B.pre
  have hown : s.vm.findClass RX11 = some m.cls := findClass_of_methodNamed B.named
  have hlocks := B.notSynchronized
  subst hsz
  have hD := hD0.self (sz := s.heap.size)
  generalize hAe : va_A (wd_c_X11_isBoat h0 h0_0 h0_1 h0_2 h0_3 h0_4 h0_f5 h0_6 h0_7 h0_8 h0_9 h0_10 h0_11 h0_12 h0_13 h0_14 h0_f15 h0_1 h0_1_0 h0_1_f1 h0_1_f2 h0_1_f3) s.heap.size = A at hD ⊢
  have hA : ∀ q : Nat, s.heap.size ≤ q → A q := fun q h => by rw [← hAe]; exact Or.inr h
  have hP : va_P (dC, dI) vwCl (wd_c_X11_isBoat h0 h0_0 h0_1 h0_2 h0_3 h0_4 h0_f5 h0_6 h0_7 h0_8 h0_9 h0_10 h0_11 h0_12 h0_13 h0_14 h0_f15 h0_1 h0_1_0 h0_1_f1 h0_1_f2 h0_1_f3) s.heap := hP
  have hl := lv_entry ([.ref h0, .int p1]) (n := 2) (Nat.le_of_ble_eq_true rfl)
  rw [lg_entry_eq]
  generalize (lg_sl ([.ref h0, .int p1]) ++ List.replicate (2 - (lg_sl ([.ref h0, .int p1])).length) Slot.unset).toArray = ls at hl ⊢
  have hl : lv_has ls 2 [(0, .ref h0), (1, .int p1)] := hl
  obtain ⟨H, hHe⟩ : ∃ H : Heap, s.heap = H := ⟨_, rfl⟩
  have hS : va_S A s.heap H [] := by rw [hHe]; exact va_S.rf
  have hP : va_P (dC, dI) vwCl (wd_c_X11_isBoat h0 h0_0 h0_1 h0_2 h0_3 h0_4 h0_f5 h0_6 h0_7 h0_8 h0_9 h0_10 h0_11 h0_12 h0_13 h0_14 h0_f15 h0_1 h0_1_0 h0_1_f1 h0_1_f2 h0_1_f3) H := by rw [← hHe]; exact hP
  rw [hHe]
  refine lv_iload_n hx hb dX11_isBoat_0 rfl (lv_at hl 1 rfl) ?_
  as_aux_lemma =>
  refine lv_if_lt (tgt := 19) hx hb dX11_isBoat_1 rfl (fun c_1 => ?_) (fun c_1 => ?_)
  · have g_2 : RG p1 (-2147483648) (-1) := RG_lt1 (RG_any p1) (RG_k 0 0 rfl) c_1 (by decide +kernel)
    refine lv_iconst (v := 0) hx hb dX11_isBoat_19 kc_iconst_0 ?_
    have hK9 := hK.sub (tys' := []) [] rfl
    exact W.zret (v := 0) hx hb hr rfl (fun t ht hW => ⟨⟨0, (), rfl, (Or.inl ⟨rfl, (RG_w g_2 (by decide +kernel))⟩), by rw [ht]; exact hP, va_K.moved hW.alike hK9, hD⟩, hS.F ht⟩) hS.2.2 dX11_isBoat_20
  · have d_3 := Int32.not_lt.mp c_1
    have g_4 : RG p1 0 2147483647 := RG_le2 (RG_k 0 0 rfl) (RG_any p1) d_3 (by decide +kernel)
    refine lv_iload_n hx hb dX11_isBoat_4 rfl (lv_at hl 1 rfl) ?_
    refine lv_aload_n hx hb dX11_isBoat_5 rfl (lv_at hl 0 rfl) ?_
    refine va_get (D := (dC, dI)) (ci := 11) (v := .ref h0_1) (C := RX11) (T := TX11) (N := 16) hx hb hts iw_c_X11_isBoat_X11 hown hK hP 0 rfl rfl 1 (by decide +kernel) (hts (.fieldLink RX11 19 "BuoyVote" "told" "LBuoyVote$Borough;") (List.mem_of_getElem? (i := 1) rfl)) (fun _ h9 => h9) rfl dX11_isBoat_6 ?_
    refine va_get (D := (dC, dI)) (ci := 0) (v := .int h0_1_f2) (C := RX0) (T := TX0) (N := 4) hx hb hts iw_c_X11_isBoat_X0 hown hK hP 1 rfl rfl 2 (by decide +kernel) (hts (.fieldLink RX11 272 "BuoyVote$Borough" "boats" "I") (List.mem_of_getElem? (i := 2) rfl)) (fun _ h9 => h9) rfl dX11_isBoat_9 ?_
    refine lv_icmp_ge (tgt := 19) hx hb dX11_isBoat_12 rfl (fun c_5 => ?_) (fun c_5 => ?_)
    · refine lv_iconst (v := 0) hx hb dX11_isBoat_19 kc_iconst_0 ?_
      have hK9 := hK.sub (tys' := []) [] rfl
      exact W.zret (v := 0) hx hb hr rfl (fun t ht hW => ⟨⟨0, (), rfl, (Or.inl ⟨rfl, (RG_w g_4 (by decide +kernel))⟩), by rw [ht]; exact hP, va_K.moved hW.alike hK9, hD⟩, hS.F ht⟩) hS.2.2 dX11_isBoat_20
    · have d_6 := Int32.not_le.mp c_5
      have g_7 : RG p1 0 2 := RG_lt1 g_4 g_h0_1_f2 d_6 (by decide +kernel)
      have g_8 : RG h0_1_f2 1 3 := RG_lt2 g_4 g_h0_1_f2 d_6 (by decide +kernel)
      refine lv_iconst (v := 1) hx hb dX11_isBoat_15 kc_iconst_1 ?_
      as_aux_lemma =>
      refine lv_goto (tgt := 20) hx hb dX11_isBoat_16 rfl ?_
      have hK9 := hK.sub (tys' := []) [] rfl
      exact W.zret (v := 1) hx hb hr rfl (fun t ht hW => ⟨⟨1, (), rfl, (Or.inr ⟨rfl, g_8, g_7⟩), by rw [ht]; exact hP, va_K.moved hW.alike hK9, hD⟩, hS.F ht⟩) hS.2.2 dX11_isBoat_20
noncomputable def wd_c_X0_speed (a0 : Nat) (a1 : Nat) (a2 : Int32) (a3 : Int32) (a4 : Int32) (a5 : Nat) (a6 : ClassId) (a7 : Nat → Int32) : va_W := [(a0, .inr (0, [.ref a1, .int a2, .int a3, .int a4])), (a5, .inl (a6, 80, .inl a7))]
noncomputable def wf_c_X0_speed : List Cond := List.cons (.code yX0_speed cX0_speed 2 (some .int)) (@HAppend.hAppend (List Cond) (List Cond) (List Cond) _ [.fieldLink RX0 11 "BuoyVote$Borough" "values" "[I"] wsX00)
theorem iw_c_X0_speed_X0 : ∀ w ∈ wsX00, w ∈ wf_c_X0_speed := fun w h => List.mem_cons_of_mem _ (List.mem_append_right _ h)
set_option maxHeartbeats 4000000 in
set_option maxRecDepth 100000 in
theorem c_X0_speed (l : Launch) (dC : Nat → ClassId) (dI : Nat → Nat → Nat) (sz : Nat) (h0 : Nat) (p1 : Int32) (h0_0 : Nat) (h0_f1 : Int32) (h0_f2 : Int32) (h0_f3 : Int32) (h0_0k : ClassId) (h0_0c : Nat → Int32) (g_p1 : RG p1 0 2) (g_h0_f1 : RG h0_f1 0 8) (g_h0_f2 : RG h0_f2 0 3) (g_h0_f3 : RG h0_f3 0 1) (a_h0_0c : AI h0_0c (-1) 99) : Met l yX0_speed wf_c_X0_speed ({ frames := 0, cells := 0, slots := 0, locals := 0 }) (va_Pc [.ref h0, .int p1] (fun U => U.heap.size = sz ∧ va_P (dC, dI) vwCl (wd_c_X0_speed h0 h0_0 h0_f1 h0_f2 h0_f3 h0_0 h0_0k h0_0c) U.heap ∧ va_K (dC, dI) vwCl [(h0_0k, .int)] U ∧ va_D (fun _ => True) (wd_c_X0_speed h0 h0_0 h0_f1 h0_f2 h0_f3 h0_0 h0_0k h0_0c))) (va_Qi (fun (r : Int32) (u : Unit) => (RG r (-1) 99)) (fun (u : Unit) t => va_P (dC, dI) vwCl (wd_c_X0_speed h0 h0_0 h0_f1 h0_f2 h0_f3 h0_0 h0_0k h0_0c) t.heap ∧ va_K (dC, dI) vwCl [] t ∧ va_D (va_A (wd_c_X0_speed h0 h0_0 h0_f1 h0_f2 h0_f3 h0_0 h0_0k h0_0c) sz) (wd_c_X0_speed h0 h0_0 h0_f1 h0_f2 h0_f3 h0_0 h0_0k h0_0c)) (va_A (wd_c_X0_speed h0 h0_0 h0_f1 h0_f2 h0_f3 h0_0 h0_0k h0_0c) sz)) 0 0 (va_A (wd_c_X0_speed h0 h0_0 h0_f1 h0_f2 h0_f3 h0_0 h0_0k h0_0c) sz) := by
  refine Met.ofW (cc := cX0_speed) (maxL := 2) (ret := (some .int)) (by decide +kernel) rfl ?_
  intro p e s m args below meth c s₁ B hml hv
  obtain ⟨rfl, hsz, hP, hK, hD0⟩ := hv
  have hx := B.exec
  have hb := B.bytes
  have hr := B.returns
  have hts := atoms_spec (ws := wf_c_X0_speed) B.pre
  have hown : s.vm.findClass RX0 = some m.cls := findClass_of_methodNamed B.named
  have hlocks := B.notSynchronized
  subst hsz
  have hD := hD0.self (sz := s.heap.size)
  generalize hAe : va_A (wd_c_X0_speed h0 h0_0 h0_f1 h0_f2 h0_f3 h0_0 h0_0k h0_0c) s.heap.size = A at hD ⊢
  have hA : ∀ q : Nat, s.heap.size ≤ q → A q := fun q h => by rw [← hAe]; exact Or.inr h
  have hP : va_P (dC, dI) vwCl (wd_c_X0_speed h0 h0_0 h0_f1 h0_f2 h0_f3 h0_0 h0_0k h0_0c) s.heap := hP
  have hl := lv_entry ([.ref h0, .int p1]) (n := 2) (Nat.le_of_ble_eq_true rfl)
  rw [lg_entry_eq]
  generalize (lg_sl ([.ref h0, .int p1]) ++ List.replicate (2 - (lg_sl ([.ref h0, .int p1])).length) Slot.unset).toArray = ls at hl ⊢
  have hl : lv_has ls 2 [(0, .ref h0), (1, .int p1)] := hl
  obtain ⟨H, hHe⟩ : ∃ H : Heap, s.heap = H := ⟨_, rfl⟩
  have hS : va_S A s.heap H [] := by rw [hHe]; exact va_S.rf
  have hP : va_P (dC, dI) vwCl (wd_c_X0_speed h0 h0_0 h0_f1 h0_f2 h0_f3 h0_0 h0_0k h0_0c) H := by rw [← hHe]; exact hP
  rw [hHe]
  refine lv_aload_n hx hb dX0_speed_0 rfl (lv_at hl 0 rfl) ?_
  as_aux_lemma =>
  refine va_get (D := (dC, dI)) (ci := 0) (v := .ref h0_0) (C := RX0) (T := TX0) (N := 4) hx hb hts iw_c_X0_speed_X0 hown hK hP 0 rfl rfl 0 (by decide +kernel) (hts (.fieldLink RX0 11 "BuoyVote$Borough" "values" "[I") (List.mem_of_getElem? (i := 1) rfl)) (fun _ h9 => h9) rfl dX0_speed_1 ?_
  refine lv_bipush (v := 68) hx hb dX0_speed_4 kc_bipush_68 ?_
  refine lv_iload_n hx hb dX0_speed_6 rfl (lv_at hl 1 rfl) ?_
  refine lv_iconst (v := 4) hx hb dX0_speed_7 kc_iconst_4 ?_
  refine lv_imul hx hb dX0_speed_8 ?_
  refine lv_topi (fun x_1 ex_1 => ?_)
  have g_2 : RG x_1 0 8 := RG_mulc ex_1 (q := 4) rfl g_p1 (by decide +kernel)
  refine lv_iadd hx hb dX0_speed_9 ?_
  refine lv_topi (fun x_3 ex_3 => ?_)
  have g_4 : RG x_3 68 76 := RG_add ex_3 (RG_k 68 68 rfl) g_2 (by decide +kernel)
  refine lv_iconst (v := 2) hx hb dX0_speed_10 kc_iconst_2 ?_
  refine lv_iadd hx hb dX0_speed_11 ?_
  refine lv_topi (fun x_5 ex_5 => ?_)
  have g_6 : RG x_5 70 78 := RG_add ex_5 g_4 (RG_k 2 2 rfl) (by decide +kernel)
  refine va_iald hx hb hK hP 1 0 rfl rfl (RG_in g_6 (by decide +kernel)) dX0_speed_12 ?_
  as_aux_lemma =>
  refine lv_topi (fun x_7 ex_7 => ?_)
  have g_8 : RG x_7 (-1) 99 := AI_rd a_h0_0c ex_7
  have hK9 := hK.sub (tys' := []) [] rfl
  exact W.iret (v := x_7) hx hb hr (fun t ht hW => ⟨⟨x_7, (), rfl, g_8, by rw [ht]; exact hP, va_K.moved hW.alike hK9, hD⟩, hS.F ht⟩) hS.2.2 dX0_speed_13
noncomputable def wd_c_X0_voice (a0 : Nat) (a1 : Nat) (a2 : Int32) (a3 : Int32) (a4 : Int32) (a5 : Nat) (a6 : ClassId) (a7 : Nat → Int32) : va_W := [(a0, .inr (0, [.ref a1, .int a2, .int a3, .int a4])), (a5, .inl (a6, 80, .inl a7))]
noncomputable def wf_c_X0_voice : List Cond := List.cons (.code yX0_voice cX0_voice 2 (some .int)) (@HAppend.hAppend (List Cond) (List Cond) (List Cond) _ [.fieldLink RX0 11 "BuoyVote$Borough" "values" "[I"] wsX00)
theorem iw_c_X0_voice_X0 : ∀ w ∈ wsX00, w ∈ wf_c_X0_voice := fun w h => List.mem_cons_of_mem _ (List.mem_append_right _ h)
set_option maxHeartbeats 4000000 in
set_option maxRecDepth 100000 in
theorem c_X0_voice (l : Launch) (dC : Nat → ClassId) (dI : Nat → Nat → Nat) (sz : Nat) (h0 : Nat) (p1 : Int32) (h0_0 : Nat) (h0_f1 : Int32) (h0_f2 : Int32) (h0_f3 : Int32) (h0_0k : ClassId) (h0_0c : Nat → Int32) (g_p1 : RG p1 0 2) (g_h0_f1 : RG h0_f1 0 8) (g_h0_f2 : RG h0_f2 0 3) (g_h0_f3 : RG h0_f3 0 1) (a_h0_0c : AI h0_0c (-1) 99) : Met l yX0_voice wf_c_X0_voice ({ frames := 0, cells := 0, slots := 0, locals := 0 }) (va_Pc [.ref h0, .int p1] (fun U => U.heap.size = sz ∧ va_P (dC, dI) vwCl (wd_c_X0_voice h0 h0_0 h0_f1 h0_f2 h0_f3 h0_0 h0_0k h0_0c) U.heap ∧ va_K (dC, dI) vwCl [(h0_0k, .int)] U ∧ va_D (fun _ => True) (wd_c_X0_voice h0 h0_0 h0_f1 h0_f2 h0_f3 h0_0 h0_0k h0_0c))) (va_Qi (fun (r : Int32) (u : Unit) => (RG r (-1) 99)) (fun (u : Unit) t => va_P (dC, dI) vwCl (wd_c_X0_voice h0 h0_0 h0_f1 h0_f2 h0_f3 h0_0 h0_0k h0_0c) t.heap ∧ va_K (dC, dI) vwCl [] t ∧ va_D (va_A (wd_c_X0_voice h0 h0_0 h0_f1 h0_f2 h0_f3 h0_0 h0_0k h0_0c) sz) (wd_c_X0_voice h0 h0_0 h0_f1 h0_f2 h0_f3 h0_0 h0_0k h0_0c)) (va_A (wd_c_X0_voice h0 h0_0 h0_f1 h0_f2 h0_f3 h0_0 h0_0k h0_0c) sz)) 0 0 (va_A (wd_c_X0_voice h0 h0_0 h0_f1 h0_f2 h0_f3 h0_0 h0_0k h0_0c) sz) := by
  refine Met.ofW (cc := cX0_voice) (maxL := 2) (ret := (some .int)) (by decide +kernel) rfl ?_
  intro p e s m args below meth c s₁ B hml hv
  obtain ⟨rfl, hsz, hP, hK, hD0⟩ := hv
  have hx := B.exec
  have hb := B.bytes
  have hr := B.returns
  have hts := atoms_spec (ws := wf_c_X0_voice) B.pre
  have hown : s.vm.findClass RX0 = some m.cls := findClass_of_methodNamed B.named
  have hlocks := B.notSynchronized
  subst hsz
  have hD := hD0.self (sz := s.heap.size)
  generalize hAe : va_A (wd_c_X0_voice h0 h0_0 h0_f1 h0_f2 h0_f3 h0_0 h0_0k h0_0c) s.heap.size = A at hD ⊢
  have hA : ∀ q : Nat, s.heap.size ≤ q → A q := fun q h => by rw [← hAe]; exact Or.inr h
  have hP : va_P (dC, dI) vwCl (wd_c_X0_voice h0 h0_0 h0_f1 h0_f2 h0_f3 h0_0 h0_0k h0_0c) s.heap := hP
  have hl := lv_entry ([.ref h0, .int p1]) (n := 2) (Nat.le_of_ble_eq_true rfl)
  rw [lg_entry_eq]
  generalize (lg_sl ([.ref h0, .int p1]) ++ List.replicate (2 - (lg_sl ([.ref h0, .int p1])).length) Slot.unset).toArray = ls at hl ⊢
  have hl : lv_has ls 2 [(0, .ref h0), (1, .int p1)] := hl
  obtain ⟨H, hHe⟩ : ∃ H : Heap, s.heap = H := ⟨_, rfl⟩
  have hS : va_S A s.heap H [] := by rw [hHe]; exact va_S.rf
  have hP : va_P (dC, dI) vwCl (wd_c_X0_voice h0 h0_0 h0_f1 h0_f2 h0_f3 h0_0 h0_0k h0_0c) H := by rw [← hHe]; exact hP
  rw [hHe]
  refine lv_aload_n hx hb dX0_voice_0 rfl (lv_at hl 0 rfl) ?_
  as_aux_lemma =>
  refine va_get (D := (dC, dI)) (ci := 0) (v := .ref h0_0) (C := RX0) (T := TX0) (N := 4) hx hb hts iw_c_X0_voice_X0 hown hK hP 0 rfl rfl 0 (by decide +kernel) (hts (.fieldLink RX0 11 "BuoyVote$Borough" "values" "[I") (List.mem_of_getElem? (i := 1) rfl)) (fun _ h9 => h9) rfl dX0_voice_1 ?_
  refine lv_bipush (v := 68) hx hb dX0_voice_4 kc_bipush_68 ?_
  refine lv_iload_n hx hb dX0_voice_6 rfl (lv_at hl 1 rfl) ?_
  refine lv_iconst (v := 4) hx hb dX0_voice_7 kc_iconst_4 ?_
  refine lv_imul hx hb dX0_voice_8 ?_
  refine lv_topi (fun x_1 ex_1 => ?_)
  have g_2 : RG x_1 0 8 := RG_mulc ex_1 (q := 4) rfl g_p1 (by decide +kernel)
  refine lv_iadd hx hb dX0_voice_9 ?_
  refine lv_topi (fun x_3 ex_3 => ?_)
  have g_4 : RG x_3 68 76 := RG_add ex_3 (RG_k 68 68 rfl) g_2 (by decide +kernel)
  refine lv_iconst (v := 3) hx hb dX0_voice_10 kc_iconst_3 ?_
  refine lv_iadd hx hb dX0_voice_11 ?_
  refine lv_topi (fun x_5 ex_5 => ?_)
  have g_6 : RG x_5 71 79 := RG_add ex_5 g_4 (RG_k 3 3 rfl) (by decide +kernel)
  refine va_iald hx hb hK hP 1 0 rfl rfl (RG_in g_6 (by decide +kernel)) dX0_voice_12 ?_
  as_aux_lemma =>
  refine lv_topi (fun x_7 ex_7 => ?_)
  have g_8 : RG x_7 (-1) 99 := AI_rd a_h0_0c ex_7
  have hK9 := hK.sub (tys' := []) [] rfl
  exact W.iret (v := x_7) hx hb hr (fun t ht hW => ⟨⟨x_7, (), rfl, g_8, by rw [ht]; exact hP, va_K.moved hW.alike hK9, hD⟩, hS.F ht⟩) hS.2.2 dX0_voice_13
noncomputable def wd_c_X11_boat (a0 : Nat) (a1 : Nat) (a2 : Nat) (a3 : Nat) (a4 : Nat) (a5 : Nat) (a6 : Int32) (a7 : Nat) (a8 : Nat) (a9 : Nat) (a10 : Nat) (a11 : Nat) (a12 : Nat) (a13 : Nat) (a14 : Nat) (a15 : Nat) (a16 : Int64) (a17 : Nat) (a18 : Nat) (a19 : Int32) (a20 : Int32) (a21 : Int32) (a22 : Nat) (a23 : Int32) (a24 : Int32) (a25 : Int32) (a26 : Int32) (a27 : Nat) (a28 : Nat) (a29 : Nat) (a30 : Nat) (a31 : Nat) (a32 : Nat) (a33 : Nat) (a34 : Nat) (a35 : Nat) (a36 : Nat) (a37 : ClassId) (a38 : Nat → Int32) (a39 : Nat) (a40 : ClassId) (a41 : Nat → Int32) (a42 : Nat) (a43 : ClassId) (a44 : Nat → Int32) (a45 : Nat) (a46 : ClassId) (a47 : Nat → Int32) (a48 : Nat) (a49 : ClassId) (a50 : Nat → Int32) (a51 : Nat) (a52 : ClassId) (a53 : Nat → Int32) (a54 : Nat) (a55 : ClassId) (a56 : Nat → Int32) : va_W := [(a0, .inr (11, [.ref a1, .ref a2, .ref a3, .ref a4, .ref a5, .int a6, .ref a7, .ref a8, .ref a9, .ref a10, .ref a11, .ref a12, .ref a13, .ref a14, .ref a15, .long a16])), (a17, .inr (0, [.ref a18, .int a19, .int a20, .int a21])), (a22, .inr (7, [.int a23, .int a24, .int a25, .int a26, .ref a27, .ref a28, .ref a29, .ref a30, .ref a31, .ref a32, .ref a33, .ref a34, .ref a35])), (a36, .inl (a37, 3, .inl a38)), (a39, .inl (a40, 3, .inl a41)), (a42, .inl (a43, 80, .inl a44)), (a45, .inl (a46, 3, .inl a47)), (a48, .inl (a49, 3, .inl a50)), (a51, .inl (a52, 3, .inl a53)), (a54, .inl (a55, 3, .inl a56))]
noncomputable def wf_c_X11_boat : List Cond := List.cons (.code yX11_boat cX11_boat 3 (some .int)) (@HAppend.hAppend (List Cond) (List Cond) (List Cond) _ (@HAppend.hAppend (List Cond) (List Cond) (List Cond) _ (@HAppend.hAppend (List Cond) (List Cond) (List Cond) _ [.methodLink RX11 191 yX11_isBoat, .instanceMethod yX11_isBoat, .selects RX11 yX11_isBoat yX11_isBoat, .initialized RX11, .code yX11_isBoat cX11_isBoat 2 (some .boolean), .fieldLink RX11 19 "BuoyVote" "told" "LBuoyVote$Borough;", .fieldLink RX11 272 "BuoyVote$Borough" "boats" "I", .fieldLink RX11 52 "BuoyVote" "now" "LBuoyVote$Sea;", .fieldLink RX11 194 "BuoyVote$Sea" "x" "[I", .fieldLink RX11 197 "BuoyVote$Sea" "y" "[I", .methodLink RX11 200 yX0_speed, .instanceMethod yX0_speed, .selects RX0 yX0_speed yX0_speed, .initialized RX0, .code yX0_speed cX0_speed 2 (some .int), .fieldLink RX0 11 "BuoyVote$Borough" "values" "[I", .methodLink RX11 203 yX0_voice, .instanceMethod yX0_voice, .selects RX0 yX0_voice yX0_voice, .code yX0_voice cX0_voice 2 (some .int), .fieldLink RX11 206 "BuoyVote$Sea" "goalX" "[I", .fieldLink RX11 209 "BuoyVote$Sea" "goalY" "[I", .fieldLink RX11 212 "BuoyVote$Sea" "won" "[I", .fieldLink RX11 215 "BuoyVote$Sea" "sang" "[I"] wsX110) wsX00) wsX70)
theorem iw_c_X11_boat_X11 : ∀ w ∈ wsX110, w ∈ wf_c_X11_boat := fun w h => List.mem_cons_of_mem _ (List.mem_append_left _ (List.mem_append_left _ (List.mem_append_right _ h)))
theorem iw_c_X11_boat_X0 : ∀ w ∈ wsX00, w ∈ wf_c_X11_boat := fun w h => List.mem_cons_of_mem _ (List.mem_append_left _ (List.mem_append_right _ h))
theorem iw_c_X11_boat_X7 : ∀ w ∈ wsX70, w ∈ wf_c_X11_boat := fun w h => List.mem_cons_of_mem _ (List.mem_append_right _ h)
set_option maxRecDepth 20000 in
theorem gf_c_X11_boat_c_X11_isBoat : GoodIn wf_c_X11_boat (wsV RX11 191 RX11 yX11_isBoat wf_c_X11_isBoat) := goodIn_app (gi_l [1, 2, 3, 4] rfl rfl) (gi_cons (j := 5) rfl rfl (goodIn_app (goodIn_app (gi_l [6, 7] rfl rfl) (goodIn_sub iw_c_X11_boat_X11 gw_X11)) (goodIn_sub iw_c_X11_boat_X0 gw_X0)))
set_option maxRecDepth 20000 in
theorem gf_c_X11_boat_c_X0_speed : GoodIn wf_c_X11_boat (wsV RX11 200 RX0 yX0_speed wf_c_X0_speed) := goodIn_app (gi_l [11, 12, 13, 14] rfl rfl) (gi_cons (j := 15) rfl rfl (goodIn_app (gi_l [16] rfl rfl) (goodIn_sub iw_c_X11_boat_X0 gw_X0)))
set_option maxRecDepth 20000 in
theorem gf_c_X11_boat_c_X0_voice : GoodIn wf_c_X11_boat (wsV RX11 203 RX0 yX0_voice wf_c_X0_voice) := goodIn_app (gi_l [17, 18, 19, 14] rfl rfl) (gi_cons (j := 20) rfl rfl (goodIn_app (gi_l [16] rfl rfl) (goodIn_sub iw_c_X11_boat_X0 gw_X0)))
set_option maxHeartbeats 4000000 in
set_option maxRecDepth 100000 in
theorem c_X11_boat (l : Launch) (dC : Nat → ClassId) (dI : Nat → Nat → Nat) (sz : Nat) (h0 : Nat) (p1 : Int32) (p2 : Int32) (h0_0 : Nat) (h0_1 : Nat) (h0_2 : Nat) (h0_3 : Nat) (h0_4 : Nat) (h0_f5 : Int32) (h0_6 : Nat) (h0_7 : Nat) (h0_8 : Nat) (h0_9 : Nat) (h0_10 : Nat) (h0_11 : Nat) (h0_12 : Nat) (h0_13 : Nat) (h0_14 : Nat) (h0_f15 : Int64) (h0_1_0 : Nat) (h0_1_f1 : Int32) (h0_1_f2 : Int32) (h0_1_f3 : Int32) (h0_7_f0 : Int32) (h0_7_f1 : Int32) (h0_7_f2 : Int32) (h0_7_f3 : Int32) (h0_7_4 : Nat) (h0_7_5 : Nat) (h0_7_6 : Nat) (h0_7_7 : Nat) (h0_7_8 : Nat) (h0_7_9 : Nat) (h0_7_10 : Nat) (h0_7_11 : Nat) (h0_7_12 : Nat) (h0_7_4k : ClassId) (h0_7_4c : Nat → Int32) (h0_7_5k : ClassId) (h0_7_5c : Nat → Int32) (h0_1_0k : ClassId) (h0_1_0c : Nat → Int32) (h0_7_6k : ClassId) (h0_7_6c : Nat → Int32) (h0_7_7k : ClassId) (h0_7_7c : Nat → Int32) (h0_7_8k : ClassId) (h0_7_8c : Nat → Int32) (h0_7_9k : ClassId) (h0_7_9c : Nat → Int32) (g_h0_f5 : RG h0_f5 0 4) (g_h0_1_f1 : RG h0_1_f1 0 8) (g_h0_1_f2 : RG h0_1_f2 0 3) (g_h0_1_f3 : RG h0_1_f3 0 1) (g_h0_7_f2 : RG h0_7_f2 0 9999) (g_h0_7_f3 : RG h0_7_f3 0 9999) (a_h0_1_0c : AI h0_1_0c (-1) 99) : Met l yX11_boat wf_c_X11_boat ({ frames := 1, cells := 0, slots := 0, locals := 21 }) (va_Pc [.ref h0, .int p1, .int p2] (fun U => U.heap.size = sz ∧ va_P (dC, dI) vwCl (wd_c_X11_boat h0 h0_0 h0_1 h0_2 h0_3 h0_4 h0_f5 h0_6 h0_7 h0_8 h0_9 h0_10 h0_11 h0_12 h0_13 h0_14 h0_f15 h0_1 h0_1_0 h0_1_f1 h0_1_f2 h0_1_f3 h0_7 h0_7_f0 h0_7_f1 h0_7_f2 h0_7_f3 h0_7_4 h0_7_5 h0_7_6 h0_7_7 h0_7_8 h0_7_9 h0_7_10 h0_7_11 h0_7_12 h0_7_4 h0_7_4k h0_7_4c h0_7_5 h0_7_5k h0_7_5c h0_1_0 h0_1_0k h0_1_0c h0_7_6 h0_7_6k h0_7_6c h0_7_7 h0_7_7k h0_7_7c h0_7_8 h0_7_8k h0_7_8c h0_7_9 h0_7_9k h0_7_9c) U.heap ∧ va_K (dC, dI) vwCl [(h0_7_4k, .int), (h0_7_5k, .int), (h0_1_0k, .int), (h0_7_6k, .int), (h0_7_7k, .int), (h0_7_8k, .int), (h0_7_9k, .int)] U ∧ va_D (fun _ => True) (wd_c_X11_boat h0 h0_0 h0_1 h0_2 h0_3 h0_4 h0_f5 h0_6 h0_7 h0_8 h0_9 h0_10 h0_11 h0_12 h0_13 h0_14 h0_f15 h0_1 h0_1_0 h0_1_f1 h0_1_f2 h0_1_f3 h0_7 h0_7_f0 h0_7_f1 h0_7_f2 h0_7_f3 h0_7_4 h0_7_5 h0_7_6 h0_7_7 h0_7_8 h0_7_9 h0_7_10 h0_7_11 h0_7_12 h0_7_4 h0_7_4k h0_7_4c h0_7_5 h0_7_5k h0_7_5c h0_1_0 h0_1_0k h0_1_0c h0_7_6 h0_7_6k h0_7_6c h0_7_7 h0_7_7k h0_7_7c h0_7_8 h0_7_8k h0_7_8c h0_7_9 h0_7_9k h0_7_9c))) (va_Qi (fun (r : Int32) (u : Unit) => (r = (-1)) ∨ (RG r (-2147483648) 2147483647 ∧ RG h0_1_f2 1 3 ∧ RG p1 0 2 ∧ RG p2 0 7)) (fun (u : Unit) t => va_P (dC, dI) vwCl (wd_c_X11_boat h0 h0_0 h0_1 h0_2 h0_3 h0_4 h0_f5 h0_6 h0_7 h0_8 h0_9 h0_10 h0_11 h0_12 h0_13 h0_14 h0_f15 h0_1 h0_1_0 h0_1_f1 h0_1_f2 h0_1_f3 h0_7 h0_7_f0 h0_7_f1 h0_7_f2 h0_7_f3 h0_7_4 h0_7_5 h0_7_6 h0_7_7 h0_7_8 h0_7_9 h0_7_10 h0_7_11 h0_7_12 h0_7_4 h0_7_4k h0_7_4c h0_7_5 h0_7_5k h0_7_5c h0_1_0 h0_1_0k h0_1_0c h0_7_6 h0_7_6k h0_7_6c h0_7_7 h0_7_7k h0_7_7c h0_7_8 h0_7_8k h0_7_8c h0_7_9 h0_7_9k h0_7_9c) t.heap ∧ va_K (dC, dI) vwCl [] t ∧ va_D (va_A (wd_c_X11_boat h0 h0_0 h0_1 h0_2 h0_3 h0_4 h0_f5 h0_6 h0_7 h0_8 h0_9 h0_10 h0_11 h0_12 h0_13 h0_14 h0_f15 h0_1 h0_1_0 h0_1_f1 h0_1_f2 h0_1_f3 h0_7 h0_7_f0 h0_7_f1 h0_7_f2 h0_7_f3 h0_7_4 h0_7_5 h0_7_6 h0_7_7 h0_7_8 h0_7_9 h0_7_10 h0_7_11 h0_7_12 h0_7_4 h0_7_4k h0_7_4c h0_7_5 h0_7_5k h0_7_5c h0_1_0 h0_1_0k h0_1_0c h0_7_6 h0_7_6k h0_7_6c h0_7_7 h0_7_7k h0_7_7c h0_7_8 h0_7_8k h0_7_8c h0_7_9 h0_7_9k h0_7_9c) sz) (wd_c_X11_boat h0 h0_0 h0_1 h0_2 h0_3 h0_4 h0_f5 h0_6 h0_7 h0_8 h0_9 h0_10 h0_11 h0_12 h0_13 h0_14 h0_f15 h0_1 h0_1_0 h0_1_f1 h0_1_f2 h0_1_f3 h0_7 h0_7_f0 h0_7_f1 h0_7_f2 h0_7_f3 h0_7_4 h0_7_5 h0_7_6 h0_7_7 h0_7_8 h0_7_9 h0_7_10 h0_7_11 h0_7_12 h0_7_4 h0_7_4k h0_7_4c h0_7_5 h0_7_5k h0_7_5c h0_1_0 h0_1_0k h0_1_0c h0_7_6 h0_7_6k h0_7_6c h0_7_7 h0_7_7k h0_7_7c h0_7_8 h0_7_8k h0_7_8c h0_7_9 h0_7_9k h0_7_9c)) (va_A (wd_c_X11_boat h0 h0_0 h0_1 h0_2 h0_3 h0_4 h0_f5 h0_6 h0_7 h0_8 h0_9 h0_10 h0_11 h0_12 h0_13 h0_14 h0_f15 h0_1 h0_1_0 h0_1_f1 h0_1_f2 h0_1_f3 h0_7 h0_7_f0 h0_7_f1 h0_7_f2 h0_7_f3 h0_7_4 h0_7_5 h0_7_6 h0_7_7 h0_7_8 h0_7_9 h0_7_10 h0_7_11 h0_7_12 h0_7_4 h0_7_4k h0_7_4c h0_7_5 h0_7_5k h0_7_5c h0_1_0 h0_1_0k h0_1_0c h0_7_6 h0_7_6k h0_7_6c h0_7_7 h0_7_7k h0_7_7c h0_7_8 h0_7_8k h0_7_8c h0_7_9 h0_7_9k h0_7_9c) sz)) 0 0 (va_A (wd_c_X11_boat h0 h0_0 h0_1 h0_2 h0_3 h0_4 h0_f5 h0_6 h0_7 h0_8 h0_9 h0_10 h0_11 h0_12 h0_13 h0_14 h0_f15 h0_1 h0_1_0 h0_1_f1 h0_1_f2 h0_1_f3 h0_7 h0_7_f0 h0_7_f1 h0_7_f2 h0_7_f3 h0_7_4 h0_7_5 h0_7_6 h0_7_7 h0_7_8 h0_7_9 h0_7_10 h0_7_11 h0_7_12 h0_7_4 h0_7_4k h0_7_4c h0_7_5 h0_7_5k h0_7_5c h0_1_0 h0_1_0k h0_1_0c h0_7_6 h0_7_6k h0_7_6c h0_7_7 h0_7_7k h0_7_7c h0_7_8 h0_7_8k h0_7_8c h0_7_9 h0_7_9k h0_7_9c) sz) := by
  refine Met.ofW (cc := cX11_boat) (maxL := 3) (ret := (some .int)) (by decide +kernel) rfl ?_
  intro p e s m args below meth c s₁ B hml hv
  obtain ⟨rfl, hsz, hP, hK, hD0⟩ := hv
  have hx := B.exec
  have hb := B.bytes
  have hr := B.returns
  have hts := atoms_spec (ws := wf_c_X11_boat) B.pre
  have hown : s.vm.findClass RX11 = some m.cls := findClass_of_methodNamed B.named
  have hlocks := B.notSynchronized
  subst hsz
  have hD := hD0.self (sz := s.heap.size)
  generalize hAe : va_A (wd_c_X11_boat h0 h0_0 h0_1 h0_2 h0_3 h0_4 h0_f5 h0_6 h0_7 h0_8 h0_9 h0_10 h0_11 h0_12 h0_13 h0_14 h0_f15 h0_1 h0_1_0 h0_1_f1 h0_1_f2 h0_1_f3 h0_7 h0_7_f0 h0_7_f1 h0_7_f2 h0_7_f3 h0_7_4 h0_7_5 h0_7_6 h0_7_7 h0_7_8 h0_7_9 h0_7_10 h0_7_11 h0_7_12 h0_7_4 h0_7_4k h0_7_4c h0_7_5 h0_7_5k h0_7_5c h0_1_0 h0_1_0k h0_1_0c h0_7_6 h0_7_6k h0_7_6c h0_7_7 h0_7_7k h0_7_7c h0_7_8 h0_7_8k h0_7_8c h0_7_9 h0_7_9k h0_7_9c) s.heap.size = A at hD ⊢
  have hA : ∀ q : Nat, s.heap.size ≤ q → A q := fun q h => by rw [← hAe]; exact Or.inr h
  have hP : va_P (dC, dI) vwCl (wd_c_X11_boat h0 h0_0 h0_1 h0_2 h0_3 h0_4 h0_f5 h0_6 h0_7 h0_8 h0_9 h0_10 h0_11 h0_12 h0_13 h0_14 h0_f15 h0_1 h0_1_0 h0_1_f1 h0_1_f2 h0_1_f3 h0_7 h0_7_f0 h0_7_f1 h0_7_f2 h0_7_f3 h0_7_4 h0_7_5 h0_7_6 h0_7_7 h0_7_8 h0_7_9 h0_7_10 h0_7_11 h0_7_12 h0_7_4 h0_7_4k h0_7_4c h0_7_5 h0_7_5k h0_7_5c h0_1_0 h0_1_0k h0_1_0c h0_7_6 h0_7_6k h0_7_6c h0_7_7 h0_7_7k h0_7_7c h0_7_8 h0_7_8k h0_7_8c h0_7_9 h0_7_9k h0_7_9c) s.heap := hP
  have hl := lv_entry ([.ref h0, .int p1, .int p2]) (n := 3) (Nat.le_of_ble_eq_true rfl)
  rw [lg_entry_eq]
  generalize (lg_sl ([.ref h0, .int p1, .int p2]) ++ List.replicate (3 - (lg_sl ([.ref h0, .int p1, .int p2])).length) Slot.unset).toArray = ls at hl ⊢
  have hl : lv_has ls 3 [(0, .ref h0), (1, .int p1), (2, .int p2)] := hl
  obtain ⟨H, hHe⟩ : ∃ H : Heap, s.heap = H := ⟨_, rfl⟩
  have hS : va_S A s.heap H [] := by rw [hHe]; exact va_S.rf
  have hP : va_P (dC, dI) vwCl (wd_c_X11_boat h0 h0_0 h0_1 h0_2 h0_3 h0_4 h0_f5 h0_6 h0_7 h0_8 h0_9 h0_10 h0_11 h0_12 h0_13 h0_14 h0_f15 h0_1 h0_1_0 h0_1_f1 h0_1_f2 h0_1_f3 h0_7 h0_7_f0 h0_7_f1 h0_7_f2 h0_7_f3 h0_7_4 h0_7_5 h0_7_6 h0_7_7 h0_7_8 h0_7_9 h0_7_10 h0_7_11 h0_7_12 h0_7_4 h0_7_4k h0_7_4c h0_7_5 h0_7_5k h0_7_5c h0_1_0 h0_1_0k h0_1_0c h0_7_6 h0_7_6k h0_7_6c h0_7_7 h0_7_7k h0_7_7c h0_7_8 h0_7_8k h0_7_8c h0_7_9 h0_7_9k h0_7_9c) H := by rw [← hHe]; exact hP
  rw [hHe]
  refine lv_aload_n hx hb dX11_boat_0 rfl (lv_at hl 0 rfl) ?_
  as_aux_lemma =>
  refine lv_iload_n hx hb dX11_boat_1 rfl (lv_at hl 1 rfl) ?_
  obtain ⟨hPc, hDc, hFc, hqc⟩ := cl_cut (wc := (wd_c_X11_isBoat h0 h0_0 h0_1 h0_2 h0_3 h0_4 h0_f5 h0_6 h0_7 h0_8 h0_9 h0_10 h0_11 h0_12 h0_13 h0_14 h0_f15 h0_1 h0_1_0 h0_1_f1 h0_1_f2 h0_1_f3)) hP hD hS hA [0, 1] (by decide +kernel) rfl
  have hKc := hK.sub (tys' := []) [] rfl
  have hrv := va_recv hKc hPc (ci := 11) (q0 := 0) rfl rfl
  refine va_calli (va_runV (As := [.int p1]) (rest := []) ⟨hx, hb, hml, hown, hts⟩ (c_X11_isBoat l dC dI H.size h0 p1 h0_0 h0_1 h0_2 h0_3 h0_4 h0_f5 h0_6 h0_7 h0_8 h0_9 h0_10 h0_11 h0_12 h0_13 h0_14 h0_f15 h0_1_0 h0_1_f1 h0_1_f2 h0_1_f3 g_h0_f5 g_h0_1_f1 g_h0_1_f2 g_h0_1_f3) (cwV 1 hts gf_c_X11_boat_c_X11_isBoat rfl rfl rfl mdV_X11_isBoat ⟨Nat.le_of_ble_eq_true rfl, Nat.le_of_ble_eq_true rfl⟩) ⟨fun a U g mk q => by obtain ⟨q0, q1, qP, qK, qD⟩ := q; exact ⟨q0, q1, qP, va_K.moved (u := U) (U := U.calling g mk a) (Vm.Alike.refl U.vm) qK, qD⟩, hrv, fun U hU hW => ⟨rfl, by rw [hU], by rw [hU]; exact hPc, va_K.moved hW.alike hKc, hDc.weaken (fun _ _ _ _ => trivial)⟩⟩ rfl rfl hl.1 rfl (lv_room (Nat.le_of_ble_eq_true rfl)) dX11_boat_2 ⟨Nat.le_of_ble_eq_true rfl, Nat.le_of_ble_eq_true rfl⟩) hS (fun q _ h => hFc q h) hFc (fun r_1 u t H1 locs ht hvm hw hB hz1 hk1 hS => ?_)
  obtain ⟨hP1, hK1, hD1⟩ := hB
  rw [ht] at hP1
  obtain ⟨hP, hD⟩ := cl_put (w1 := (wd_c_X11_isBoat h0 h0_0 h0_1 h0_2 h0_3 h0_4 h0_f5 h0_6 h0_7 h0_8 h0_9 h0_10 h0_11 h0_12 h0_13 h0_14 h0_f15 h0_1 h0_1_0 h0_1_f1 h0_1_f2 h0_1_f3)) (nw := (wd_c_X11_boat h0 h0_0 h0_1 h0_2 h0_3 h0_4 h0_f5 h0_6 h0_7 h0_8 h0_9 h0_10 h0_11 h0_12 h0_13 h0_14 h0_f15 h0_1 h0_1_0 h0_1_f1 h0_1_f2 h0_1_f3 h0_7 h0_7_f0 h0_7_f1 h0_7_f2 h0_7_f3 h0_7_4 h0_7_5 h0_7_6 h0_7_7 h0_7_8 h0_7_9 h0_7_10 h0_7_11 h0_7_12 h0_7_4 h0_7_4k h0_7_4c h0_7_5 h0_7_5k h0_7_5c h0_1_0 h0_1_0k h0_1_0c h0_7_6 h0_7_6k h0_7_6c h0_7_7 h0_7_7k h0_7_7c h0_7_8 h0_7_8k h0_7_8c h0_7_9 h0_7_9k h0_7_9c)) hP hD [0, 1] [10, 11, 2, 3, 4, 5, 6, 7, 8, 9] 10 rfl hqc (by decide +kernel) rfl hk1 hFc hP1 hD1
  generalize H1 = H at hP hS ⊢
  as_aux_lemma =>
  rcases hw with ⟨h_2, h_3⟩ | ⟨h_4, h_5, h_6⟩
  · rw [h_2]
    refine lv_if_ne (tgt := 10) hx hb dX11_boat_5 rfl (fun c_7 => absurd c_7 (by decide +kernel)) (fun c_7 => ?_)
    refine lv_iconst (v := (-1)) hx hb dX11_boat_8 kc_iconst_m1 ?_
    have hK9 := hK.sub (tys' := []) [] rfl
    exact W.iret (v := (-1)) hx hb hr (fun t ht hW => ⟨⟨(-1), (), rfl, (Or.inl rfl), by rw [ht]; exact hP, va_K.moved hW.alike hK9, hD⟩, hS.F ht⟩) hS.2.2 dX11_boat_9
  · rw [h_4]
    refine lv_if_ne (tgt := 10) hx hb dX11_boat_5 rfl (fun c_8 => ?_) (fun c_8 => absurd c_8 (by decide +kernel))
    refine lv_iload_n hx hb dX11_boat_10 rfl (lv_at hl 2 rfl) ?_
    by_cases c_9 : p2 = 0
    · have hsw : p2.toInt = 0 := by rw [c_9]; rfl
      refine lv_tableIn (off := 45) (tgt := 56) hx hb dX11_boat_11 (by rw [hsw]; decide) (by rw [hsw]; decide) (by rw [hsw]; decide) (by decide +kernel) ?_
      have g_10 : RG p2 0 0 := RG_k _ _ hsw
      refine lv_aload_n hx hb dX11_boat_56 rfl (lv_at hl 0 rfl) ?_
      as_aux_lemma =>
      refine va_get (D := (dC, dI)) (ci := 11) (v := .ref h0_7) (C := RX11) (T := TX11) (N := 16) hx hb hts iw_c_X11_boat_X11 hown hK hP 0 rfl rfl 7 (by decide +kernel) (hts (.fieldLink RX11 52 "BuoyVote" "now" "LBuoyVote$Sea;") (List.mem_of_getElem? (i := 8) rfl)) (fun _ h9 => h9) rfl dX11_boat_57 ?_
      refine va_get (D := (dC, dI)) (ci := 7) (v := .ref h0_7_4) (C := RX7) (T := TX7) (N := 13) hx hb hts iw_c_X11_boat_X7 hown hK hP 2 rfl rfl 4 (by decide +kernel) (hts (.fieldLink RX11 194 "BuoyVote$Sea" "x" "[I") (List.mem_of_getElem? (i := 9) rfl)) (fun _ h9 => h9) rfl dX11_boat_60 ?_
      refine lv_iload_n hx hb dX11_boat_63 rfl (lv_at hl 1 rfl) ?_
      refine va_iald hx hb hK hP 3 0 rfl rfl (RG_in h_6 (by decide +kernel)) dX11_boat_64 ?_
      refine lv_topi (fun x_11 ex_11 => ?_)
      have hK9 := hK.sub (tys' := []) [] rfl
      exact W.iret (v := x_11) hx hb hr (fun t ht hW => ⟨⟨x_11, (), rfl, (Or.inr ⟨(RG_any x_11), h_5, h_6, (RG_w g_10 (by decide +kernel))⟩), by rw [ht]; exact hP, va_K.moved hW.alike hK9, hD⟩, hS.F ht⟩) hS.2.2 dX11_boat_65
    by_cases c_12 : p2 = 1
    · have hsw : p2.toInt = 1 := by rw [c_12]; rfl
      refine lv_tableIn (off := 55) (tgt := 66) hx hb dX11_boat_11 (by rw [hsw]; decide) (by rw [hsw]; decide) (by rw [hsw]; decide) (by decide +kernel) ?_
      have g_13 : RG p2 1 1 := RG_k _ _ hsw
      refine lv_aload_n hx hb dX11_boat_66 rfl (lv_at hl 0 rfl) ?_
      refine va_get (D := (dC, dI)) (ci := 11) (v := .ref h0_7) (C := RX11) (T := TX11) (N := 16) hx hb hts iw_c_X11_boat_X11 hown hK hP 0 rfl rfl 7 (by decide +kernel) (hts (.fieldLink RX11 52 "BuoyVote" "now" "LBuoyVote$Sea;") (List.mem_of_getElem? (i := 8) rfl)) (fun _ h9 => h9) rfl dX11_boat_67 ?_
      refine va_get (D := (dC, dI)) (ci := 7) (v := .ref h0_7_5) (C := RX7) (T := TX7) (N := 13) hx hb hts iw_c_X11_boat_X7 hown hK hP 2 rfl rfl 5 (by decide +kernel) (hts (.fieldLink RX11 197 "BuoyVote$Sea" "y" "[I") (List.mem_of_getElem? (i := 10) rfl)) (fun _ h9 => h9) rfl dX11_boat_70 ?_
      as_aux_lemma =>
      refine lv_iload_n hx hb dX11_boat_73 rfl (lv_at hl 1 rfl) ?_
      refine va_iald hx hb hK hP 4 1 rfl rfl (RG_in h_6 (by decide +kernel)) dX11_boat_74 ?_
      refine lv_topi (fun x_14 ex_14 => ?_)
      have hK9 := hK.sub (tys' := []) [] rfl
      exact W.iret (v := x_14) hx hb hr (fun t ht hW => ⟨⟨x_14, (), rfl, (Or.inr ⟨(RG_any x_14), h_5, h_6, (RG_w g_13 (by decide +kernel))⟩), by rw [ht]; exact hP, va_K.moved hW.alike hK9, hD⟩, hS.F ht⟩) hS.2.2 dX11_boat_75
    by_cases c_15 : p2 = 2
    · have hsw : p2.toInt = 2 := by rw [c_15]; rfl
      refine lv_tableIn (off := 65) (tgt := 76) hx hb dX11_boat_11 (by rw [hsw]; decide) (by rw [hsw]; decide) (by rw [hsw]; decide) (by decide +kernel) ?_
      have g_16 : RG p2 2 2 := RG_k _ _ hsw
      refine lv_aload_n hx hb dX11_boat_76 rfl (lv_at hl 0 rfl) ?_
      refine va_get (D := (dC, dI)) (ci := 11) (v := .ref h0_1) (C := RX11) (T := TX11) (N := 16) hx hb hts iw_c_X11_boat_X11 hown hK hP 0 rfl rfl 1 (by decide +kernel) (hts (.fieldLink RX11 19 "BuoyVote" "told" "LBuoyVote$Borough;") (List.mem_of_getElem? (i := 6) rfl)) (fun _ h9 => h9) rfl dX11_boat_77 ?_
      refine lv_iload_n hx hb dX11_boat_80 rfl (lv_at hl 1 rfl) ?_
      obtain ⟨hPc, hDc, hFc, hqc⟩ := cl_cut (wc := (wd_c_X0_speed h0_1 h0_1_0 h0_1_f1 h0_1_f2 h0_1_f3 h0_1_0 h0_1_0k h0_1_0c)) hP hD hS hA [1, 5] (by decide +kernel) rfl
      have hKc := hK.sub (tys' := [(h0_1_0k, .int)]) [2] rfl
      have hrv := va_recv hKc hPc (ci := 0) (q0 := 0) rfl rfl
      refine va_calli (va_runV (As := [.int p1]) (rest := []) ⟨hx, hb, hml, hown, hts⟩ (c_X0_speed l dC dI H.size h0_1 p1 h0_1_0 h0_1_f1 h0_1_f2 h0_1_f3 h0_1_0k h0_1_0c h_6 g_h0_1_f1 (RG_w h_5 (by decide +kernel)) g_h0_1_f3 a_h0_1_0c) (cwV 1 hts gf_c_X11_boat_c_X0_speed rfl rfl rfl mdV_X0_speed ⟨Nat.le_of_ble_eq_true rfl, Nat.le_of_ble_eq_true rfl⟩) ⟨fun a U g mk q => by obtain ⟨q0, q1, qP, qK, qD⟩ := q; exact ⟨q0, q1, qP, va_K.moved (u := U) (U := U.calling g mk a) (Vm.Alike.refl U.vm) qK, qD⟩, hrv, fun U hU hW => ⟨rfl, by rw [hU], by rw [hU]; exact hPc, va_K.moved hW.alike hKc, hDc.weaken (fun _ _ _ _ => trivial)⟩⟩ rfl rfl hl.1 rfl (lv_room (Nat.le_of_ble_eq_true rfl)) dX11_boat_81 ⟨Nat.le_of_ble_eq_true rfl, Nat.le_of_ble_eq_true rfl⟩) hS (fun q _ h => hFc q h) hFc (fun r_17 u t H1 locs ht hvm hw hB hz1 hk1 hS => ?_)
      as_aux_lemma =>
      obtain ⟨hP1, hK1, hD1⟩ := hB
      rw [ht] at hP1
      obtain ⟨hP, hD⟩ := cl_put (w1 := (wd_c_X0_speed h0_1 h0_1_0 h0_1_f1 h0_1_f2 h0_1_f3 h0_1_0 h0_1_0k h0_1_0c)) (nw := (wd_c_X11_boat h0 h0_0 h0_1 h0_2 h0_3 h0_4 h0_f5 h0_6 h0_7 h0_8 h0_9 h0_10 h0_11 h0_12 h0_13 h0_14 h0_f15 h0_1 h0_1_0 h0_1_f1 h0_1_f2 h0_1_f3 h0_7 h0_7_f0 h0_7_f1 h0_7_f2 h0_7_f3 h0_7_4 h0_7_5 h0_7_6 h0_7_7 h0_7_8 h0_7_9 h0_7_10 h0_7_11 h0_7_12 h0_7_4 h0_7_4k h0_7_4c h0_7_5 h0_7_5k h0_7_5c h0_1_0 h0_1_0k h0_1_0c h0_7_6 h0_7_6k h0_7_6c h0_7_7 h0_7_7k h0_7_7c h0_7_8 h0_7_8k h0_7_8c h0_7_9 h0_7_9k h0_7_9c)) hP hD [1, 5] [0, 10, 2, 3, 4, 11, 6, 7, 8, 9] 10 rfl hqc (by decide +kernel) rfl hk1 hFc hP1 hD1
      generalize H1 = H at hP hS ⊢
      as_aux_lemma =>
      have h_18 := hw
      have hK9 := hK.sub (tys' := []) [] rfl
      exact W.iret (v := r_17) hx hb hr (fun t ht hW => ⟨⟨r_17, (), rfl, (Or.inr ⟨(RG_w h_18 (by decide +kernel)), h_5, h_6, (RG_w g_16 (by decide +kernel))⟩), by rw [ht]; exact hP, va_K.moved hW.alike hK9, hD⟩, hS.F ht⟩) hS.2.2 dX11_boat_84
    by_cases c_19 : p2 = 3
    · have hsw : p2.toInt = 3 := by rw [c_19]; rfl
      refine lv_tableIn (off := 74) (tgt := 85) hx hb dX11_boat_11 (by rw [hsw]; decide) (by rw [hsw]; decide) (by rw [hsw]; decide) (by decide +kernel) ?_
      have g_20 : RG p2 3 3 := RG_k _ _ hsw
      refine lv_aload_n hx hb dX11_boat_85 rfl (lv_at hl 0 rfl) ?_
      refine va_get (D := (dC, dI)) (ci := 11) (v := .ref h0_1) (C := RX11) (T := TX11) (N := 16) hx hb hts iw_c_X11_boat_X11 hown hK hP 0 rfl rfl 1 (by decide +kernel) (hts (.fieldLink RX11 19 "BuoyVote" "told" "LBuoyVote$Borough;") (List.mem_of_getElem? (i := 6) rfl)) (fun _ h9 => h9) rfl dX11_boat_86 ?_
      refine lv_iload_n hx hb dX11_boat_89 rfl (lv_at hl 1 rfl) ?_
      obtain ⟨hPc, hDc, hFc, hqc⟩ := cl_cut (wc := (wd_c_X0_voice h0_1 h0_1_0 h0_1_f1 h0_1_f2 h0_1_f3 h0_1_0 h0_1_0k h0_1_0c)) hP hD hS hA [1, 5] (by decide +kernel) rfl
      have hKc := hK.sub (tys' := [(h0_1_0k, .int)]) [2] rfl
      have hrv := va_recv hKc hPc (ci := 0) (q0 := 0) rfl rfl
      refine va_calli (va_runV (As := [.int p1]) (rest := []) ⟨hx, hb, hml, hown, hts⟩ (c_X0_voice l dC dI H.size h0_1 p1 h0_1_0 h0_1_f1 h0_1_f2 h0_1_f3 h0_1_0k h0_1_0c h_6 g_h0_1_f1 (RG_w h_5 (by decide +kernel)) g_h0_1_f3 a_h0_1_0c) (cwV 1 hts gf_c_X11_boat_c_X0_voice rfl rfl rfl mdV_X0_voice ⟨Nat.le_of_ble_eq_true rfl, Nat.le_of_ble_eq_true rfl⟩) ⟨fun a U g mk q => by obtain ⟨q0, q1, qP, qK, qD⟩ := q; exact ⟨q0, q1, qP, va_K.moved (u := U) (U := U.calling g mk a) (Vm.Alike.refl U.vm) qK, qD⟩, hrv, fun U hU hW => ⟨rfl, by rw [hU], by rw [hU]; exact hPc, va_K.moved hW.alike hKc, hDc.weaken (fun _ _ _ _ => trivial)⟩⟩ rfl rfl hl.1 rfl (lv_room (Nat.le_of_ble_eq_true rfl)) dX11_boat_90 ⟨Nat.le_of_ble_eq_true rfl, Nat.le_of_ble_eq_true rfl⟩) hS (fun q _ h => hFc q h) hFc (fun r_21 u t H1 locs ht hvm hw hB hz1 hk1 hS => ?_)
      as_aux_lemma =>
      obtain ⟨hP1, hK1, hD1⟩ := hB
      rw [ht] at hP1
      obtain ⟨hP, hD⟩ := cl_put (w1 := (wd_c_X0_voice h0_1 h0_1_0 h0_1_f1 h0_1_f2 h0_1_f3 h0_1_0 h0_1_0k h0_1_0c)) (nw := (wd_c_X11_boat h0 h0_0 h0_1 h0_2 h0_3 h0_4 h0_f5 h0_6 h0_7 h0_8 h0_9 h0_10 h0_11 h0_12 h0_13 h0_14 h0_f15 h0_1 h0_1_0 h0_1_f1 h0_1_f2 h0_1_f3 h0_7 h0_7_f0 h0_7_f1 h0_7_f2 h0_7_f3 h0_7_4 h0_7_5 h0_7_6 h0_7_7 h0_7_8 h0_7_9 h0_7_10 h0_7_11 h0_7_12 h0_7_4 h0_7_4k h0_7_4c h0_7_5 h0_7_5k h0_7_5c h0_1_0 h0_1_0k h0_1_0c h0_7_6 h0_7_6k h0_7_6c h0_7_7 h0_7_7k h0_7_7c h0_7_8 h0_7_8k h0_7_8c h0_7_9 h0_7_9k h0_7_9c)) hP hD [1, 5] [0, 10, 2, 3, 4, 11, 6, 7, 8, 9] 10 rfl hqc (by decide +kernel) rfl hk1 hFc hP1 hD1
      generalize H1 = H at hP hS ⊢
      as_aux_lemma =>
      have h_22 := hw
      have hK9 := hK.sub (tys' := []) [] rfl
      exact W.iret (v := r_21) hx hb hr (fun t ht hW => ⟨⟨r_21, (), rfl, (Or.inr ⟨(RG_w h_22 (by decide +kernel)), h_5, h_6, (RG_w g_20 (by decide +kernel))⟩), by rw [ht]; exact hP, va_K.moved hW.alike hK9, hD⟩, hS.F ht⟩) hS.2.2 dX11_boat_93
    by_cases c_23 : p2 = 4
    · have hsw : p2.toInt = 4 := by rw [c_23]; rfl
      refine lv_tableIn (off := 83) (tgt := 94) hx hb dX11_boat_11 (by rw [hsw]; decide) (by rw [hsw]; decide) (by rw [hsw]; decide) (by decide +kernel) ?_
      have g_24 : RG p2 4 4 := RG_k _ _ hsw
      refine lv_aload_n hx hb dX11_boat_94 rfl (lv_at hl 0 rfl) ?_
      refine va_get (D := (dC, dI)) (ci := 11) (v := .ref h0_7) (C := RX11) (T := TX11) (N := 16) hx hb hts iw_c_X11_boat_X11 hown hK hP 0 rfl rfl 7 (by decide +kernel) (hts (.fieldLink RX11 52 "BuoyVote" "now" "LBuoyVote$Sea;") (List.mem_of_getElem? (i := 8) rfl)) (fun _ h9 => h9) rfl dX11_boat_95 ?_
      refine va_get (D := (dC, dI)) (ci := 7) (v := .ref h0_7_6) (C := RX7) (T := TX7) (N := 13) hx hb hts iw_c_X11_boat_X7 hown hK hP 2 rfl rfl 6 (by decide +kernel) (hts (.fieldLink RX11 206 "BuoyVote$Sea" "goalX" "[I") (List.mem_of_getElem? (i := 21) rfl)) (fun _ h9 => h9) rfl dX11_boat_98 ?_
      refine lv_iload_n hx hb dX11_boat_101 rfl (lv_at hl 1 rfl) ?_
      refine va_iald hx hb hK hP 6 3 rfl rfl (RG_in h_6 (by decide +kernel)) dX11_boat_102 ?_
      refine lv_topi (fun x_25 ex_25 => ?_)
      have hK9 := hK.sub (tys' := []) [] rfl
      exact W.iret (v := x_25) hx hb hr (fun t ht hW => ⟨⟨x_25, (), rfl, (Or.inr ⟨(RG_any x_25), h_5, h_6, (RG_w g_24 (by decide +kernel))⟩), by rw [ht]; exact hP, va_K.moved hW.alike hK9, hD⟩, hS.F ht⟩) hS.2.2 dX11_boat_103
    by_cases c_26 : p2 = 5
    · have hsw : p2.toInt = 5 := by rw [c_26]; rfl
      refine lv_tableIn (off := 93) (tgt := 104) hx hb dX11_boat_11 (by rw [hsw]; decide) (by rw [hsw]; decide) (by rw [hsw]; decide) (by decide +kernel) ?_
      as_aux_lemma =>
      have g_27 : RG p2 5 5 := RG_k _ _ hsw
      refine lv_aload_n hx hb dX11_boat_104 rfl (lv_at hl 0 rfl) ?_
      refine va_get (D := (dC, dI)) (ci := 11) (v := .ref h0_7) (C := RX11) (T := TX11) (N := 16) hx hb hts iw_c_X11_boat_X11 hown hK hP 0 rfl rfl 7 (by decide +kernel) (hts (.fieldLink RX11 52 "BuoyVote" "now" "LBuoyVote$Sea;") (List.mem_of_getElem? (i := 8) rfl)) (fun _ h9 => h9) rfl dX11_boat_105 ?_
      refine va_get (D := (dC, dI)) (ci := 7) (v := .ref h0_7_7) (C := RX7) (T := TX7) (N := 13) hx hb hts iw_c_X11_boat_X7 hown hK hP 2 rfl rfl 7 (by decide +kernel) (hts (.fieldLink RX11 209 "BuoyVote$Sea" "goalY" "[I") (List.mem_of_getElem? (i := 22) rfl)) (fun _ h9 => h9) rfl dX11_boat_108 ?_
      refine lv_iload_n hx hb dX11_boat_111 rfl (lv_at hl 1 rfl) ?_
      refine va_iald hx hb hK hP 7 4 rfl rfl (RG_in h_6 (by decide +kernel)) dX11_boat_112 ?_
      refine lv_topi (fun x_28 ex_28 => ?_)
      have hK9 := hK.sub (tys' := []) [] rfl
      exact W.iret (v := x_28) hx hb hr (fun t ht hW => ⟨⟨x_28, (), rfl, (Or.inr ⟨(RG_any x_28), h_5, h_6, (RG_w g_27 (by decide +kernel))⟩), by rw [ht]; exact hP, va_K.moved hW.alike hK9, hD⟩, hS.F ht⟩) hS.2.2 dX11_boat_113
    by_cases c_29 : p2 = 6
    · have hsw : p2.toInt = 6 := by rw [c_29]; rfl
      refine lv_tableIn (off := 103) (tgt := 114) hx hb dX11_boat_11 (by rw [hsw]; decide) (by rw [hsw]; decide) (by rw [hsw]; decide) (by decide +kernel) ?_
      have g_30 : RG p2 6 6 := RG_k _ _ hsw
      refine lv_aload_n hx hb dX11_boat_114 rfl (lv_at hl 0 rfl) ?_
      as_aux_lemma =>
      refine va_get (D := (dC, dI)) (ci := 11) (v := .ref h0_7) (C := RX11) (T := TX11) (N := 16) hx hb hts iw_c_X11_boat_X11 hown hK hP 0 rfl rfl 7 (by decide +kernel) (hts (.fieldLink RX11 52 "BuoyVote" "now" "LBuoyVote$Sea;") (List.mem_of_getElem? (i := 8) rfl)) (fun _ h9 => h9) rfl dX11_boat_115 ?_
      refine va_get (D := (dC, dI)) (ci := 7) (v := .ref h0_7_8) (C := RX7) (T := TX7) (N := 13) hx hb hts iw_c_X11_boat_X7 hown hK hP 2 rfl rfl 8 (by decide +kernel) (hts (.fieldLink RX11 212 "BuoyVote$Sea" "won" "[I") (List.mem_of_getElem? (i := 23) rfl)) (fun _ h9 => h9) rfl dX11_boat_118 ?_
      refine lv_iload_n hx hb dX11_boat_121 rfl (lv_at hl 1 rfl) ?_
      refine va_iald hx hb hK hP 8 5 rfl rfl (RG_in h_6 (by decide +kernel)) dX11_boat_122 ?_
      refine lv_topi (fun x_31 ex_31 => ?_)
      have hK9 := hK.sub (tys' := []) [] rfl
      exact W.iret (v := x_31) hx hb hr (fun t ht hW => ⟨⟨x_31, (), rfl, (Or.inr ⟨(RG_any x_31), h_5, h_6, (RG_w g_30 (by decide +kernel))⟩), by rw [ht]; exact hP, va_K.moved hW.alike hK9, hD⟩, hS.F ht⟩) hS.2.2 dX11_boat_123
    by_cases c_32 : p2 = 7
    · have hsw : p2.toInt = 7 := by rw [c_32]; rfl
      refine lv_tableIn (off := 113) (tgt := 124) hx hb dX11_boat_11 (by rw [hsw]; decide) (by rw [hsw]; decide) (by rw [hsw]; decide) (by decide +kernel) ?_
      have g_33 : RG p2 7 7 := RG_k _ _ hsw
      refine lv_aload_n hx hb dX11_boat_124 rfl (lv_at hl 0 rfl) ?_
      refine va_get (D := (dC, dI)) (ci := 11) (v := .ref h0_7) (C := RX11) (T := TX11) (N := 16) hx hb hts iw_c_X11_boat_X11 hown hK hP 0 rfl rfl 7 (by decide +kernel) (hts (.fieldLink RX11 52 "BuoyVote" "now" "LBuoyVote$Sea;") (List.mem_of_getElem? (i := 8) rfl)) (fun _ h9 => h9) rfl dX11_boat_125 ?_
      refine va_get (D := (dC, dI)) (ci := 7) (v := .ref h0_7_9) (C := RX7) (T := TX7) (N := 13) hx hb hts iw_c_X11_boat_X7 hown hK hP 2 rfl rfl 9 (by decide +kernel) (hts (.fieldLink RX11 215 "BuoyVote$Sea" "sang" "[I") (List.mem_of_getElem? (i := 24) rfl)) (fun _ h9 => h9) rfl dX11_boat_128 ?_
      as_aux_lemma =>
      refine lv_iload_n hx hb dX11_boat_131 rfl (lv_at hl 1 rfl) ?_
      refine va_iald hx hb hK hP 9 6 rfl rfl (RG_in h_6 (by decide +kernel)) dX11_boat_132 ?_
      refine lv_topi (fun x_34 ex_34 => ?_)
      have hK9 := hK.sub (tys' := []) [] rfl
      exact W.iret (v := x_34) hx hb hr (fun t ht hW => ⟨⟨x_34, (), rfl, (Or.inr ⟨(RG_any x_34), h_5, h_6, (RG_w g_33 (by decide +kernel))⟩), by rw [ht]; exact hP, va_K.moved hW.alike hK9, hD⟩, hS.F ht⟩) hS.2.2 dX11_boat_133
    have hsw : p2.toInt < 0 ∨ 7 < p2.toInt := by
      have zc_9 := lv_neT c_9 (a := 0) (by decide +kernel)
      have zc_12 := lv_neT c_12 (a := 1) (by decide +kernel)
      have zc_15 := lv_neT c_15 (a := 2) (by decide +kernel)
      have zc_19 := lv_neT c_19 (a := 3) (by decide +kernel)
      have zc_23 := lv_neT c_23 (a := 4) (by decide +kernel)
      have zc_26 := lv_neT c_26 (a := 5) (by decide +kernel)
      have zc_29 := lv_neT c_29 (a := 6) (by decide +kernel)
      have zc_32 := lv_neT c_32 (a := 7) (by decide +kernel)
      have zg1 := ((RG_any p2)).1
      have zg2 := ((RG_any p2)).2
      omega
    refine lv_tableOut (tgt := 134) hx hb dX11_boat_11 hsw (by decide +kernel) ?_
    as_aux_lemma =>
    refine lv_iconst (v := (-1)) hx hb dX11_boat_134 kc_iconst_m1 ?_
    have hK9 := hK.sub (tys' := []) [] rfl
    exact W.iret (v := (-1)) hx hb hr (fun t ht hW => ⟨⟨(-1), (), rfl, (Or.inl rfl), by rw [ht]; exact hP, va_K.moved hW.alike hK9, hD⟩, hS.F ht⟩) hS.2.2 dX11_boat_135
noncomputable def wf_c_X11_isWithin_1 : List Cond := .code yX11_isWithin cX11_isWithin 3 (some .boolean) :: ([])
set_option maxHeartbeats 4000000 in
set_option maxRecDepth 100000 in
theorem c_X11_isWithin_1 (l : Launch) (dC : Nat → ClassId) (dI : Nat → Nat → Nat) (sz : Nat) (p0 : Int32) (p2 : Int32) (g_p2 : RG p2 (-1) 3) : Met l yX11_isWithin wf_c_X11_isWithin_1 ({ frames := 0, cells := 0, slots := 0, locals := 0 }) (va_Pc [.int p0, .int (-1), .int p2] (fun U => U.heap.size = sz ∧ va_P (dC, dI) vwCl [] U.heap ∧ va_K (dC, dI) vwCl [] U ∧ va_D (fun _ => True) [])) (va_Qi (fun (r : Int32) (u : Unit) => (r = 0 ∧ RG p0 (-2147483648) 2147483647 ∧ r = fx_c_X11_isWithin_1 p0 p2) ∨ (r = 1 ∧ RG p0 (-1) 3 ∧ p0.toInt ≤ p2.toInt + 0 ∧ r = fx_c_X11_isWithin_1 p0 p2)) (fun (u : Unit) t => va_P (dC, dI) vwCl [] t.heap ∧ va_K (dC, dI) vwCl [] t ∧ va_D (va_A [] sz) []) (va_A [] sz)) 0 0 (va_A [] sz) := by
  refine Met.ofW (cc := cX11_isWithin) (maxL := 3) (ret := (some .boolean)) (by decide +kernel) rfl ?_
  intro p e s m args below meth c s₁ B hml hv
  obtain ⟨rfl, hsz, hP, hK, hD0⟩ := hv
  have hx := B.exec
  have hb := B.bytes
  have hr := B.returns
  have hts := atoms_spec (ws := wf_c_X11_isWithin_1) B.pre
  have hown : s.vm.findClass RX11 = some m.cls := findClass_of_methodNamed B.named
  have hlocks := B.notSynchronized
  subst hsz
  have hD := hD0.self (sz := s.heap.size)
  generalize hAe : va_A [] s.heap.size = A at hD ⊢
  have hA : ∀ q : Nat, s.heap.size ≤ q → A q := fun q h => by rw [← hAe]; exact Or.inr h
  have hP : va_P (dC, dI) vwCl [] s.heap := hP
  have hl := lv_entry ([.int p0, .int (-1), .int p2]) (n := 3) (Nat.le_of_ble_eq_true rfl)
  rw [lg_entry_eq]
  generalize (lg_sl ([.int p0, .int (-1), .int p2]) ++ List.replicate (3 - (lg_sl ([.int p0, .int (-1), .int p2])).length) Slot.unset).toArray = ls at hl ⊢
  have hl : lv_has ls 3 [(0, .int p0), (1, .int (-1)), (2, .int p2)] := hl
  obtain ⟨H, hHe⟩ : ∃ H : Heap, s.heap = H := ⟨_, rfl⟩
  have hS : va_S A s.heap H [] := by rw [hHe]; exact va_S.rf
  have hP : va_P (dC, dI) vwCl [] H := by rw [← hHe]; exact hP
  rw [hHe]
  obtain ⟨RES, hR⟩ : ∃ z, fx_c_X11_isWithin_1 p0 p2 = z := ⟨_, rfl⟩
  have hEX : RES = fx_c_X11_isWithin_1 p0 p2 := hR.symm
  refine lv_iload_n hx hb dX11_isWithin_0 rfl (lv_at hl 0 rfl) ?_
  as_aux_lemma =>
  refine lv_iload_n hx hb dX11_isWithin_1 rfl (lv_at hl 1 rfl) ?_
  refine lv_icmp_lt (tgt := 14) hx hb dX11_isWithin_2 rfl (fun c_1 => ?_) (fun c_1 => ?_)
  · replace hEX := hEX.trans (if_pos c_1)
    have g_2 : RG p0 (-2147483648) (-2) := RG_lt1 (RG_any p0) (RG_k (-1) (-1) rfl) c_1 (by decide +kernel)
    refine lv_iconst (v := 0) hx hb dX11_isWithin_14 kc_iconst_0 ?_
    have hK9 := hK.sub (tys' := []) [] rfl
    exact W.zret (v := 0) hx hb hr rfl (fun t ht hW => ⟨⟨0, (), rfl, (Or.inl ⟨rfl, (RG_w g_2 (by decide +kernel)), (hR.trans hEX).symm⟩), by rw [ht]; exact hP, va_K.moved hW.alike hK9, hD⟩, hS.F ht⟩) hS.2.2 dX11_isWithin_15
  · replace hEX := hEX.trans (if_neg c_1)
    have d_3 := Int32.not_lt.mp c_1
    have g_4 : RG p0 (-1) 2147483647 := RG_le2 (RG_k (-1) (-1) rfl) (RG_any p0) d_3 (by decide +kernel)
    refine lv_iload_n hx hb dX11_isWithin_5 rfl (lv_at hl 0 rfl) ?_
    refine lv_iload_n hx hb dX11_isWithin_6 rfl (lv_at hl 2 rfl) ?_
    refine lv_icmp_gt (tgt := 14) hx hb dX11_isWithin_7 rfl (fun c_5 => ?_) (fun c_5 => ?_)
    · replace hEX := hEX.trans (if_pos c_5)
      have b_6 : p2.toInt ≤ p0.toInt + (-1) := by have := Int32.lt_iff_toInt_lt.mp c_5; omega
      have g_7 : RG p0 0 2147483647 := RG_lt2 g_p2 g_4 c_5 (by decide +kernel)
      refine lv_iconst (v := 0) hx hb dX11_isWithin_14 kc_iconst_0 ?_
      as_aux_lemma =>
      have hK9 := hK.sub (tys' := []) [] rfl
      exact W.zret (v := 0) hx hb hr rfl (fun t ht hW => ⟨⟨0, (), rfl, (Or.inl ⟨rfl, (RG_w g_7 (by decide +kernel)), (hR.trans hEX).symm⟩), by rw [ht]; exact hP, va_K.moved hW.alike hK9, hD⟩, hS.F ht⟩) hS.2.2 dX11_isWithin_15
    · replace hEX := hEX.trans (if_neg c_5)
      have d_8 := Int32.not_lt.mp c_5
      have b_9 : p0.toInt ≤ p2.toInt + 0 := by have := Int32.le_iff_toInt_le.mp d_8; omega
      have g_10 : RG p0 (-1) 3 := RG_le1 g_4 g_p2 d_8 (by decide +kernel)
      refine lv_iconst (v := 1) hx hb dX11_isWithin_10 kc_iconst_1 ?_
      refine lv_goto (tgt := 15) hx hb dX11_isWithin_11 rfl ?_
      have hK9 := hK.sub (tys' := []) [] rfl
      exact W.zret (v := 1) hx hb hr rfl (fun t ht hW => ⟨⟨1, (), rfl, (Or.inr ⟨rfl, g_10, (by have := b_9; have := (g_10).2; have := (g_p2).1; show p0.toInt ≤ p2.toInt + 0; omega), (hR.trans hEX).symm⟩), by rw [ht]; exact hP, va_K.moved hW.alike hK9, hD⟩, hS.F ht⟩) hS.2.2 dX11_isWithin_15
noncomputable def wd_c_X11_law (a0 : Nat) (a1 : Nat) (a2 : Nat) (a3 : Nat) (a4 : Nat) (a5 : Nat) (a6 : Int32) (a7 : Nat) (a8 : Nat) (a9 : Nat) (a10 : Nat) (a11 : Nat) (a12 : Nat) (a13 : Nat) (a14 : Nat) (a15 : Nat) (a16 : Int64) (a17 : Nat) (a18 : Nat) (a19 : Int32) (a20 : Int32) (a21 : Nat) : va_W := [(a0, .inr (11, [.ref a1, .ref a2, .ref a3, .ref a4, .ref a5, .int a6, .ref a7, .ref a8, .ref a9, .ref a10, .ref a11, .ref a12, .ref a13, .ref a14, .ref a15, .long a16])), (a17, .inr (5, [.ref a18, .int a19, .int a20, .ref a21]))]
noncomputable def wf_c_X11_law : List Cond := List.cons (.code yX11_law cX11_law 2 (some .boolean)) (@HAppend.hAppend (List Cond) (List Cond) (List Cond) _ (@HAppend.hAppend (List Cond) (List Cond) (List Cond) _ [.fieldLink RX11 29 "BuoyVote" "laws" "LBuoyVote$LawBook;", .fieldLink RX11 218 "BuoyVote$LawBook" "size" "I", .methodLink RX11 111 yX11_isWithin, .static yX11_isWithin, .initialized RX11, .code yX11_isWithin cX11_isWithin 3 (some .boolean), .fieldLink RX11 221 "BuoyVote$LawBook" "holding" "I"] wsX110) wsX50)
theorem iw_c_X11_law_X11 : ∀ w ∈ wsX110, w ∈ wf_c_X11_law := fun w h => List.mem_cons_of_mem _ (List.mem_append_left _ (List.mem_append_right _ h))
theorem iw_c_X11_law_X5 : ∀ w ∈ wsX50, w ∈ wf_c_X11_law := fun w h => List.mem_cons_of_mem _ (List.mem_append_right _ h)
set_option maxRecDepth 20000 in
theorem gf_c_X11_law_c_X11_isWithin_1 : GoodIn wf_c_X11_law (va_wsS RX11 111 yX11_isWithin wf_c_X11_isWithin_1) := goodIn_app (gi_l [3, 4, 5] rfl rfl) (gi_cons (j := 6) rfl rfl gi_nil)
set_option maxHeartbeats 4000000 in
set_option maxRecDepth 100000 in
theorem c_X11_law (l : Launch) (dC : Nat → ClassId) (dI : Nat → Nat → Nat) (sz : Nat) (h0 : Nat) (p1 : Int32) (h0_0 : Nat) (h0_1 : Nat) (h0_2 : Nat) (h0_3 : Nat) (h0_4 : Nat) (h0_f5 : Int32) (h0_6 : Nat) (h0_7 : Nat) (h0_8 : Nat) (h0_9 : Nat) (h0_10 : Nat) (h0_11 : Nat) (h0_12 : Nat) (h0_13 : Nat) (h0_14 : Nat) (h0_f15 : Int64) (h0_3_0 : Nat) (h0_3_f1 : Int32) (h0_3_f2 : Int32) (h0_3_3 : Nat) (g_h0_f5 : RG h0_f5 0 4) (g_h0_3_f1 : RG h0_3_f1 0 4) : Met l yX11_law wf_c_X11_law ({ frames := 1, cells := 0, slots := 0, locals := 22 }) (va_Pc [.ref h0, .int p1] (fun U => U.heap.size = sz ∧ va_P (dC, dI) vwCl (wd_c_X11_law h0 h0_0 h0_1 h0_2 h0_3 h0_4 h0_f5 h0_6 h0_7 h0_8 h0_9 h0_10 h0_11 h0_12 h0_13 h0_14 h0_f15 h0_3 h0_3_0 h0_3_f1 h0_3_f2 h0_3_3) U.heap ∧ va_K (dC, dI) vwCl [] U ∧ va_D (fun _ => True) (wd_c_X11_law h0 h0_0 h0_1 h0_2 h0_3 h0_4 h0_f5 h0_6 h0_7 h0_8 h0_9 h0_10 h0_11 h0_12 h0_13 h0_14 h0_f15 h0_3 h0_3_0 h0_3_f1 h0_3_f2 h0_3_3))) (va_Qi (fun (r : Int32) (u : (Int32)) => (r = 0 ∧ r = fx_c_X11_law p1 h0_3_f1) ∨ (r = 1 ∧ RG u (-1) 3 ∧ RG p1 (-1) 3 ∧ r = fx_c_X11_law p1 h0_3_f1)) (fun (u : (Int32)) t => va_P (dC, dI) vwCl (wd_c_X11_law h0 h0_0 h0_1 h0_2 h0_3 h0_4 h0_f5 h0_6 h0_7 h0_8 h0_9 h0_10 h0_11 h0_12 h0_13 h0_14 h0_f15 h0_3 h0_3_0 h0_3_f1 u h0_3_3) t.heap ∧ va_K (dC, dI) vwCl [] t ∧ va_D (va_A (wd_c_X11_law h0 h0_0 h0_1 h0_2 h0_3 h0_4 h0_f5 h0_6 h0_7 h0_8 h0_9 h0_10 h0_11 h0_12 h0_13 h0_14 h0_f15 h0_3 h0_3_0 h0_3_f1 h0_3_f2 h0_3_3) sz) (wd_c_X11_law h0 h0_0 h0_1 h0_2 h0_3 h0_4 h0_f5 h0_6 h0_7 h0_8 h0_9 h0_10 h0_11 h0_12 h0_13 h0_14 h0_f15 h0_3 h0_3_0 h0_3_f1 u h0_3_3)) (va_A (wd_c_X11_law h0 h0_0 h0_1 h0_2 h0_3 h0_4 h0_f5 h0_6 h0_7 h0_8 h0_9 h0_10 h0_11 h0_12 h0_13 h0_14 h0_f15 h0_3 h0_3_0 h0_3_f1 h0_3_f2 h0_3_3) sz)) 0 0 (va_A (wd_c_X11_law h0 h0_0 h0_1 h0_2 h0_3 h0_4 h0_f5 h0_6 h0_7 h0_8 h0_9 h0_10 h0_11 h0_12 h0_13 h0_14 h0_f15 h0_3 h0_3_0 h0_3_f1 h0_3_f2 h0_3_3) sz) := by
  refine Met.ofW (cc := cX11_law) (maxL := 2) (ret := (some .boolean)) (by decide +kernel) rfl ?_
  intro p e s m args below meth c s₁ B hml hv
  obtain ⟨rfl, hsz, hP, hK, hD0⟩ := hv
  have hx := B.exec
  have hb := B.bytes
  have hr := B.returns
  have hts := atoms_spec (ws := wf_c_X11_law) B.pre
  have hown : s.vm.findClass RX11 = some m.cls := findClass_of_methodNamed B.named
  have hlocks := B.notSynchronized
  subst hsz
  have hD := hD0.self (sz := s.heap.size)
  generalize hAe : va_A (wd_c_X11_law h0 h0_0 h0_1 h0_2 h0_3 h0_4 h0_f5 h0_6 h0_7 h0_8 h0_9 h0_10 h0_11 h0_12 h0_13 h0_14 h0_f15 h0_3 h0_3_0 h0_3_f1 h0_3_f2 h0_3_3) s.heap.size = A at hD ⊢
  have hA : ∀ q : Nat, s.heap.size ≤ q → A q := fun q h => by rw [← hAe]; exact Or.inr h
  have hP : va_P (dC, dI) vwCl (wd_c_X11_law h0 h0_0 h0_1 h0_2 h0_3 h0_4 h0_f5 h0_6 h0_7 h0_8 h0_9 h0_10 h0_11 h0_12 h0_13 h0_14 h0_f15 h0_3 h0_3_0 h0_3_f1 h0_3_f2 h0_3_3) s.heap := hP
  have hl := lv_entry ([.ref h0, .int p1]) (n := 2) (Nat.le_of_ble_eq_true rfl)
  rw [lg_entry_eq]
  generalize (lg_sl ([.ref h0, .int p1]) ++ List.replicate (2 - (lg_sl ([.ref h0, .int p1])).length) Slot.unset).toArray = ls at hl ⊢
  have hl : lv_has ls 2 [(0, .ref h0), (1, .int p1)] := hl
  obtain ⟨H, hHe⟩ : ∃ H : Heap, s.heap = H := ⟨_, rfl⟩
  have hS : va_S A s.heap H [] := by rw [hHe]; exact va_S.rf
  have hP : va_P (dC, dI) vwCl (wd_c_X11_law h0 h0_0 h0_1 h0_2 h0_3 h0_4 h0_f5 h0_6 h0_7 h0_8 h0_9 h0_10 h0_11 h0_12 h0_13 h0_14 h0_f15 h0_3 h0_3_0 h0_3_f1 h0_3_f2 h0_3_3) H := by rw [← hHe]; exact hP
  rw [hHe]
  obtain ⟨RES, hR⟩ : ∃ z, fx_c_X11_law p1 h0_3_f1 = z := ⟨_, rfl⟩
  have hEX : RES = fx_c_X11_law p1 h0_3_f1 := hR.symm
  refine lv_iload_n hx hb dX11_law_0 rfl (lv_at hl 1 rfl) ?_
  as_aux_lemma =>
  refine lv_iconst (v := (-1)) hx hb dX11_law_1 kc_iconst_m1 ?_
  refine lv_aload_n hx hb dX11_law_2 rfl (lv_at hl 0 rfl) ?_
  refine va_get (D := (dC, dI)) (ci := 11) (v := .ref h0_3) (C := RX11) (T := TX11) (N := 16) hx hb hts iw_c_X11_law_X11 hown hK hP 0 rfl rfl 3 (by decide +kernel) (hts (.fieldLink RX11 29 "BuoyVote" "laws" "LBuoyVote$LawBook;") (List.mem_of_getElem? (i := 1) rfl)) (fun _ h9 => h9) rfl dX11_law_3 ?_
  refine va_get (D := (dC, dI)) (ci := 5) (v := .int h0_3_f1) (C := RX5) (T := TX5) (N := 4) hx hb hts iw_c_X11_law_X5 hown hK hP 1 rfl rfl 1 (by decide +kernel) (hts (.fieldLink RX11 218 "BuoyVote$LawBook" "size" "I") (List.mem_of_getElem? (i := 2) rfl)) (fun _ h9 => h9) rfl dX11_law_6 ?_
  refine lv_iconst (v := 1) hx hb dX11_law_9 kc_iconst_1 ?_
  refine lv_isub hx hb dX11_law_10 ?_
  refine lv_topi (fun x_1 ex_1 => ?_)
  replace hEX := hEX.trans (exl_eq ex_1)
  have g_2 : RG x_1 (-1) 3 := RG_sub ex_1 g_h0_3_f1 (RG_k 1 1 rfl) (by decide +kernel)
  obtain ⟨hPc, hDc, hFc, hqc⟩ := cl_cut (wc := []) hP hD hS hA [] (by decide +kernel) rfl
  have hKc := hK.sub (tys' := []) [] rfl
  refine va_calli (va_runS (As := [.int p1, .int (-1), .int x_1]) (rest := []) ⟨hx, hb, hml, hown, hts⟩ (c_X11_isWithin_1 l dC dI H.size p1 x_1 g_2) (va_cwS 3 hts gf_c_X11_law_c_X11_isWithin_1 rfl rfl rfl md_X11_isWithin ⟨Nat.le_of_ble_eq_true rfl, Nat.le_of_ble_eq_true rfl⟩) ⟨fun a U g mk q => by obtain ⟨q0, q1, qP, qK, qD⟩ := q; exact ⟨q0, q1, qP, va_K.moved (u := U) (U := U.calling g mk a) (Vm.Alike.refl U.vm) qK, qD⟩, fun U hU hW => ⟨rfl, by rw [hU], by rw [hU]; exact hPc, va_K.moved hW.alike hKc, hDc.weaken (fun _ _ _ _ => trivial)⟩⟩ rfl rfl hl.1 rfl (lv_room (Nat.le_of_ble_eq_true rfl)) dX11_law_11 ⟨Nat.le_of_ble_eq_true rfl, Nat.le_of_ble_eq_true rfl⟩) hS (fun q _ h => hFc q h) hFc (fun r_3 u t H1 locs ht hvm hw hB hz1 hk1 hS => ?_)
  obtain ⟨hP1, hK1, hD1⟩ := hB
  rw [ht] at hP1
  have hP := bv_still hP hk1
  generalize H1 = H at hP hS ⊢
  as_aux_lemma =>
  rcases hw with ⟨h_4, h_5, h_6⟩ | ⟨h_7, h_8, h_9, h_10⟩
  · have h_6 : r_3 = _ := h_6
    replace hEX := hEX.trans (exc1_eq h_6)
    replace hEX := hEX.trans (if_pos (show r_3 = 0 from h_4))
    rw [h_4]
    refine lv_if_ne (tgt := 19) hx hb dX11_law_14 rfl (fun c_11 => absurd c_11 (by decide +kernel)) (fun c_11 => ?_)
    refine lv_iconst (v := 0) hx hb dX11_law_17 kc_iconst_0 ?_
    have hK9 := hK.sub (tys' := []) [] rfl
    exact W.zret (v := 0) hx hb hr rfl (fun t ht hW => ⟨⟨0, h0_3_f2, rfl, (Or.inl ⟨rfl, (hR.trans hEX).symm⟩), by rw [ht]; exact hP, va_K.moved hW.alike hK9, hD⟩, hS.F ht⟩) hS.2.2 dX11_law_18
  · have h_10 : r_3 = _ := h_10
    replace hEX := hEX.trans (exc1_eq h_10)
    replace hEX := hEX.trans (if_neg (fun q9 : r_3 = 0 => absurd ((show r_3 = 1 from h_7).symm.trans q9) (by decide +kernel)))
    rw [h_7]
    refine lv_if_ne (tgt := 19) hx hb dX11_law_14 rfl (fun c_12 => ?_) (fun c_12 => absurd c_12 (by decide +kernel))
    refine lv_aload_n hx hb dX11_law_19 rfl (lv_at hl 0 rfl) ?_
    as_aux_lemma =>
    refine va_get (D := (dC, dI)) (ci := 11) (v := .ref h0_3) (C := RX11) (T := TX11) (N := 16) hx hb hts iw_c_X11_law_X11 hown hK hP 0 rfl rfl 3 (by decide +kernel) (hts (.fieldLink RX11 29 "BuoyVote" "laws" "LBuoyVote$LawBook;") (List.mem_of_getElem? (i := 1) rfl)) (fun _ h9 => h9) rfl dX11_law_20 ?_
    refine lv_iload_n hx hb dX11_law_23 rfl (lv_at hl 1 rfl) ?_
    refine va_put (D := (dC, dI)) (ci := 5) (v := .int p1) (ty := .int) (C := RX5) (T := TX5) (N := 4) hx hb hts iw_c_X11_law_X5 tyX5 tyX5_ok nmX5 hown hK hP hD hS 1 rfl rfl 2 (by decide +kernel) (hts (.fieldLink RX11 221 "BuoyVote$LawBook" "holding" "I") (List.mem_of_getElem? (i := 7) rfl)) (fun _ h9 => h9) rfl (by decide +kernel) rfl rfl (Nat.le_of_ble_eq_true rfl) dX11_law_24 (fun H locs hP hD hS => ?_)
    have hP : va_P (dC, dI) vwCl (wd_c_X11_law h0 h0_0 h0_1 h0_2 h0_3 h0_4 h0_f5 h0_6 h0_7 h0_8 h0_9 h0_10 h0_11 h0_12 h0_13 h0_14 h0_f15 h0_3 h0_3_0 h0_3_f1 p1 h0_3_3) H := hP
    have hD : va_D A (wd_c_X11_law h0 h0_0 h0_1 h0_2 h0_3 h0_4 h0_f5 h0_6 h0_7 h0_8 h0_9 h0_10 h0_11 h0_12 h0_13 h0_14 h0_f15 h0_3 h0_3_0 h0_3_f1 p1 h0_3_3) := hD
    refine lv_iconst (v := 1) hx hb dX11_law_27 kc_iconst_1 ?_
    have hK9 := hK.sub (tys' := []) [] rfl
    exact W.zret (v := 1) hx hb hr rfl (fun t ht hW => ⟨⟨1, p1, rfl, (Or.inr ⟨rfl, h_8, h_8, (hR.trans hEX).symm⟩), by rw [ht]; exact hP, va_K.moved hW.alike hK9, hD⟩, hS.F ht⟩) hS.2.2 dX11_law_28
noncomputable def wd_c_X11_isBuoy (a0 : Nat) (a1 : Nat) (a2 : Nat) (a3 : Nat) (a4 : Nat) (a5 : Nat) (a6 : Int32) (a7 : Nat) (a8 : Nat) (a9 : Nat) (a10 : Nat) (a11 : Nat) (a12 : Nat) (a13 : Nat) (a14 : Nat) (a15 : Nat) (a16 : Int64) (a17 : Nat) (a18 : Nat) (a19 : Int32) (a20 : Int32) (a21 : Int32) : va_W := [(a0, .inr (11, [.ref a1, .ref a2, .ref a3, .ref a4, .ref a5, .int a6, .ref a7, .ref a8, .ref a9, .ref a10, .ref a11, .ref a12, .ref a13, .ref a14, .ref a15, .long a16])), (a17, .inr (0, [.ref a18, .int a19, .int a20, .int a21]))]
noncomputable def wf_c_X11_isBuoy : List Cond := List.cons (.code yX11_isBuoy cX11_isBuoy 2 (some .boolean)) (@HAppend.hAppend (List Cond) (List Cond) (List Cond) _ (@HAppend.hAppend (List Cond) (List Cond) (List Cond) _ [.fieldLink RX11 19 "BuoyVote" "told" "LBuoyVote$Borough;", .fieldLink RX11 275 "BuoyVote$Borough" "buoys" "I"] wsX110) wsX00)
theorem iw_c_X11_isBuoy_X11 : ∀ w ∈ wsX110, w ∈ wf_c_X11_isBuoy := fun w h => List.mem_cons_of_mem _ (List.mem_append_left _ (List.mem_append_right _ h))
theorem iw_c_X11_isBuoy_X0 : ∀ w ∈ wsX00, w ∈ wf_c_X11_isBuoy := fun w h => List.mem_cons_of_mem _ (List.mem_append_right _ h)
set_option maxHeartbeats 4000000 in
set_option maxRecDepth 100000 in
theorem c_X11_isBuoy (l : Launch) (dC : Nat → ClassId) (dI : Nat → Nat → Nat) (sz : Nat) (h0 : Nat) (p1 : Int32) (h0_0 : Nat) (h0_1 : Nat) (h0_2 : Nat) (h0_3 : Nat) (h0_4 : Nat) (h0_f5 : Int32) (h0_6 : Nat) (h0_7 : Nat) (h0_8 : Nat) (h0_9 : Nat) (h0_10 : Nat) (h0_11 : Nat) (h0_12 : Nat) (h0_13 : Nat) (h0_14 : Nat) (h0_f15 : Int64) (h0_1_0 : Nat) (h0_1_f1 : Int32) (h0_1_f2 : Int32) (h0_1_f3 : Int32) (g_h0_f5 : RG h0_f5 0 4) (g_h0_1_f1 : RG h0_1_f1 0 8) (g_h0_1_f2 : RG h0_1_f2 0 3) (g_h0_1_f3 : RG h0_1_f3 0 1) : Met l yX11_isBuoy wf_c_X11_isBuoy ({ frames := 0, cells := 0, slots := 0, locals := 0 }) (va_Pc [.ref h0, .int p1] (fun U => U.heap.size = sz ∧ va_P (dC, dI) vwCl (wd_c_X11_isBuoy h0 h0_0 h0_1 h0_2 h0_3 h0_4 h0_f5 h0_6 h0_7 h0_8 h0_9 h0_10 h0_11 h0_12 h0_13 h0_14 h0_f15 h0_1 h0_1_0 h0_1_f1 h0_1_f2 h0_1_f3) U.heap ∧ va_K (dC, dI) vwCl [] U ∧ va_D (fun _ => True) (wd_c_X11_isBuoy h0 h0_0 h0_1 h0_2 h0_3 h0_4 h0_f5 h0_6 h0_7 h0_8 h0_9 h0_10 h0_11 h0_12 h0_13 h0_14 h0_f15 h0_1 h0_1_0 h0_1_f1 h0_1_f2 h0_1_f3))) (va_Qi (fun (r : Int32) (u : Unit) => (r = 0 ∧ RG p1 (-2147483648) 2147483647) ∨ (r = 1 ∧ RG h0_1_f1 1 8 ∧ RG p1 0 7)) (fun (u : Unit) t => va_P (dC, dI) vwCl (wd_c_X11_isBuoy h0 h0_0 h0_1 h0_2 h0_3 h0_4 h0_f5 h0_6 h0_7 h0_8 h0_9 h0_10 h0_11 h0_12 h0_13 h0_14 h0_f15 h0_1 h0_1_0 h0_1_f1 h0_1_f2 h0_1_f3) t.heap ∧ va_K (dC, dI) vwCl [] t ∧ va_D (va_A (wd_c_X11_isBuoy h0 h0_0 h0_1 h0_2 h0_3 h0_4 h0_f5 h0_6 h0_7 h0_8 h0_9 h0_10 h0_11 h0_12 h0_13 h0_14 h0_f15 h0_1 h0_1_0 h0_1_f1 h0_1_f2 h0_1_f3) sz) (wd_c_X11_isBuoy h0 h0_0 h0_1 h0_2 h0_3 h0_4 h0_f5 h0_6 h0_7 h0_8 h0_9 h0_10 h0_11 h0_12 h0_13 h0_14 h0_f15 h0_1 h0_1_0 h0_1_f1 h0_1_f2 h0_1_f3)) (va_A (wd_c_X11_isBuoy h0 h0_0 h0_1 h0_2 h0_3 h0_4 h0_f5 h0_6 h0_7 h0_8 h0_9 h0_10 h0_11 h0_12 h0_13 h0_14 h0_f15 h0_1 h0_1_0 h0_1_f1 h0_1_f2 h0_1_f3) sz)) 0 0 (va_A (wd_c_X11_isBuoy h0 h0_0 h0_1 h0_2 h0_3 h0_4 h0_f5 h0_6 h0_7 h0_8 h0_9 h0_10 h0_11 h0_12 h0_13 h0_14 h0_f15 h0_1 h0_1_0 h0_1_f1 h0_1_f2 h0_1_f3) sz) := by
  refine Met.ofW (cc := cX11_isBuoy) (maxL := 2) (ret := (some .boolean)) (by decide +kernel) rfl ?_
  intro p e s m args below meth c s₁ B hml hv
  obtain ⟨rfl, hsz, hP, hK, hD0⟩ := hv
  have hx := B.exec
  have hb := B.bytes
  have hr := B.returns
  have hts := atoms_spec (ws := wf_c_X11_isBuoy) B.pre
  have hown : s.vm.findClass RX11 = some m.cls := findClass_of_methodNamed B.named
  have hlocks := B.notSynchronized
  subst hsz
  have hD := hD0.self (sz := s.heap.size)
  generalize hAe : va_A (wd_c_X11_isBuoy h0 h0_0 h0_1 h0_2 h0_3 h0_4 h0_f5 h0_6 h0_7 h0_8 h0_9 h0_10 h0_11 h0_12 h0_13 h0_14 h0_f15 h0_1 h0_1_0 h0_1_f1 h0_1_f2 h0_1_f3) s.heap.size = A at hD ⊢
  have hA : ∀ q : Nat, s.heap.size ≤ q → A q := fun q h => by rw [← hAe]; exact Or.inr h
  have hP : va_P (dC, dI) vwCl (wd_c_X11_isBuoy h0 h0_0 h0_1 h0_2 h0_3 h0_4 h0_f5 h0_6 h0_7 h0_8 h0_9 h0_10 h0_11 h0_12 h0_13 h0_14 h0_f15 h0_1 h0_1_0 h0_1_f1 h0_1_f2 h0_1_f3) s.heap := hP
  have hl := lv_entry ([.ref h0, .int p1]) (n := 2) (Nat.le_of_ble_eq_true rfl)
  rw [lg_entry_eq]
  generalize (lg_sl ([.ref h0, .int p1]) ++ List.replicate (2 - (lg_sl ([.ref h0, .int p1])).length) Slot.unset).toArray = ls at hl ⊢
  have hl : lv_has ls 2 [(0, .ref h0), (1, .int p1)] := hl
  obtain ⟨H, hHe⟩ : ∃ H : Heap, s.heap = H := ⟨_, rfl⟩
  have hS : va_S A s.heap H [] := by rw [hHe]; exact va_S.rf
  have hP : va_P (dC, dI) vwCl (wd_c_X11_isBuoy h0 h0_0 h0_1 h0_2 h0_3 h0_4 h0_f5 h0_6 h0_7 h0_8 h0_9 h0_10 h0_11 h0_12 h0_13 h0_14 h0_f15 h0_1 h0_1_0 h0_1_f1 h0_1_f2 h0_1_f3) H := by rw [← hHe]; exact hP
  rw [hHe]
  refine lv_iload_n hx hb dX11_isBuoy_0 rfl (lv_at hl 1 rfl) ?_
  as_aux_lemma =>
  refine lv_if_lt (tgt := 19) hx hb dX11_isBuoy_1 rfl (fun c_1 => ?_) (fun c_1 => ?_)
  · have g_2 : RG p1 (-2147483648) (-1) := RG_lt1 (RG_any p1) (RG_k 0 0 rfl) c_1 (by decide +kernel)
    refine lv_iconst (v := 0) hx hb dX11_isBuoy_19 kc_iconst_0 ?_
    have hK9 := hK.sub (tys' := []) [] rfl
    exact W.zret (v := 0) hx hb hr rfl (fun t ht hW => ⟨⟨0, (), rfl, (Or.inl ⟨rfl, (RG_w g_2 (by decide +kernel))⟩), by rw [ht]; exact hP, va_K.moved hW.alike hK9, hD⟩, hS.F ht⟩) hS.2.2 dX11_isBuoy_20
  · have d_3 := Int32.not_lt.mp c_1
    have g_4 : RG p1 0 2147483647 := RG_le2 (RG_k 0 0 rfl) (RG_any p1) d_3 (by decide +kernel)
    refine lv_iload_n hx hb dX11_isBuoy_4 rfl (lv_at hl 1 rfl) ?_
    refine lv_aload_n hx hb dX11_isBuoy_5 rfl (lv_at hl 0 rfl) ?_
    refine va_get (D := (dC, dI)) (ci := 11) (v := .ref h0_1) (C := RX11) (T := TX11) (N := 16) hx hb hts iw_c_X11_isBuoy_X11 hown hK hP 0 rfl rfl 1 (by decide +kernel) (hts (.fieldLink RX11 19 "BuoyVote" "told" "LBuoyVote$Borough;") (List.mem_of_getElem? (i := 1) rfl)) (fun _ h9 => h9) rfl dX11_isBuoy_6 ?_
    refine va_get (D := (dC, dI)) (ci := 0) (v := .int h0_1_f1) (C := RX0) (T := TX0) (N := 4) hx hb hts iw_c_X11_isBuoy_X0 hown hK hP 1 rfl rfl 1 (by decide +kernel) (hts (.fieldLink RX11 275 "BuoyVote$Borough" "buoys" "I") (List.mem_of_getElem? (i := 2) rfl)) (fun _ h9 => h9) rfl dX11_isBuoy_9 ?_
    refine lv_icmp_ge (tgt := 19) hx hb dX11_isBuoy_12 rfl (fun c_5 => ?_) (fun c_5 => ?_)
    · refine lv_iconst (v := 0) hx hb dX11_isBuoy_19 kc_iconst_0 ?_
      have hK9 := hK.sub (tys' := []) [] rfl
      exact W.zret (v := 0) hx hb hr rfl (fun t ht hW => ⟨⟨0, (), rfl, (Or.inl ⟨rfl, (RG_w g_4 (by decide +kernel))⟩), by rw [ht]; exact hP, va_K.moved hW.alike hK9, hD⟩, hS.F ht⟩) hS.2.2 dX11_isBuoy_20
    · have d_6 := Int32.not_le.mp c_5
      have g_7 : RG p1 0 7 := RG_lt1 g_4 g_h0_1_f1 d_6 (by decide +kernel)
      have g_8 : RG h0_1_f1 1 8 := RG_lt2 g_4 g_h0_1_f1 d_6 (by decide +kernel)
      refine lv_iconst (v := 1) hx hb dX11_isBuoy_15 kc_iconst_1 ?_
      as_aux_lemma =>
      refine lv_goto (tgt := 20) hx hb dX11_isBuoy_16 rfl ?_
      have hK9 := hK.sub (tys' := []) [] rfl
      exact W.zret (v := 1) hx hb hr rfl (fun t ht hW => ⟨⟨1, (), rfl, (Or.inr ⟨rfl, g_8, g_7⟩), by rw [ht]; exact hP, va_K.moved hW.alike hK9, hD⟩, hS.F ht⟩) hS.2.2 dX11_isBuoy_20
noncomputable def wd_c_X7_awayOf (a0 : Nat) (a1 : Int32) (a2 : Int32) (a3 : Int32) (a4 : Int32) (a5 : Nat) (a6 : Nat) (a7 : Nat) (a8 : Nat) (a9 : Nat) (a10 : Nat) (a11 : Nat) (a12 : Nat) (a13 : Nat) (a14 : Nat) (a15 : ClassId) (a16 : Nat → Int32) (a17 : Nat) (a18 : ClassId) (a19 : Nat → Int32) : va_W := [(a0, .inr (7, [.int a1, .int a2, .int a3, .int a4, .ref a5, .ref a6, .ref a7, .ref a8, .ref a9, .ref a10, .ref a11, .ref a12, .ref a13])), (a14, .inl (a15, 3, .inl a16)), (a17, .inl (a18, 3, .inl a19))]
noncomputable def wf_c_X7_awayOf : List Cond := List.cons (.code yX7_awayOf cX7_awayOf 4 (some .int)) (@HAppend.hAppend (List Cond) (List Cond) (List Cond) _ [.fieldLink RX7 9 "BuoyVote$Sea" "x" "[I", .methodLink RX7 99 Lib.Math.abs.name, .static Lib.Math.abs.name, .initialized "java/lang/Math", .code Lib.Math.abs.name Lib.Math.abs.code 1 (some .int), .fieldLink RX7 15 "BuoyVote$Sea" "y" "[I"] wsX70)
theorem iw_c_X7_awayOf_X7 : ∀ w ∈ wsX70, w ∈ wf_c_X7_awayOf := fun w h => List.mem_cons_of_mem _ (List.mem_append_right _ h)
set_option maxHeartbeats 4000000 in
set_option maxRecDepth 100000 in
theorem c_X7_awayOf (l : Launch) (dC : Nat → ClassId) (dI : Nat → Nat → Nat) (sz : Nat) (h0 : Nat) (p1 : Int32) (p2 : Int32) (p3 : Int32) (h0_f0 : Int32) (h0_f1 : Int32) (h0_f2 : Int32) (h0_f3 : Int32) (h0_4 : Nat) (h0_5 : Nat) (h0_6 : Nat) (h0_7 : Nat) (h0_8 : Nat) (h0_9 : Nat) (h0_10 : Nat) (h0_11 : Nat) (h0_12 : Nat) (h0_4k : ClassId) (h0_4c : Nat → Int32) (h0_5k : ClassId) (h0_5c : Nat → Int32) (g_p1 : RG p1 0 2) (g_p2 : RG p2 (-1) 99) (g_p3 : RG p3 (-1) 99) : Met l yX7_awayOf wf_c_X7_awayOf ({ frames := 1, cells := 0, slots := 0, locals := 14 }) (va_Pc [.ref h0, .int p1, .int p2, .int p3] (fun U => U.heap.size = sz ∧ va_P (dC, dI) vwCl (wd_c_X7_awayOf h0 h0_f0 h0_f1 h0_f2 h0_f3 h0_4 h0_5 h0_6 h0_7 h0_8 h0_9 h0_10 h0_11 h0_12 h0_4 h0_4k h0_4c h0_5 h0_5k h0_5c) U.heap ∧ va_K (dC, dI) vwCl [(h0_4k, .int), (h0_5k, .int)] U ∧ va_D (fun _ => True) (wd_c_X7_awayOf h0 h0_f0 h0_f1 h0_f2 h0_f3 h0_4 h0_5 h0_6 h0_7 h0_8 h0_9 h0_10 h0_11 h0_12 h0_4 h0_4k h0_4c h0_5 h0_5k h0_5c))) (va_Qi (fun (r : Int32) (u : Unit) => (RG r (-2147483648) 2147483647)) (fun (u : Unit) t => va_P (dC, dI) vwCl (wd_c_X7_awayOf h0 h0_f0 h0_f1 h0_f2 h0_f3 h0_4 h0_5 h0_6 h0_7 h0_8 h0_9 h0_10 h0_11 h0_12 h0_4 h0_4k h0_4c h0_5 h0_5k h0_5c) t.heap ∧ va_K (dC, dI) vwCl [] t ∧ va_D (va_A (wd_c_X7_awayOf h0 h0_f0 h0_f1 h0_f2 h0_f3 h0_4 h0_5 h0_6 h0_7 h0_8 h0_9 h0_10 h0_11 h0_12 h0_4 h0_4k h0_4c h0_5 h0_5k h0_5c) sz) (wd_c_X7_awayOf h0 h0_f0 h0_f1 h0_f2 h0_f3 h0_4 h0_5 h0_6 h0_7 h0_8 h0_9 h0_10 h0_11 h0_12 h0_4 h0_4k h0_4c h0_5 h0_5k h0_5c)) (va_A (wd_c_X7_awayOf h0 h0_f0 h0_f1 h0_f2 h0_f3 h0_4 h0_5 h0_6 h0_7 h0_8 h0_9 h0_10 h0_11 h0_12 h0_4 h0_4k h0_4c h0_5 h0_5k h0_5c) sz)) 0 0 (va_A (wd_c_X7_awayOf h0 h0_f0 h0_f1 h0_f2 h0_f3 h0_4 h0_5 h0_6 h0_7 h0_8 h0_9 h0_10 h0_11 h0_12 h0_4 h0_4k h0_4c h0_5 h0_5k h0_5c) sz) := by
  refine Met.ofW (cc := cX7_awayOf) (maxL := 4) (ret := (some .int)) (by decide +kernel) rfl ?_
  intro p e s m args below meth c s₁ B hml hv
  obtain ⟨rfl, hsz, hP, hK, hD0⟩ := hv
  have hx := B.exec
  have hb := B.bytes
  have hr := B.returns
  have hts := atoms_spec (ws := wf_c_X7_awayOf) B.pre
  have hown : s.vm.findClass RX7 = some m.cls := findClass_of_methodNamed B.named
  have hlocks := B.notSynchronized
  subst hsz
  have hD := hD0.self (sz := s.heap.size)
  generalize hAe : va_A (wd_c_X7_awayOf h0 h0_f0 h0_f1 h0_f2 h0_f3 h0_4 h0_5 h0_6 h0_7 h0_8 h0_9 h0_10 h0_11 h0_12 h0_4 h0_4k h0_4c h0_5 h0_5k h0_5c) s.heap.size = A at hD ⊢
  have hA : ∀ q : Nat, s.heap.size ≤ q → A q := fun q h => by rw [← hAe]; exact Or.inr h
  have hP : va_P (dC, dI) vwCl (wd_c_X7_awayOf h0 h0_f0 h0_f1 h0_f2 h0_f3 h0_4 h0_5 h0_6 h0_7 h0_8 h0_9 h0_10 h0_11 h0_12 h0_4 h0_4k h0_4c h0_5 h0_5k h0_5c) s.heap := hP
  have hl := lv_entry ([.ref h0, .int p1, .int p2, .int p3]) (n := 4) (Nat.le_of_ble_eq_true rfl)
  rw [lg_entry_eq]
  generalize (lg_sl ([.ref h0, .int p1, .int p2, .int p3]) ++ List.replicate (4 - (lg_sl ([.ref h0, .int p1, .int p2, .int p3])).length) Slot.unset).toArray = ls at hl ⊢
  have hl : lv_has ls 4 [(0, .ref h0), (1, .int p1), (2, .int p2), (3, .int p3)] := hl
  obtain ⟨H, hHe⟩ : ∃ H : Heap, s.heap = H := ⟨_, rfl⟩
  have hS : va_S A s.heap H [] := by rw [hHe]; exact va_S.rf
  have hP : va_P (dC, dI) vwCl (wd_c_X7_awayOf h0 h0_f0 h0_f1 h0_f2 h0_f3 h0_4 h0_5 h0_6 h0_7 h0_8 h0_9 h0_10 h0_11 h0_12 h0_4 h0_4k h0_4c h0_5 h0_5k h0_5c) H := by rw [← hHe]; exact hP
  rw [hHe]
  refine lv_aload_n hx hb dX7_awayOf_0 rfl (lv_at hl 0 rfl) ?_
  as_aux_lemma =>
  refine va_get (D := (dC, dI)) (ci := 7) (v := .ref h0_4) (C := RX7) (T := TX7) (N := 13) hx hb hts iw_c_X7_awayOf_X7 hown hK hP 0 rfl rfl 4 (by decide +kernel) (hts (.fieldLink RX7 9 "BuoyVote$Sea" "x" "[I") (List.mem_of_getElem? (i := 1) rfl)) (fun _ h9 => h9) rfl dX7_awayOf_1 ?_
  refine lv_iload_n hx hb dX7_awayOf_4 rfl (lv_at hl 1 rfl) ?_
  refine va_iald hx hb hK hP 1 0 rfl rfl (RG_in g_p1 (by decide +kernel)) dX7_awayOf_5 ?_
  refine lv_topi (fun x_1 ex_1 => ?_)
  refine lv_iload_n hx hb dX7_awayOf_6 rfl (lv_at hl 2 rfl) ?_
  refine lv_isub hx hb dX7_awayOf_7 ?_
  refine lv_topi (fun x_2 ex_2 => ?_)
  refine va_mabs hx hb (by rw [hml]; exact hl.1.symm) hown (hts (.methodLink RX7 99 Lib.Math.abs.name) (List.mem_of_getElem? (i := 2) rfl)) (hts (.static Lib.Math.abs.name) (List.mem_of_getElem? (i := 3) rfl)) (hts (.initialized "java/lang/Math") (List.mem_of_getElem? (i := 4) rfl)) (hts (.code Lib.Math.abs.name Lib.Math.abs.code 1 (some .int)) (List.mem_of_getElem? (i := 5) rfl)) (Nat.le_of_ble_eq_true rfl) (Nat.le_of_ble_eq_true rfl) (Nat.le_of_ble_eq_true rfl) (Nat.le_of_ble_eq_true rfl) dX7_awayOf_8 ?_
  refine lv_topi (fun x_3 ex_3 => ?_)
  refine lv_aload_n hx hb dX7_awayOf_11 rfl (lv_at hl 0 rfl) ?_
  refine va_get (D := (dC, dI)) (ci := 7) (v := .ref h0_5) (C := RX7) (T := TX7) (N := 13) hx hb hts iw_c_X7_awayOf_X7 hown hK hP 0 rfl rfl 5 (by decide +kernel) (hts (.fieldLink RX7 15 "BuoyVote$Sea" "y" "[I") (List.mem_of_getElem? (i := 6) rfl)) (fun _ h9 => h9) rfl dX7_awayOf_12 ?_
  refine lv_iload_n hx hb dX7_awayOf_15 rfl (lv_at hl 1 rfl) ?_
  refine va_iald hx hb hK hP 2 1 rfl rfl (RG_in g_p1 (by decide +kernel)) dX7_awayOf_16 ?_
  refine lv_topi (fun x_4 ex_4 => ?_)
  as_aux_lemma =>
  refine lv_iload_n hx hb dX7_awayOf_17 rfl (lv_at hl 3 rfl) ?_
  refine lv_isub hx hb dX7_awayOf_18 ?_
  refine lv_topi (fun x_5 ex_5 => ?_)
  refine va_mabs hx hb (by rw [hml]; exact hl.1.symm) hown (hts (.methodLink RX7 99 Lib.Math.abs.name) (List.mem_of_getElem? (i := 2) rfl)) (hts (.static Lib.Math.abs.name) (List.mem_of_getElem? (i := 3) rfl)) (hts (.initialized "java/lang/Math") (List.mem_of_getElem? (i := 4) rfl)) (hts (.code Lib.Math.abs.name Lib.Math.abs.code 1 (some .int)) (List.mem_of_getElem? (i := 5) rfl)) (Nat.le_of_ble_eq_true rfl) (Nat.le_of_ble_eq_true rfl) (Nat.le_of_ble_eq_true rfl) (Nat.le_of_ble_eq_true rfl) dX7_awayOf_19 ?_
  refine lv_topi (fun x_6 ex_6 => ?_)
  refine lv_iadd hx hb dX7_awayOf_22 ?_
  refine lv_topi (fun x_7 ex_7 => ?_)
  have hK9 := hK.sub (tys' := []) [] rfl
  exact W.iret (v := x_7) hx hb hr (fun t ht hW => ⟨⟨x_7, (), rfl, (RG_any x_7), by rw [ht]; exact hP, va_K.moved hW.alike hK9, hD⟩, hS.F ht⟩) hS.2.2 dX7_awayOf_23
noncomputable def wd_c_X10_isRising_1 (a0 : Nat) (a1 : Nat) (a2 : Nat) (a3 : Nat) (a4 : Nat) (a5 : Nat) (a6 : Nat) (a7 : Nat) (a8 : Nat) (a9 : Int32) (a10 : Int32) (a11 : Int32) (a12 : Nat) (a13 : ClassId) (a14 : Nat → Int32) : va_W := [(a0, .inr (10, [.ref a1, .ref a2, .ref a3, .ref a4, .ref a5, .ref a6])), (a7, .inr (0, [.ref a8, .int a9, .int a10, .int a11])), (a12, .inl (a13, 80, .inl a14))]
noncomputable def wf_c_X10_isRising_1 : List Cond := List.cons (.code yX10_isRising cX10_isRising 3 (some .boolean)) (@HAppend.hAppend (List Cond) (List Cond) (List Cond) _ (@HAppend.hAppend (List Cond) (List Cond) (List Cond) _ [.fieldLink RX10 9 "BuoyVote$Waters" "told" "LBuoyVote$Borough;", .methodLink RX10 32 yX0_tideHours, .instanceMethod yX0_tideHours, .selects RX0 yX0_tideHours yX0_tideHours, .initialized RX0, .code yX0_tideHours cX0_tideHours 1 (some .int), .fieldLink RX0 11 "BuoyVote$Borough" "values" "[I"] wsX100) wsX00)
theorem iw_c_X10_isRising_1_X10 : ∀ w ∈ wsX100, w ∈ wf_c_X10_isRising_1 := fun w h => List.mem_cons_of_mem _ (List.mem_append_left _ (List.mem_append_right _ h))
theorem iw_c_X10_isRising_1_X0 : ∀ w ∈ wsX00, w ∈ wf_c_X10_isRising_1 := fun w h => List.mem_cons_of_mem _ (List.mem_append_right _ h)
set_option maxRecDepth 20000 in
theorem gf_c_X10_isRising_1_c_X0_tideHours : GoodIn wf_c_X10_isRising_1 (wsV RX10 32 RX0 yX0_tideHours wf_c_X0_tideHours) := goodIn_app (gi_l [2, 3, 4, 5] rfl rfl) (gi_cons (j := 6) rfl rfl (goodIn_app (gi_l [7] rfl rfl) (goodIn_sub iw_c_X10_isRising_1_X0 gw_X0)))
set_option maxHeartbeats 4000000 in
set_option maxRecDepth 100000 in
theorem c_X10_isRising_1 (l : Launch) (dC : Nat → ClassId) (dI : Nat → Nat → Nat) (sz : Nat) (h0 : Nat) (p1 : Int32) (h0_0 : Nat) (h0_1 : Nat) (h0_2 : Nat) (h0_3 : Nat) (h0_4 : Nat) (h0_5 : Nat) (h0_0_0 : Nat) (h0_0_f1 : Int32) (h0_0_f2 : Int32) (h0_0_f3 : Int32) (h0_0_0k : ClassId) (h0_0_0c : Nat → Int32) (g_h0_0_f1 : RG h0_0_f1 0 8) (g_h0_0_f2 : RG h0_0_f2 0 3) (g_h0_0_f3 : RG h0_0_f3 0 1) (a_h0_0_0c : AI h0_0_0c (-1) 99) : Met l yX10_isRising wf_c_X10_isRising_1 ({ frames := 1, cells := 0, slots := 0, locals := 20 }) (va_Pc [.ref h0, .int p1] (fun U => U.heap.size = sz ∧ va_P (dC, dI) vwCl (wd_c_X10_isRising_1 h0 h0_0 h0_1 h0_2 h0_3 h0_4 h0_5 h0_0 h0_0_0 h0_0_f1 h0_0_f2 h0_0_f3 h0_0_0 h0_0_0k h0_0_0c) U.heap ∧ va_K (dC, dI) vwCl [(h0_0_0k, .int)] U ∧ va_D (fun _ => True) (wd_c_X10_isRising_1 h0 h0_0 h0_1 h0_2 h0_3 h0_4 h0_5 h0_0 h0_0_0 h0_0_f1 h0_0_f2 h0_0_f3 h0_0_0 h0_0_0k h0_0_0c))) (va_Qi (fun (r : Int32) (u : Unit) => (r = 0) ∨ (r = 1)) (fun (u : Unit) t => va_P (dC, dI) vwCl (wd_c_X10_isRising_1 h0 h0_0 h0_1 h0_2 h0_3 h0_4 h0_5 h0_0 h0_0_0 h0_0_f1 h0_0_f2 h0_0_f3 h0_0_0 h0_0_0k h0_0_0c) t.heap ∧ va_K (dC, dI) vwCl [] t ∧ va_D (va_A (wd_c_X10_isRising_1 h0 h0_0 h0_1 h0_2 h0_3 h0_4 h0_5 h0_0 h0_0_0 h0_0_f1 h0_0_f2 h0_0_f3 h0_0_0 h0_0_0k h0_0_0c) sz) (wd_c_X10_isRising_1 h0 h0_0 h0_1 h0_2 h0_3 h0_4 h0_5 h0_0 h0_0_0 h0_0_f1 h0_0_f2 h0_0_f3 h0_0_0 h0_0_0k h0_0_0c)) (va_A (wd_c_X10_isRising_1 h0 h0_0 h0_1 h0_2 h0_3 h0_4 h0_5 h0_0 h0_0_0 h0_0_f1 h0_0_f2 h0_0_f3 h0_0_0 h0_0_0k h0_0_0c) sz)) 0 0 (va_A (wd_c_X10_isRising_1 h0 h0_0 h0_1 h0_2 h0_3 h0_4 h0_5 h0_0 h0_0_0 h0_0_f1 h0_0_f2 h0_0_f3 h0_0_0 h0_0_0k h0_0_0c) sz) := by
  refine Met.ofW (cc := cX10_isRising) (maxL := 3) (ret := (some .boolean)) (by decide +kernel) rfl ?_
  intro p e s m args below meth c s₁ B hml hv
  obtain ⟨rfl, hsz, hP, hK, hD0⟩ := hv
  have hx := B.exec
  have hb := B.bytes
  have hr := B.returns
  have hts := atoms_spec (ws := wf_c_X10_isRising_1) B.pre
  have hown : s.vm.findClass RX10 = some m.cls := findClass_of_methodNamed B.named
  have hlocks := B.notSynchronized
  subst hsz
  have hD := hD0.self (sz := s.heap.size)
  generalize hAe : va_A (wd_c_X10_isRising_1 h0 h0_0 h0_1 h0_2 h0_3 h0_4 h0_5 h0_0 h0_0_0 h0_0_f1 h0_0_f2 h0_0_f3 h0_0_0 h0_0_0k h0_0_0c) s.heap.size = A at hD ⊢
  have hA : ∀ q : Nat, s.heap.size ≤ q → A q := fun q h => by rw [← hAe]; exact Or.inr h
  have hP : va_P (dC, dI) vwCl (wd_c_X10_isRising_1 h0 h0_0 h0_1 h0_2 h0_3 h0_4 h0_5 h0_0 h0_0_0 h0_0_f1 h0_0_f2 h0_0_f3 h0_0_0 h0_0_0k h0_0_0c) s.heap := hP
  have hl := lv_entry ([.ref h0, .int p1]) (n := 3) (Nat.le_of_ble_eq_true rfl)
  rw [lg_entry_eq]
  generalize (lg_sl ([.ref h0, .int p1]) ++ List.replicate (3 - (lg_sl ([.ref h0, .int p1])).length) Slot.unset).toArray = ls at hl ⊢
  have hl : lv_has ls 3 [(0, .ref h0), (1, .int p1)] := hl
  obtain ⟨H, hHe⟩ : ∃ H : Heap, s.heap = H := ⟨_, rfl⟩
  have hS : va_S A s.heap H [] := by rw [hHe]; exact va_S.rf
  have hP : va_P (dC, dI) vwCl (wd_c_X10_isRising_1 h0 h0_0 h0_1 h0_2 h0_3 h0_4 h0_5 h0_0 h0_0_0 h0_0_f1 h0_0_f2 h0_0_f3 h0_0_0 h0_0_0k h0_0_0c) H := by rw [← hHe]; exact hP
  rw [hHe]
  refine lv_aload_n hx hb dX10_isRising_0 rfl (lv_at hl 0 rfl) ?_
  as_aux_lemma =>
  refine va_get (D := (dC, dI)) (ci := 10) (v := .ref h0_0) (C := RX10) (T := TX10) (N := 6) hx hb hts iw_c_X10_isRising_1_X10 hown hK hP 0 rfl rfl 0 (by decide +kernel) (hts (.fieldLink RX10 9 "BuoyVote$Waters" "told" "LBuoyVote$Borough;") (List.mem_of_getElem? (i := 1) rfl)) (fun _ h9 => h9) rfl dX10_isRising_1 ?_
  obtain ⟨hPc, hDc, hFc, hqc⟩ := cl_cut (wc := (wd_c_X0_tideHours h0_0 h0_0_0 h0_0_f1 h0_0_f2 h0_0_f3 h0_0_0 h0_0_0k h0_0_0c)) hP hD hS hA [1, 2] (by decide +kernel) rfl
  have hKc := hK.sub (tys' := [(h0_0_0k, .int)]) [0] rfl
  have hrv := va_recv hKc hPc (ci := 0) (q0 := 0) rfl rfl
  refine va_calli (va_runV (As := []) (rest := []) ⟨hx, hb, hml, hown, hts⟩ (c_X0_tideHours l dC dI H.size h0_0 h0_0_0 h0_0_f1 h0_0_f2 h0_0_f3 h0_0_0k h0_0_0c g_h0_0_f1 g_h0_0_f2 g_h0_0_f3 a_h0_0_0c) (cwV 0 hts gf_c_X10_isRising_1_c_X0_tideHours rfl rfl rfl mdV_X0_tideHours ⟨Nat.le_of_ble_eq_true rfl, Nat.le_of_ble_eq_true rfl⟩) ⟨fun a U g mk q => by obtain ⟨q0, q1, qP, qK, qD⟩ := q; exact ⟨q0, q1, qP, va_K.moved (u := U) (U := U.calling g mk a) (Vm.Alike.refl U.vm) qK, qD⟩, hrv, fun U hU hW => ⟨rfl, by rw [hU], by rw [hU]; exact hPc, va_K.moved hW.alike hKc, hDc.weaken (fun _ _ _ _ => trivial)⟩⟩ rfl rfl hl.1 rfl (lv_room (Nat.le_of_ble_eq_true rfl)) dX10_isRising_4 ⟨Nat.le_of_ble_eq_true rfl, Nat.le_of_ble_eq_true rfl⟩) hS (fun q _ h => hFc q h) hFc (fun r_1 u t H1 locs ht hvm hw hB hz1 hk1 hS => ?_)
  obtain ⟨hP1, hK1, hD1⟩ := hB
  rw [ht] at hP1
  obtain ⟨hP, hD⟩ := cl_put (w1 := (wd_c_X0_tideHours h0_0 h0_0_0 h0_0_f1 h0_0_f2 h0_0_f3 h0_0_0 h0_0_0k h0_0_0c)) (nw := (wd_c_X10_isRising_1 h0 h0_0 h0_1 h0_2 h0_3 h0_4 h0_5 h0_0 h0_0_0 h0_0_f1 h0_0_f2 h0_0_f3 h0_0_0 h0_0_0k h0_0_0c)) hP hD [1, 2] [0, 3, 4] 3 rfl hqc (by decide +kernel) rfl hk1 hFc hP1 hD1
  generalize H1 = H at hP hS ⊢
  as_aux_lemma =>
  have h_2 := hw
  refine lv_istore_n (lv' := [(2, .int r_1), (0, .ref h0), (1, .int p1)]) hx hb dX10_isRising_7 rfl hl (Nat.le_of_ble_eq_true rfl) rfl (fun ls hl => ?_)
  refine lv_iload_n hx hb dX10_isRising_8 rfl (lv_at hl 0 rfl) ?_
  refine lv_if_le (tgt := 25) hx hb dX10_isRising_9 rfl (fun c_3 => ?_) (fun c_3 => ?_)
  · have g_4 : RG r_1 (-1) 0 := RG_le1 h_2 (RG_k 0 0 rfl) c_3 (by decide +kernel)
    refine lv_iconst (v := 0) hx hb dX10_isRising_25 kc_iconst_0 ?_
    have hK9 := hK.sub (tys' := []) [] rfl
    exact W.zret (v := 0) hx hb hr rfl (fun t ht hW => ⟨⟨0, (), rfl, (Or.inl rfl), by rw [ht]; exact hP, va_K.moved hW.alike hK9, hD⟩, hS.F ht⟩) hS.2.2 dX10_isRising_26
  · have d_5 := Int32.not_le.mp c_3
    have g_6 : RG r_1 1 99 := RG_lt2 (RG_k 0 0 rfl) h_2 d_5 (by decide +kernel)
    refine lv_iload_n hx hb dX10_isRising_12 rfl (lv_at hl 2 rfl) ?_
    refine lv_iconst (v := 2) hx hb dX10_isRising_13 kc_iconst_2 ?_
    refine lv_iload_n hx hb dX10_isRising_14 rfl (lv_at hl 0 rfl) ?_
    refine lv_imul hx hb dX10_isRising_15 ?_
    as_aux_lemma =>
    refine lv_topi (fun x_7 ex_7 => ?_)
    have g_8 : RG x_7 2 198 := RG_mulc (RG_com ex_7) (q := 2) rfl g_6 (by decide +kernel)
    refine lv_irem hx hb dX10_isRising_16 (RG_ne0 g_8 (by decide +kernel)) ?_
    refine lv_topi (fun x_9 ex_9 => ?_)
    refine lv_iload_n hx hb dX10_isRising_17 rfl (lv_at hl 0 rfl) ?_
    refine lv_icmp_ge (tgt := 25) hx hb dX10_isRising_18 rfl (fun c_10 => ?_) (fun c_10 => ?_)
    · have g_11 : RG x_9 1 2147483647 := RG_le2 g_6 (RG_any x_9) c_10 (by decide +kernel)
      refine lv_iconst (v := 0) hx hb dX10_isRising_25 kc_iconst_0 ?_
      have hK9 := hK.sub (tys' := []) [] rfl
      exact W.zret (v := 0) hx hb hr rfl (fun t ht hW => ⟨⟨0, (), rfl, (Or.inl rfl), by rw [ht]; exact hP, va_K.moved hW.alike hK9, hD⟩, hS.F ht⟩) hS.2.2 dX10_isRising_26
    · have d_12 := Int32.not_le.mp c_10
      have g_13 : RG x_9 (-2147483648) 98 := RG_lt1 (RG_any x_9) g_6 d_12 (by decide +kernel)
      refine lv_iconst (v := 1) hx hb dX10_isRising_21 kc_iconst_1 ?_
      refine lv_goto (tgt := 26) hx hb dX10_isRising_22 rfl ?_
      as_aux_lemma =>
      have hK9 := hK.sub (tys' := []) [] rfl
      exact W.zret (v := 1) hx hb hr rfl (fun t ht hW => ⟨⟨1, (), rfl, (Or.inr rfl), by rw [ht]; exact hP, va_K.moved hW.alike hK9, hD⟩, hS.F ht⟩) hS.2.2 dX10_isRising_26
noncomputable def wd_c_X10_pushOf (a0 : Nat) (a1 : Int32) (a2 : Int32) (a3 : Int32) (a4 : Int32) (a5 : Nat) (a6 : Nat) (a7 : Nat) (a8 : Nat) (a9 : Nat) (a10 : Nat) (a11 : Nat) (a12 : Nat) (a13 : Nat) (a14 : Nat) (a15 : ClassId) (a16 : Nat → Int32) (a17 : Nat) (a18 : Nat) (a19 : Nat) (a20 : Nat) (a21 : Nat) (a22 : Nat) (a23 : Nat) (a24 : Nat) (a25 : Nat) (a26 : Int32) (a27 : Int32) (a28 : Int32) (a29 : Nat) (a30 : ClassId) (a31 : Nat → Int32) (a32 : Nat) (a33 : ClassId) (a34 : Nat → Int32) : va_W := [(a0, .inr (7, [.int a1, .int a2, .int a3, .int a4, .ref a5, .ref a6, .ref a7, .ref a8, .ref a9, .ref a10, .ref a11, .ref a12, .ref a13])), (a14, .inl (a15, 3, .inl a16)), (a17, .inr (10, [.ref a18, .ref a19, .ref a20, .ref a21, .ref a22, .ref a23])), (a24, .inr (0, [.ref a25, .int a26, .int a27, .int a28])), (a29, .inl (a30, 80, .inl a31)), (a32, .inl (a33, 3, .inl a34))]
noncomputable def wf_c_X10_pushOf : List Cond := List.cons (.code yX10_pushOf cX10_pushOf 10 (some .int)) (@HAppend.hAppend (List Cond) (List Cond) (List Cond) _ (@HAppend.hAppend (List Cond) (List Cond) (List Cond) _ (@HAppend.hAppend (List Cond) (List Cond) (List Cond) _ [.fieldLink RX10 38 "BuoyVote$Sea" "x" "[I", .fieldLink RX10 9 "BuoyVote$Waters" "told" "LBuoyVote$Borough;", .methodLink RX10 43 yX0_buoyX, .instanceMethod yX0_buoyX, .selects RX0 yX0_buoyX yX0_buoyX, .initialized RX0, .code yX0_buoyX cX0_buoyX 2 (some .int), .fieldLink RX0 11 "BuoyVote$Borough" "values" "[I", .fieldLink RX10 47 "BuoyVote$Sea" "y" "[I", .methodLink RX10 50 yX0_buoyY, .instanceMethod yX0_buoyY, .selects RX0 yX0_buoyY yX0_buoyY, .code yX0_buoyY cX0_buoyY 2 (some .int), .fieldLink RX10 53 "BuoyVote$Sea" "way" "I", .fieldLink RX10 57 "BuoyVote$Sea" "wind" "I", .fieldLink RX10 60 "BuoyVote$Sea" "hour" "I", .methodLink RX10 63 yX10_isRising, .instanceMethod yX10_isRising, .selects RX10 yX10_isRising yX10_isRising, .initialized RX10, .code yX10_isRising cX10_isRising 3 (some .boolean), .methodLink RX10 32 yX0_tideHours, .instanceMethod yX0_tideHours, .selects RX0 yX0_tideHours yX0_tideHours, .code yX0_tideHours cX0_tideHours 1 (some .int)] wsX70) wsX100) wsX00)
theorem iw_c_X10_pushOf_X7 : ∀ w ∈ wsX70, w ∈ wf_c_X10_pushOf := fun w h => List.mem_cons_of_mem _ (List.mem_append_left _ (List.mem_append_left _ (List.mem_append_right _ h)))
theorem iw_c_X10_pushOf_X10 : ∀ w ∈ wsX100, w ∈ wf_c_X10_pushOf := fun w h => List.mem_cons_of_mem _ (List.mem_append_left _ (List.mem_append_right _ h))
theorem iw_c_X10_pushOf_X0 : ∀ w ∈ wsX00, w ∈ wf_c_X10_pushOf := fun w h => List.mem_cons_of_mem _ (List.mem_append_right _ h)
set_option maxRecDepth 20000 in
theorem gf_c_X10_pushOf_c_X10_isRising_1 : GoodIn wf_c_X10_pushOf (wsV RX10 63 RX10 yX10_isRising wf_c_X10_isRising_1) := goodIn_app (gi_l [17, 18, 19, 20] rfl rfl) (gi_cons (j := 21) rfl rfl (goodIn_app (goodIn_app (gi_l [2, 22, 23, 24, 6, 25, 8] rfl rfl) (goodIn_sub iw_c_X10_pushOf_X10 gw_X10)) (goodIn_sub iw_c_X10_pushOf_X0 gw_X0)))
set_option maxRecDepth 20000 in
theorem gf_c_X10_pushOf_c_X0_buoyX : GoodIn wf_c_X10_pushOf (wsV RX10 43 RX0 yX0_buoyX wf_c_X0_buoyX) := goodIn_app (gi_l [3, 4, 5, 6] rfl rfl) (gi_cons (j := 7) rfl rfl (goodIn_app (gi_l [8] rfl rfl) (goodIn_sub iw_c_X10_pushOf_X0 gw_X0)))
set_option maxRecDepth 20000 in
theorem gf_c_X10_pushOf_c_X0_buoyY : GoodIn wf_c_X10_pushOf (wsV RX10 50 RX0 yX0_buoyY wf_c_X0_buoyY) := goodIn_app (gi_l [10, 11, 12, 6] rfl rfl) (gi_cons (j := 13) rfl rfl (goodIn_app (gi_l [8] rfl rfl) (goodIn_sub iw_c_X10_pushOf_X0 gw_X0)))
set_option maxHeartbeats 4000000 in
set_option maxRecDepth 100000 in
theorem c_X10_pushOf (l : Launch) (dC : Nat → ClassId) (dI : Nat → Nat → Nat) (sz : Nat) (h0 : Nat) (h1 : Nat) (p2 : Int32) (p3 : Int32) (h1_f0 : Int32) (h1_f1 : Int32) (h1_f2 : Int32) (h1_f3 : Int32) (h1_4 : Nat) (h1_5 : Nat) (h1_6 : Nat) (h1_7 : Nat) (h1_8 : Nat) (h1_9 : Nat) (h1_10 : Nat) (h1_11 : Nat) (h1_12 : Nat) (h1_4k : ClassId) (h1_4c : Nat → Int32) (h0_0 : Nat) (h0_1 : Nat) (h0_2 : Nat) (h0_3 : Nat) (h0_4 : Nat) (h0_5 : Nat) (h0_0_0 : Nat) (h0_0_f1 : Int32) (h0_0_f2 : Int32) (h0_0_f3 : Int32) (h0_0_0k : ClassId) (h0_0_0c : Nat → Int32) (h1_5k : ClassId) (h1_5c : Nat → Int32) (g_p2 : RG p2 0 7) (g_p3 : RG p3 0 2) (g_h0_0_f1 : RG h0_0_f1 0 8) (g_h0_0_f2 : RG h0_0_f2 0 3) (g_h0_0_f3 : RG h0_0_f3 0 1) (a_h0_0_0c : AI h0_0_0c (-1) 99) : Met l yX10_pushOf wf_c_X10_pushOf ({ frames := 2, cells := 0, slots := 0, locals := 42 }) (va_Pc [.ref h0, .ref h1, .int p2, .int p3] (fun U => U.heap.size = sz ∧ va_P (dC, dI) vwCl (wd_c_X10_pushOf h1 h1_f0 h1_f1 h1_f2 h1_f3 h1_4 h1_5 h1_6 h1_7 h1_8 h1_9 h1_10 h1_11 h1_12 h1_4 h1_4k h1_4c h0 h0_0 h0_1 h0_2 h0_3 h0_4 h0_5 h0_0 h0_0_0 h0_0_f1 h0_0_f2 h0_0_f3 h0_0_0 h0_0_0k h0_0_0c h1_5 h1_5k h1_5c) U.heap ∧ va_K (dC, dI) vwCl [(h1_4k, .int), (h0_0_0k, .int), (h1_5k, .int)] U ∧ va_D (fun _ => True) (wd_c_X10_pushOf h1 h1_f0 h1_f1 h1_f2 h1_f3 h1_4 h1_5 h1_6 h1_7 h1_8 h1_9 h1_10 h1_11 h1_12 h1_4 h1_4k h1_4c h0 h0_0 h0_1 h0_2 h0_3 h0_4 h0_5 h0_0 h0_0_0 h0_0_f1 h0_0_f2 h0_0_f3 h0_0_0 h0_0_0k h0_0_0c h1_5 h1_5k h1_5c))) (va_Qi (fun (r : Int32) (u : Unit) => (RG r (-2147483648) 2147483647 ∧ RG h1_f1 (-2147483648) 2147483647)) (fun (u : Unit) t => va_P (dC, dI) vwCl (wd_c_X10_pushOf h1 h1_f0 h1_f1 h1_f2 h1_f3 h1_4 h1_5 h1_6 h1_7 h1_8 h1_9 h1_10 h1_11 h1_12 h1_4 h1_4k h1_4c h0 h0_0 h0_1 h0_2 h0_3 h0_4 h0_5 h0_0 h0_0_0 h0_0_f1 h0_0_f2 h0_0_f3 h0_0_0 h0_0_0k h0_0_0c h1_5 h1_5k h1_5c) t.heap ∧ va_K (dC, dI) vwCl [] t ∧ va_D (va_A (wd_c_X10_pushOf h1 h1_f0 h1_f1 h1_f2 h1_f3 h1_4 h1_5 h1_6 h1_7 h1_8 h1_9 h1_10 h1_11 h1_12 h1_4 h1_4k h1_4c h0 h0_0 h0_1 h0_2 h0_3 h0_4 h0_5 h0_0 h0_0_0 h0_0_f1 h0_0_f2 h0_0_f3 h0_0_0 h0_0_0k h0_0_0c h1_5 h1_5k h1_5c) sz) (wd_c_X10_pushOf h1 h1_f0 h1_f1 h1_f2 h1_f3 h1_4 h1_5 h1_6 h1_7 h1_8 h1_9 h1_10 h1_11 h1_12 h1_4 h1_4k h1_4c h0 h0_0 h0_1 h0_2 h0_3 h0_4 h0_5 h0_0 h0_0_0 h0_0_f1 h0_0_f2 h0_0_f3 h0_0_0 h0_0_0k h0_0_0c h1_5 h1_5k h1_5c)) (va_A (wd_c_X10_pushOf h1 h1_f0 h1_f1 h1_f2 h1_f3 h1_4 h1_5 h1_6 h1_7 h1_8 h1_9 h1_10 h1_11 h1_12 h1_4 h1_4k h1_4c h0 h0_0 h0_1 h0_2 h0_3 h0_4 h0_5 h0_0 h0_0_0 h0_0_f1 h0_0_f2 h0_0_f3 h0_0_0 h0_0_0k h0_0_0c h1_5 h1_5k h1_5c) sz)) 0 0 (va_A (wd_c_X10_pushOf h1 h1_f0 h1_f1 h1_f2 h1_f3 h1_4 h1_5 h1_6 h1_7 h1_8 h1_9 h1_10 h1_11 h1_12 h1_4 h1_4k h1_4c h0 h0_0 h0_1 h0_2 h0_3 h0_4 h0_5 h0_0 h0_0_0 h0_0_f1 h0_0_f2 h0_0_f3 h0_0_0 h0_0_0k h0_0_0c h1_5 h1_5k h1_5c) sz) := by
  refine Met.ofW (cc := cX10_pushOf) (maxL := 10) (ret := (some .int)) (by decide +kernel) rfl ?_
  intro p e s m args below meth c s₁ B hml hv
  obtain ⟨rfl, hsz, hP, hK, hD0⟩ := hv
  have hx := B.exec
  have hb := B.bytes
  have hr := B.returns
  have hts := atoms_spec (ws := wf_c_X10_pushOf) B.pre
  have hown : s.vm.findClass RX10 = some m.cls := findClass_of_methodNamed B.named
  have hlocks := B.notSynchronized
  subst hsz
  have hD := hD0.self (sz := s.heap.size)
  generalize hAe : va_A (wd_c_X10_pushOf h1 h1_f0 h1_f1 h1_f2 h1_f3 h1_4 h1_5 h1_6 h1_7 h1_8 h1_9 h1_10 h1_11 h1_12 h1_4 h1_4k h1_4c h0 h0_0 h0_1 h0_2 h0_3 h0_4 h0_5 h0_0 h0_0_0 h0_0_f1 h0_0_f2 h0_0_f3 h0_0_0 h0_0_0k h0_0_0c h1_5 h1_5k h1_5c) s.heap.size = A at hD ⊢
  have hA : ∀ q : Nat, s.heap.size ≤ q → A q := fun q h => by rw [← hAe]; exact Or.inr h
  have hP : va_P (dC, dI) vwCl (wd_c_X10_pushOf h1 h1_f0 h1_f1 h1_f2 h1_f3 h1_4 h1_5 h1_6 h1_7 h1_8 h1_9 h1_10 h1_11 h1_12 h1_4 h1_4k h1_4c h0 h0_0 h0_1 h0_2 h0_3 h0_4 h0_5 h0_0 h0_0_0 h0_0_f1 h0_0_f2 h0_0_f3 h0_0_0 h0_0_0k h0_0_0c h1_5 h1_5k h1_5c) s.heap := hP
  have hl := lv_entry ([.ref h0, .ref h1, .int p2, .int p3]) (n := 10) (Nat.le_of_ble_eq_true rfl)
  rw [lg_entry_eq]
  generalize (lg_sl ([.ref h0, .ref h1, .int p2, .int p3]) ++ List.replicate (10 - (lg_sl ([.ref h0, .ref h1, .int p2, .int p3])).length) Slot.unset).toArray = ls at hl ⊢
  have hl : lv_has ls 10 [(0, .ref h0), (1, .ref h1), (2, .int p2), (3, .int p3)] := hl
  obtain ⟨H, hHe⟩ : ∃ H : Heap, s.heap = H := ⟨_, rfl⟩
  have hS : va_S A s.heap H [] := by rw [hHe]; exact va_S.rf
  have hP : va_P (dC, dI) vwCl (wd_c_X10_pushOf h1 h1_f0 h1_f1 h1_f2 h1_f3 h1_4 h1_5 h1_6 h1_7 h1_8 h1_9 h1_10 h1_11 h1_12 h1_4 h1_4k h1_4c h0 h0_0 h0_1 h0_2 h0_3 h0_4 h0_5 h0_0 h0_0_0 h0_0_f1 h0_0_f2 h0_0_f3 h0_0_0 h0_0_0k h0_0_0c h1_5 h1_5k h1_5c) H := by rw [← hHe]; exact hP
  rw [hHe]
  refine wj (fun G hG hU => ?_)
  as_aux_lemma =>
  have J132 : ∀ (j132_l8 : Int32) (g_h0_0_f1 : RG h0_0_f1 0 8) (g_h0_0_f2 : RG h0_0_f2 0 3) (g_h0_0_f3 : RG h0_0_f3 0 1) (g_h1_f1 : RG h1_f1 (-2147483648) 2147483647) (g_p2 : RG p2 0 7) (g_p3 : RG p3 0 2) (H : Heap) (locs : List Loc) (ls : Array Slot) (hP : va_P (dC, dI) vwCl (wd_c_X10_pushOf h1 h1_f0 h1_f1 h1_f2 h1_f3 h1_4 h1_5 h1_6 h1_7 h1_8 h1_9 h1_10 h1_11 h1_12 h1_4 h1_4k h1_4c h0 h0_0 h0_1 h0_2 h0_3 h0_4 h0_5 h0_0 h0_0_0 h0_0_f1 h0_0_f2 h0_0_f3 h0_0_0 h0_0_0k h0_0_0c h1_5 h1_5k h1_5c) H) (hD : va_D A (wd_c_X10_pushOf h1 h1_f0 h1_f1 h1_f2 h1_f3 h1_4 h1_5 h1_6 h1_7 h1_8 h1_9 h1_10 h1_11 h1_12 h1_4 h1_4k h1_4c h0 h0_0 h0_1 h0_2 h0_3 h0_4 h0_5 h0_0 h0_0_0 h0_0_f1 h0_0_f2 h0_0_f3 h0_0_0 h0_0_0k h0_0_0c h1_5 h1_5k h1_5c)) (hS : va_S A s.heap H locs) (hl : lv_has ls 10 [(8, .int j132_l8)]), G H locs (F0 m 132 ls [.int 0]) := by
    as_aux_lemma =>
    intro j132_l8 g_h0_0_f1 g_h0_0_f2 g_h0_0_f3 g_h1_f1 g_p2 g_p3 H locs ls hP hD hS hl
    refine hG _ _ _ ?_
    refine lv_istore (lv' := [(9, .int 0), (8, .int j132_l8)]) hx hb dX10_pushOf_132 hl (Nat.le_of_ble_eq_true rfl) rfl (fun ls hl => ?_)
    refine lv_iload hx hb dX10_pushOf_134 (lv_at hl 0 rfl) ?_
    refine lv_if_eq (tgt := 146) hx hb dX10_pushOf_136 rfl (fun c_1 => ?_) (fun c_1 => absurd c_1 (by decide +kernel))
    refine lv_iload hx hb dX10_pushOf_146 (lv_at hl 1 rfl) ?_
    have hK9 := hK.sub (tys' := []) [] rfl
    exact W.iret (v := j132_l8) hx hb hr (fun t ht hW => ⟨⟨j132_l8, (), rfl, ⟨(RG_any j132_l8), g_h1_f1⟩, by rw [ht]; exact hP, va_K.moved hW.alike hK9, hD⟩, hS.F ht⟩) hS.2.2 dX10_pushOf_148
  have J132b : ∀ (j132b_l8 : Int32) (g_h0_0_f1 : RG h0_0_f1 0 8) (g_h0_0_f2 : RG h0_0_f2 0 3) (g_h0_0_f3 : RG h0_0_f3 0 1) (g_h1_f1 : RG h1_f1 (-2147483648) 2147483647) (g_p2 : RG p2 0 7) (g_p3 : RG p3 0 2) (H : Heap) (locs : List Loc) (ls : Array Slot) (hP : va_P (dC, dI) vwCl (wd_c_X10_pushOf h1 h1_f0 h1_f1 h1_f2 h1_f3 h1_4 h1_5 h1_6 h1_7 h1_8 h1_9 h1_10 h1_11 h1_12 h1_4 h1_4k h1_4c h0 h0_0 h0_1 h0_2 h0_3 h0_4 h0_5 h0_0 h0_0_0 h0_0_f1 h0_0_f2 h0_0_f3 h0_0_0 h0_0_0k h0_0_0c h1_5 h1_5k h1_5c) H) (hD : va_D A (wd_c_X10_pushOf h1 h1_f0 h1_f1 h1_f2 h1_f3 h1_4 h1_5 h1_6 h1_7 h1_8 h1_9 h1_10 h1_11 h1_12 h1_4 h1_4k h1_4c h0 h0_0 h0_1 h0_2 h0_3 h0_4 h0_5 h0_0 h0_0_0 h0_0_f1 h0_0_f2 h0_0_f3 h0_0_0 h0_0_0k h0_0_0c h1_5 h1_5k h1_5c)) (hS : va_S A s.heap H locs) (hl : lv_has ls 10 [(8, .int j132b_l8)]), G H locs (F0 m 132 ls [.int 1]) := by
    as_aux_lemma =>
    intro j132b_l8 g_h0_0_f1 g_h0_0_f2 g_h0_0_f3 g_h1_f1 g_p2 g_p3 H locs ls hP hD hS hl
    refine hG _ _ _ ?_
    refine lv_istore (lv' := [(9, .int 1), (8, .int j132b_l8)]) hx hb dX10_pushOf_132 hl (Nat.le_of_ble_eq_true rfl) rfl (fun ls hl => ?_)
    refine lv_iload hx hb dX10_pushOf_134 (lv_at hl 0 rfl) ?_
    refine lv_if_eq (tgt := 146) hx hb dX10_pushOf_136 rfl (fun c_2 => absurd c_2 (by decide +kernel)) (fun c_2 => ?_)
    refine lv_iload hx hb dX10_pushOf_139 (lv_at hl 1 rfl) ?_
    refine lv_iconst (v := 1) hx hb dX10_pushOf_141 kc_iconst_1 ?_
    refine lv_iadd hx hb dX10_pushOf_142 ?_
    refine lv_topi (fun x_3 ex_3 => ?_)
    refine lv_goto (tgt := 148) hx hb dX10_pushOf_143 rfl ?_
    have hK9 := hK.sub (tys' := []) [] rfl
    exact W.iret (v := x_3) hx hb hr (fun t ht hW => ⟨⟨x_3, (), rfl, ⟨(RG_any x_3), g_h1_f1⟩, by rw [ht]; exact hP, va_K.moved hW.alike hK9, hD⟩, hS.F ht⟩) hS.2.2 dX10_pushOf_148
  have J96 : ∀ (j96_l4 : Int32) (g_h0_0_f1 : RG h0_0_f1 0 8) (g_h0_0_f2 : RG h0_0_f2 0 3) (g_h0_0_f3 : RG h0_0_f3 0 1) (g_h1_f1 : RG h1_f1 (-2147483648) 2147483647) (g_p2 : RG p2 0 7) (g_p3 : RG p3 0 2) (H : Heap) (locs : List Loc) (ls : Array Slot) (hP : va_P (dC, dI) vwCl (wd_c_X10_pushOf h1 h1_f0 h1_f1 h1_f2 h1_f3 h1_4 h1_5 h1_6 h1_7 h1_8 h1_9 h1_10 h1_11 h1_12 h1_4 h1_4k h1_4c h0 h0_0 h0_1 h0_2 h0_3 h0_4 h0_5 h0_0 h0_0_0 h0_0_f1 h0_0_f2 h0_0_f3 h0_0_0 h0_0_0k h0_0_0c h1_5 h1_5k h1_5c) H) (hD : va_D A (wd_c_X10_pushOf h1 h1_f0 h1_f1 h1_f2 h1_f3 h1_4 h1_5 h1_6 h1_7 h1_8 h1_9 h1_10 h1_11 h1_12 h1_4 h1_4k h1_4c h0 h0_0 h0_1 h0_2 h0_3 h0_4 h0_5 h0_0 h0_0_0 h0_0_f1 h0_0_f2 h0_0_f3 h0_0_0 h0_0_0k h0_0_0c h1_5 h1_5k h1_5c)) (hS : va_S A s.heap H locs) (hl : lv_has ls 10 [(4, .int j96_l4), (0, .ref h0), (1, .ref h1)]), G H locs (F0 m 96 ls [.int 0]) := by
    as_aux_lemma =>
    intro j96_l4 g_h0_0_f1 g_h0_0_f2 g_h0_0_f3 g_h1_f1 g_p2 g_p3 H locs ls hP hD hS hl
    refine hG _ _ _ ?_
    refine lv_istore (lv' := [(8, .int 0), (4, .int j96_l4), (0, .ref h0), (1, .ref h1)]) hx hb dX10_pushOf_96 hl (Nat.le_of_ble_eq_true rfl) rfl (fun ls hl => ?_)
    refine lv_aload_n hx hb dX10_pushOf_98 rfl (lv_at hl 2 rfl) ?_
    refine lv_aload_n hx hb dX10_pushOf_99 rfl (lv_at hl 3 rfl) ?_
    refine va_get (D := (dC, dI)) (ci := 7) (v := .int h1_f2) (C := RX7) (T := TX7) (N := 13) hx hb hts iw_c_X10_pushOf_X7 hown hK hP 0 rfl rfl 2 (by decide +kernel) (hts (.fieldLink RX10 60 "BuoyVote$Sea" "hour" "I") (List.mem_of_getElem? (i := 16) rfl)) (fun _ h9 => h9) rfl dX10_pushOf_100 ?_
    obtain ⟨hPc, hDc, hFc, hqc⟩ := cl_cut (wc := (wd_c_X10_isRising_1 h0 h0_0 h0_1 h0_2 h0_3 h0_4 h0_5 h0_0 h0_0_0 h0_0_f1 h0_0_f2 h0_0_f3 h0_0_0 h0_0_0k h0_0_0c)) hP hD hS hA [2, 3, 4] (by decide +kernel) rfl
    have hKc := hK.sub (tys' := [(h0_0_0k, .int)]) [1] rfl
    have hrv := va_recv hKc hPc (ci := 10) (q0 := 0) rfl rfl
    refine va_calli (va_runV (As := [.int h1_f2]) (rest := []) ⟨hx, hb, hml, hown, hts⟩ (c_X10_isRising_1 l dC dI H.size h0 h1_f2 h0_0 h0_1 h0_2 h0_3 h0_4 h0_5 h0_0_0 h0_0_f1 h0_0_f2 h0_0_f3 h0_0_0k h0_0_0c g_h0_0_f1 g_h0_0_f2 g_h0_0_f3 a_h0_0_0c) (cwV 1 hts gf_c_X10_pushOf_c_X10_isRising_1 rfl rfl rfl mdV_X10_isRising ⟨Nat.le_of_ble_eq_true rfl, Nat.le_of_ble_eq_true rfl⟩) ⟨fun a U g mk q => by obtain ⟨q0, q1, qP, qK, qD⟩ := q; exact ⟨q0, q1, qP, va_K.moved (u := U) (U := U.calling g mk a) (Vm.Alike.refl U.vm) qK, qD⟩, hrv, fun U hU hW => ⟨rfl, by rw [hU], by rw [hU]; exact hPc, va_K.moved hW.alike hKc, hDc.weaken (fun _ _ _ _ => trivial)⟩⟩ rfl rfl hl.1 rfl (lv_room (Nat.le_of_ble_eq_true rfl)) dX10_pushOf_103 ⟨Nat.le_of_ble_eq_true rfl, Nat.le_of_ble_eq_true rfl⟩) hS (fun q _ h => hFc q h) hFc (fun r_4 u t H1 locs ht hvm hw hB hz1 hk1 hS => ?_)
    obtain ⟨hP1, hK1, hD1⟩ := hB
    rw [ht] at hP1
    obtain ⟨hP, hD⟩ := cl_put (w1 := (wd_c_X10_isRising_1 h0 h0_0 h0_1 h0_2 h0_3 h0_4 h0_5 h0_0 h0_0_0 h0_0_f1 h0_0_f2 h0_0_f3 h0_0_0 h0_0_0k h0_0_0c)) (nw := (wd_c_X10_pushOf h1 h1_f0 h1_f1 h1_f2 h1_f3 h1_4 h1_5 h1_6 h1_7 h1_8 h1_9 h1_10 h1_11 h1_12 h1_4 h1_4k h1_4c h0 h0_0 h0_1 h0_2 h0_3 h0_4 h0_5 h0_0 h0_0_0 h0_0_f1 h0_0_f2 h0_0_f3 h0_0_0 h0_0_0k h0_0_0c h1_5 h1_5k h1_5c)) hP hD [2, 3, 4] [0, 1, 6, 7, 8, 5] 6 rfl hqc (by decide +kernel) rfl hk1 hFc hP1 hD1
    generalize H1 = H at hP hS ⊢
    as_aux_lemma =>
    rcases hw with h_5 | h_6
    · rw [h_5]
      refine lv_if_eq (tgt := 122) hx hb dX10_pushOf_106 rfl (fun c_7 => ?_) (fun c_7 => absurd c_7 (by decide +kernel))
      refine lv_iload hx hb dX10_pushOf_122 (lv_at hl 1 rfl) ?_
      refine lv_if_ge (tgt := 131) hx hb dX10_pushOf_124 rfl (fun c_8 => ?_) (fun c_8 => ?_)
      · have g_9 : RG j96_l4 0 2147483647 := RG_le2 (RG_k 0 0 rfl) (RG_any j96_l4) c_8 (by decide +kernel)
        refine lv_iconst (v := 0) hx hb dX10_pushOf_131 kc_iconst_0 ?_
        exact hU _ _ _ (J132 0 g_h0_0_f1 g_h0_0_f2 g_h0_0_f3 g_h1_f1 g_p2 g_p3 _ _ _ hP hD hS (lv_sub hl [0] rfl))
      · have d_10 := Int32.not_le.mp c_8
        have g_11 : RG j96_l4 (-2147483648) (-1) := RG_lt1 (RG_any j96_l4) (RG_k 0 0 rfl) d_10 (by decide +kernel)
        refine lv_iconst (v := 1) hx hb dX10_pushOf_127 kc_iconst_1 ?_
        refine lv_goto (tgt := 132) hx hb dX10_pushOf_128 rfl ?_
        exact hU _ _ _ (J132b 0 g_h0_0_f1 g_h0_0_f2 g_h0_0_f3 g_h1_f1 g_p2 g_p3 _ _ _ hP hD hS (lv_sub hl [0] rfl))
    · rw [h_6]
      refine lv_if_eq (tgt := 122) hx hb dX10_pushOf_106 rfl (fun c_12 => absurd c_12 (by decide +kernel)) (fun c_12 => ?_)
      as_aux_lemma =>
      refine lv_iload hx hb dX10_pushOf_109 (lv_at hl 1 rfl) ?_
      refine lv_if_le (tgt := 118) hx hb dX10_pushOf_111 rfl (fun c_13 => ?_) (fun c_13 => ?_)
      · have g_14 : RG j96_l4 (-2147483648) 0 := RG_le1 (RG_any j96_l4) (RG_k 0 0 rfl) c_13 (by decide +kernel)
        refine lv_iconst (v := 0) hx hb dX10_pushOf_118 kc_iconst_0 ?_
        refine lv_goto (tgt := 132) hx hb dX10_pushOf_119 rfl ?_
        exact hU _ _ _ (J132 0 g_h0_0_f1 g_h0_0_f2 g_h0_0_f3 g_h1_f1 g_p2 g_p3 _ _ _ hP hD hS (lv_sub hl [0] rfl))
      · have d_15 := Int32.not_le.mp c_13
        have g_16 : RG j96_l4 1 2147483647 := RG_lt2 (RG_k 0 0 rfl) (RG_any j96_l4) d_15 (by decide +kernel)
        refine lv_iconst (v := 1) hx hb dX10_pushOf_114 kc_iconst_1 ?_
        refine lv_goto (tgt := 132) hx hb dX10_pushOf_115 rfl ?_
        exact hU _ _ _ (J132b 0 g_h0_0_f1 g_h0_0_f2 g_h0_0_f3 g_h1_f1 g_p2 g_p3 _ _ _ hP hD hS (lv_sub hl [0] rfl))
  have J96b : ∀ (j96b_l4 : Int32) (j96b_s0 : Int32) (g_h0_0_f1 : RG h0_0_f1 0 8) (g_h0_0_f2 : RG h0_0_f2 0 3) (g_h0_0_f3 : RG h0_0_f3 0 1) (g_h1_f1 : RG h1_f1 (-2147483648) 2147483647) (g_p2 : RG p2 0 7) (g_p3 : RG p3 0 2) (H : Heap) (locs : List Loc) (ls : Array Slot) (hP : va_P (dC, dI) vwCl (wd_c_X10_pushOf h1 h1_f0 h1_f1 h1_f2 h1_f3 h1_4 h1_5 h1_6 h1_7 h1_8 h1_9 h1_10 h1_11 h1_12 h1_4 h1_4k h1_4c h0 h0_0 h0_1 h0_2 h0_3 h0_4 h0_5 h0_0 h0_0_0 h0_0_f1 h0_0_f2 h0_0_f3 h0_0_0 h0_0_0k h0_0_0c h1_5 h1_5k h1_5c) H) (hD : va_D A (wd_c_X10_pushOf h1 h1_f0 h1_f1 h1_f2 h1_f3 h1_4 h1_5 h1_6 h1_7 h1_8 h1_9 h1_10 h1_11 h1_12 h1_4 h1_4k h1_4c h0 h0_0 h0_1 h0_2 h0_3 h0_4 h0_5 h0_0 h0_0_0 h0_0_f1 h0_0_f2 h0_0_f3 h0_0_0 h0_0_0k h0_0_0c h1_5 h1_5k h1_5c)) (hS : va_S A s.heap H locs) (hl : lv_has ls 10 [(4, .int j96b_l4), (0, .ref h0), (1, .ref h1)]), G H locs (F0 m 96 ls [.int j96b_s0]) := by
    as_aux_lemma =>
    intro j96b_l4 j96b_s0 g_h0_0_f1 g_h0_0_f2 g_h0_0_f3 g_h1_f1 g_p2 g_p3 H locs ls hP hD hS hl
    refine hG _ _ _ ?_
    refine lv_istore (lv' := [(8, .int j96b_s0), (4, .int j96b_l4), (0, .ref h0), (1, .ref h1)]) hx hb dX10_pushOf_96 hl (Nat.le_of_ble_eq_true rfl) rfl (fun ls hl => ?_)
    refine lv_aload_n hx hb dX10_pushOf_98 rfl (lv_at hl 2 rfl) ?_
    refine lv_aload_n hx hb dX10_pushOf_99 rfl (lv_at hl 3 rfl) ?_
    refine va_get (D := (dC, dI)) (ci := 7) (v := .int h1_f2) (C := RX7) (T := TX7) (N := 13) hx hb hts iw_c_X10_pushOf_X7 hown hK hP 0 rfl rfl 2 (by decide +kernel) (hts (.fieldLink RX10 60 "BuoyVote$Sea" "hour" "I") (List.mem_of_getElem? (i := 16) rfl)) (fun _ h9 => h9) rfl dX10_pushOf_100 ?_
    obtain ⟨hPc, hDc, hFc, hqc⟩ := cl_cut (wc := (wd_c_X10_isRising_1 h0 h0_0 h0_1 h0_2 h0_3 h0_4 h0_5 h0_0 h0_0_0 h0_0_f1 h0_0_f2 h0_0_f3 h0_0_0 h0_0_0k h0_0_0c)) hP hD hS hA [2, 3, 4] (by decide +kernel) rfl
    have hKc := hK.sub (tys' := [(h0_0_0k, .int)]) [1] rfl
    have hrv := va_recv hKc hPc (ci := 10) (q0 := 0) rfl rfl
    refine va_calli (va_runV (As := [.int h1_f2]) (rest := []) ⟨hx, hb, hml, hown, hts⟩ (c_X10_isRising_1 l dC dI H.size h0 h1_f2 h0_0 h0_1 h0_2 h0_3 h0_4 h0_5 h0_0_0 h0_0_f1 h0_0_f2 h0_0_f3 h0_0_0k h0_0_0c g_h0_0_f1 g_h0_0_f2 g_h0_0_f3 a_h0_0_0c) (cwV 1 hts gf_c_X10_pushOf_c_X10_isRising_1 rfl rfl rfl mdV_X10_isRising ⟨Nat.le_of_ble_eq_true rfl, Nat.le_of_ble_eq_true rfl⟩) ⟨fun a U g mk q => by obtain ⟨q0, q1, qP, qK, qD⟩ := q; exact ⟨q0, q1, qP, va_K.moved (u := U) (U := U.calling g mk a) (Vm.Alike.refl U.vm) qK, qD⟩, hrv, fun U hU hW => ⟨rfl, by rw [hU], by rw [hU]; exact hPc, va_K.moved hW.alike hKc, hDc.weaken (fun _ _ _ _ => trivial)⟩⟩ rfl rfl hl.1 rfl (lv_room (Nat.le_of_ble_eq_true rfl)) dX10_pushOf_103 ⟨Nat.le_of_ble_eq_true rfl, Nat.le_of_ble_eq_true rfl⟩) hS (fun q _ h => hFc q h) hFc (fun r_17 u t H1 locs ht hvm hw hB hz1 hk1 hS => ?_)
    obtain ⟨hP1, hK1, hD1⟩ := hB
    rw [ht] at hP1
    obtain ⟨hP, hD⟩ := cl_put (w1 := (wd_c_X10_isRising_1 h0 h0_0 h0_1 h0_2 h0_3 h0_4 h0_5 h0_0 h0_0_0 h0_0_f1 h0_0_f2 h0_0_f3 h0_0_0 h0_0_0k h0_0_0c)) (nw := (wd_c_X10_pushOf h1 h1_f0 h1_f1 h1_f2 h1_f3 h1_4 h1_5 h1_6 h1_7 h1_8 h1_9 h1_10 h1_11 h1_12 h1_4 h1_4k h1_4c h0 h0_0 h0_1 h0_2 h0_3 h0_4 h0_5 h0_0 h0_0_0 h0_0_f1 h0_0_f2 h0_0_f3 h0_0_0 h0_0_0k h0_0_0c h1_5 h1_5k h1_5c)) hP hD [2, 3, 4] [0, 1, 6, 7, 8, 5] 6 rfl hqc (by decide +kernel) rfl hk1 hFc hP1 hD1
    generalize H1 = H at hP hS ⊢
    as_aux_lemma =>
    rcases hw with h_18 | h_19
    · rw [h_18]
      refine lv_if_eq (tgt := 122) hx hb dX10_pushOf_106 rfl (fun c_20 => ?_) (fun c_20 => absurd c_20 (by decide +kernel))
      refine lv_iload hx hb dX10_pushOf_122 (lv_at hl 1 rfl) ?_
      refine lv_if_ge (tgt := 131) hx hb dX10_pushOf_124 rfl (fun c_21 => ?_) (fun c_21 => ?_)
      · have g_22 : RG j96b_l4 0 2147483647 := RG_le2 (RG_k 0 0 rfl) (RG_any j96b_l4) c_21 (by decide +kernel)
        refine lv_iconst (v := 0) hx hb dX10_pushOf_131 kc_iconst_0 ?_
        exact hU _ _ _ (J132 j96b_s0 g_h0_0_f1 g_h0_0_f2 g_h0_0_f3 g_h1_f1 g_p2 g_p3 _ _ _ hP hD hS (lv_sub hl [0] rfl))
      · have d_23 := Int32.not_le.mp c_21
        have g_24 : RG j96b_l4 (-2147483648) (-1) := RG_lt1 (RG_any j96b_l4) (RG_k 0 0 rfl) d_23 (by decide +kernel)
        refine lv_iconst (v := 1) hx hb dX10_pushOf_127 kc_iconst_1 ?_
        refine lv_goto (tgt := 132) hx hb dX10_pushOf_128 rfl ?_
        exact hU _ _ _ (J132b j96b_s0 g_h0_0_f1 g_h0_0_f2 g_h0_0_f3 g_h1_f1 g_p2 g_p3 _ _ _ hP hD hS (lv_sub hl [0] rfl))
    · rw [h_19]
      refine lv_if_eq (tgt := 122) hx hb dX10_pushOf_106 rfl (fun c_25 => absurd c_25 (by decide +kernel)) (fun c_25 => ?_)
      as_aux_lemma =>
      refine lv_iload hx hb dX10_pushOf_109 (lv_at hl 1 rfl) ?_
      refine lv_if_le (tgt := 118) hx hb dX10_pushOf_111 rfl (fun c_26 => ?_) (fun c_26 => ?_)
      · have g_27 : RG j96b_l4 (-2147483648) 0 := RG_le1 (RG_any j96b_l4) (RG_k 0 0 rfl) c_26 (by decide +kernel)
        refine lv_iconst (v := 0) hx hb dX10_pushOf_118 kc_iconst_0 ?_
        refine lv_goto (tgt := 132) hx hb dX10_pushOf_119 rfl ?_
        exact hU _ _ _ (J132 j96b_s0 g_h0_0_f1 g_h0_0_f2 g_h0_0_f3 g_h1_f1 g_p2 g_p3 _ _ _ hP hD hS (lv_sub hl [0] rfl))
      · have d_28 := Int32.not_le.mp c_26
        have g_29 : RG j96b_l4 1 2147483647 := RG_lt2 (RG_k 0 0 rfl) (RG_any j96b_l4) d_28 (by decide +kernel)
        refine lv_iconst (v := 1) hx hb dX10_pushOf_114 kc_iconst_1 ?_
        refine lv_goto (tgt := 132) hx hb dX10_pushOf_115 rfl ?_
        exact hU _ _ _ (J132b j96b_s0 g_h0_0_f1 g_h0_0_f2 g_h0_0_f3 g_h1_f1 g_p2 g_p3 _ _ _ hP hD hS (lv_sub hl [0] rfl))
  have J68 : ∀ (j68_l4 : Int32) (j68_s0 : Int32) (g_h0_0_f1 : RG h0_0_f1 0 8) (g_h0_0_f2 : RG h0_0_f2 0 3) (g_h0_0_f3 : RG h0_0_f3 0 1) (g_h1_f1 : RG h1_f1 (-2147483648) 2147483647) (g_p2 : RG p2 0 7) (g_p3 : RG p3 0 2) (H : Heap) (locs : List Loc) (ls : Array Slot) (hP : va_P (dC, dI) vwCl (wd_c_X10_pushOf h1 h1_f0 h1_f1 h1_f2 h1_f3 h1_4 h1_5 h1_6 h1_7 h1_8 h1_9 h1_10 h1_11 h1_12 h1_4 h1_4k h1_4c h0 h0_0 h0_1 h0_2 h0_3 h0_4 h0_5 h0_0 h0_0_0 h0_0_f1 h0_0_f2 h0_0_f3 h0_0_0 h0_0_0k h0_0_0c h1_5 h1_5k h1_5c) H) (hD : va_D A (wd_c_X10_pushOf h1 h1_f0 h1_f1 h1_f2 h1_f3 h1_4 h1_5 h1_6 h1_7 h1_8 h1_9 h1_10 h1_11 h1_12 h1_4 h1_4k h1_4c h0 h0_0 h0_1 h0_2 h0_3 h0_4 h0_5 h0_0 h0_0_0 h0_0_f1 h0_0_f2 h0_0_f3 h0_0_0 h0_0_0k h0_0_0c h1_5 h1_5k h1_5c)) (hS : va_S A s.heap H locs) (hl : lv_has ls 10 [(4, .int j68_l4), (0, .ref h0), (1, .ref h1)]), G H locs (F0 m 68 ls [.int j68_s0]) := by
    as_aux_lemma =>
    intro j68_l4 j68_s0 g_h0_0_f1 g_h0_0_f2 g_h0_0_f3 g_h1_f1 g_p2 g_p3 H locs ls hP hD hS hl
    refine hG _ _ _ ?_
    refine lv_istore (lv' := [(7, .int j68_s0), (4, .int j68_l4), (0, .ref h0), (1, .ref h1)]) hx hb dX10_pushOf_68 hl (Nat.le_of_ble_eq_true rfl) rfl (fun ls hl => ?_)
    refine lv_iload hx hb dX10_pushOf_70 (lv_at hl 0 rfl) ?_
    refine lv_if_le (tgt := 82) hx hb dX10_pushOf_72 rfl (fun c_30 => ?_) (fun c_30 => ?_)
    · have g_31 : RG j68_s0 (-2147483648) 0 := RG_le1 (RG_any j68_s0) (RG_k 0 0 rfl) c_30 (by decide +kernel)
      refine lv_iload hx hb dX10_pushOf_82 (lv_at hl 0 rfl) ?_
      refine lv_if_ge (tgt := 95) hx hb dX10_pushOf_84 rfl (fun c_32 => ?_) (fun c_32 => ?_)
      · have g_33 : RG j68_s0 0 0 := RG_le2 (RG_k 0 0 rfl) g_31 c_32 (by decide +kernel)
        refine lv_iconst (v := 0) hx hb dX10_pushOf_95 kc_iconst_0 ?_
        exact hU _ _ _ (J96 j68_l4 g_h0_0_f1 g_h0_0_f2 g_h0_0_f3 g_h1_f1 g_p2 g_p3 _ _ _ hP hD hS (lv_sub hl [1, 2, 3] rfl))
      · have d_34 := Int32.not_le.mp c_32
        have g_35 : RG j68_s0 (-2147483648) (-1) := RG_lt1 g_31 (RG_k 0 0 rfl) d_34 (by decide +kernel)
        refine lv_aload_n hx hb dX10_pushOf_87 rfl (lv_at hl 3 rfl) ?_
        as_aux_lemma =>
        refine va_get (D := (dC, dI)) (ci := 7) (v := .int h1_f0) (C := RX7) (T := TX7) (N := 13) hx hb hts iw_c_X10_pushOf_X7 hown hK hP 0 rfl rfl 0 (by decide +kernel) (hts (.fieldLink RX10 57 "BuoyVote$Sea" "wind" "I") (List.mem_of_getElem? (i := 15) rfl)) (fun _ h9 => h9) rfl dX10_pushOf_88 ?_
        refine lv_ineg hx hb dX10_pushOf_91 ?_
        refine lv_topi (fun x_36 ex_36 => ?_)
        refine lv_goto (tgt := 96) hx hb dX10_pushOf_92 rfl ?_
        exact hU _ _ _ (J96b j68_l4 x_36 g_h0_0_f1 g_h0_0_f2 g_h0_0_f3 g_h1_f1 g_p2 g_p3 _ _ _ hP hD hS (lv_sub hl [1, 2, 3] rfl))
    · have d_37 := Int32.not_le.mp c_30
      have g_38 : RG j68_s0 1 2147483647 := RG_lt2 (RG_k 0 0 rfl) (RG_any j68_s0) d_37 (by decide +kernel)
      refine lv_aload_n hx hb dX10_pushOf_75 rfl (lv_at hl 3 rfl) ?_
      refine va_get (D := (dC, dI)) (ci := 7) (v := .int h1_f0) (C := RX7) (T := TX7) (N := 13) hx hb hts iw_c_X10_pushOf_X7 hown hK hP 0 rfl rfl 0 (by decide +kernel) (hts (.fieldLink RX10 57 "BuoyVote$Sea" "wind" "I") (List.mem_of_getElem? (i := 15) rfl)) (fun _ h9 => h9) rfl dX10_pushOf_76 ?_
      refine lv_goto (tgt := 96) hx hb dX10_pushOf_79 rfl ?_
      exact hU _ _ _ (J96b j68_l4 h1_f0 g_h0_0_f1 g_h0_0_f2 g_h0_0_f3 g_h1_f1 g_p2 g_p3 _ _ _ hP hD hS (lv_sub hl [1, 2, 3] rfl))
  have J50 : ∀ (j50_l4 : Int32) (j50_s0 : Int32) (g_h0_0_f1 : RG h0_0_f1 0 8) (g_h0_0_f2 : RG h0_0_f2 0 3) (g_h0_0_f3 : RG h0_0_f3 0 1) (g_p2 : RG p2 0 7) (g_p3 : RG p3 0 2) (H : Heap) (locs : List Loc) (ls : Array Slot) (hP : va_P (dC, dI) vwCl (wd_c_X10_pushOf h1 h1_f0 h1_f1 h1_f2 h1_f3 h1_4 h1_5 h1_6 h1_7 h1_8 h1_9 h1_10 h1_11 h1_12 h1_4 h1_4k h1_4c h0 h0_0 h0_1 h0_2 h0_3 h0_4 h0_5 h0_0 h0_0_0 h0_0_f1 h0_0_f2 h0_0_f3 h0_0_0 h0_0_0k h0_0_0c h1_5 h1_5k h1_5c) H) (hD : va_D A (wd_c_X10_pushOf h1 h1_f0 h1_f1 h1_f2 h1_f3 h1_4 h1_5 h1_6 h1_7 h1_8 h1_9 h1_10 h1_11 h1_12 h1_4 h1_4k h1_4c h0 h0_0 h0_1 h0_2 h0_3 h0_4 h0_5 h0_0 h0_0_0 h0_0_f1 h0_0_f2 h0_0_f3 h0_0_0 h0_0_0k h0_0_0c h1_5 h1_5k h1_5c)) (hS : va_S A s.heap H locs) (hl : lv_has ls 10 [(4, .int j50_l4), (0, .ref h0), (1, .ref h1)]), G H locs (F0 m 50 ls [.int j50_s0]) := by
    as_aux_lemma =>
    intro j50_l4 j50_s0 g_h0_0_f1 g_h0_0_f2 g_h0_0_f3 g_p2 g_p3 H locs ls hP hD hS hl
    refine hG _ _ _ ?_
    refine lv_istore (lv' := [(6, .int j50_s0), (4, .int j50_l4), (0, .ref h0), (1, .ref h1)]) hx hb dX10_pushOf_50 hl (Nat.le_of_ble_eq_true rfl) rfl (fun ls hl => ?_)
    refine lv_aload_n hx hb dX10_pushOf_52 rfl (lv_at hl 3 rfl) ?_
    refine va_get (D := (dC, dI)) (ci := 7) (v := .int h1_f1) (C := RX7) (T := TX7) (N := 13) hx hb hts iw_c_X10_pushOf_X7 hown hK hP 0 rfl rfl 1 (by decide +kernel) (hts (.fieldLink RX10 53 "BuoyVote$Sea" "way" "I") (List.mem_of_getElem? (i := 14) rfl)) (fun _ h9 => h9) rfl dX10_pushOf_53 ?_
    refine lv_iconst (v := 2) hx hb dX10_pushOf_56 kc_iconst_2 ?_
    refine lv_icmp_ge (tgt := 65) hx hb dX10_pushOf_57 rfl (fun c_39 => ?_) (fun c_39 => ?_)
    · have g_40 : RG h1_f1 2 2147483647 := RG_le2 (RG_k 2 2 rfl) (RG_any h1_f1) c_39 (by decide +kernel)
      refine lv_iload hx hb dX10_pushOf_65 (lv_at hl 0 rfl) ?_
      refine lv_ineg hx hb dX10_pushOf_67 ?_
      refine lv_topi (fun x_41 ex_41 => ?_)
      exact hU _ _ _ (J68 j50_l4 x_41 g_h0_0_f1 g_h0_0_f2 g_h0_0_f3 (RG_w g_40 (by decide +kernel)) g_p2 g_p3 _ _ _ hP hD hS (lv_sub hl [1, 2, 3] rfl))
    · have d_42 := Int32.not_le.mp c_39
      have g_43 : RG h1_f1 (-2147483648) 1 := RG_lt1 (RG_any h1_f1) (RG_k 2 2 rfl) d_42 (by decide +kernel)
      refine lv_iload hx hb dX10_pushOf_60 (lv_at hl 0 rfl) ?_
      as_aux_lemma =>
      refine lv_goto (tgt := 68) hx hb dX10_pushOf_62 rfl ?_
      exact hU _ _ _ (J68 j50_l4 j50_s0 g_h0_0_f1 g_h0_0_f2 g_h0_0_f3 (RG_w g_43 (by decide +kernel)) g_p2 g_p3 _ _ _ hP hD hS (lv_sub hl [1, 2, 3] rfl))
  refine hG _ _ _ ?_
  refine lv_aload_n hx hb dX10_pushOf_0 rfl (lv_at hl 1 rfl) ?_
  refine va_get (D := (dC, dI)) (ci := 7) (v := .ref h1_4) (C := RX7) (T := TX7) (N := 13) hx hb hts iw_c_X10_pushOf_X7 hown hK hP 0 rfl rfl 4 (by decide +kernel) (hts (.fieldLink RX10 38 "BuoyVote$Sea" "x" "[I") (List.mem_of_getElem? (i := 1) rfl)) (fun _ h9 => h9) rfl dX10_pushOf_1 ?_
  refine lv_iload_n hx hb dX10_pushOf_4 rfl (lv_at hl 3 rfl) ?_
  refine va_iald hx hb hK hP 1 0 rfl rfl (RG_in g_p3 (by decide +kernel)) dX10_pushOf_5 ?_
  refine lv_topi (fun x_44 ex_44 => ?_)
  refine lv_aload_n hx hb dX10_pushOf_6 rfl (lv_at hl 0 rfl) ?_
  refine va_get (D := (dC, dI)) (ci := 10) (v := .ref h0_0) (C := RX10) (T := TX10) (N := 6) hx hb hts iw_c_X10_pushOf_X10 hown hK hP 2 rfl rfl 0 (by decide +kernel) (hts (.fieldLink RX10 9 "BuoyVote$Waters" "told" "LBuoyVote$Borough;") (List.mem_of_getElem? (i := 2) rfl)) (fun _ h9 => h9) rfl dX10_pushOf_7 ?_
  refine lv_iload_n hx hb dX10_pushOf_10 rfl (lv_at hl 2 rfl) ?_
  obtain ⟨hPc, hDc, hFc, hqc⟩ := cl_cut (wc := (wd_c_X0_buoyX h0_0 h0_0_0 h0_0_f1 h0_0_f2 h0_0_f3 h0_0_0 h0_0_0k h0_0_0c)) hP hD hS hA [3, 4] (by decide +kernel) rfl
  have hKc := hK.sub (tys' := [(h0_0_0k, .int)]) [1] rfl
  have hrv := va_recv hKc hPc (ci := 0) (q0 := 0) rfl rfl
  refine va_calli (va_runV (As := [.int p2]) (rest := [.int x_44]) ⟨hx, hb, hml, hown, hts⟩ (c_X0_buoyX l dC dI H.size h0_0 p2 h0_0_0 h0_0_f1 h0_0_f2 h0_0_f3 h0_0_0k h0_0_0c g_p2 g_h0_0_f1 g_h0_0_f2 g_h0_0_f3 a_h0_0_0c) (cwV 1 hts gf_c_X10_pushOf_c_X0_buoyX rfl rfl rfl mdV_X0_buoyX ⟨Nat.le_of_ble_eq_true rfl, Nat.le_of_ble_eq_true rfl⟩) ⟨fun a U g mk q => by obtain ⟨q0, q1, qP, qK, qD⟩ := q; exact ⟨q0, q1, qP, va_K.moved (u := U) (U := U.calling g mk a) (Vm.Alike.refl U.vm) qK, qD⟩, hrv, fun U hU hW => ⟨rfl, by rw [hU], by rw [hU]; exact hPc, va_K.moved hW.alike hKc, hDc.weaken (fun _ _ _ _ => trivial)⟩⟩ rfl rfl hl.1 rfl (lv_room (Nat.le_of_ble_eq_true rfl)) dX10_pushOf_11 ⟨Nat.le_of_ble_eq_true rfl, Nat.le_of_ble_eq_true rfl⟩) hS (fun q _ h => hFc q h) hFc (fun r_45 u t H1 locs ht hvm hw hB hz1 hk1 hS => ?_)
  as_aux_lemma =>
  obtain ⟨hP1, hK1, hD1⟩ := hB
  rw [ht] at hP1
  obtain ⟨hP, hD⟩ := cl_put (w1 := (wd_c_X0_buoyX h0_0 h0_0_0 h0_0_f1 h0_0_f2 h0_0_f3 h0_0_0 h0_0_0k h0_0_0c)) (nw := (wd_c_X10_pushOf h1 h1_f0 h1_f1 h1_f2 h1_f3 h1_4 h1_5 h1_6 h1_7 h1_8 h1_9 h1_10 h1_11 h1_12 h1_4 h1_4k h1_4c h0 h0_0 h0_1 h0_2 h0_3 h0_4 h0_5 h0_0 h0_0_0 h0_0_f1 h0_0_f2 h0_0_f3 h0_0_0 h0_0_0k h0_0_0c h1_5 h1_5k h1_5c)) hP hD [3, 4] [0, 1, 2, 6, 7, 5] 6 rfl hqc (by decide +kernel) rfl hk1 hFc hP1 hD1
  generalize H1 = H at hP hS ⊢
  as_aux_lemma =>
  rcases hw with ⟨h_46, h_47⟩
  refine lv_isub hx hb dX10_pushOf_14 ?_
  refine lv_topi (fun x_48 ex_48 => ?_)
  refine lv_istore (lv' := [(4, .int x_48), (0, .ref h0), (1, .ref h1), (2, .int p2), (3, .int p3)]) hx hb dX10_pushOf_15 hl (Nat.le_of_ble_eq_true rfl) rfl (fun ls hl => ?_)
  refine lv_aload_n hx hb dX10_pushOf_17 rfl (lv_at hl 2 rfl) ?_
  refine va_get (D := (dC, dI)) (ci := 7) (v := .ref h1_5) (C := RX7) (T := TX7) (N := 13) hx hb hts iw_c_X10_pushOf_X7 hown hK hP 0 rfl rfl 5 (by decide +kernel) (hts (.fieldLink RX10 47 "BuoyVote$Sea" "y" "[I") (List.mem_of_getElem? (i := 9) rfl)) (fun _ h9 => h9) rfl dX10_pushOf_18 ?_
  refine lv_iload_n hx hb dX10_pushOf_21 rfl (lv_at hl 4 rfl) ?_
  refine va_iald hx hb hK hP 5 2 rfl rfl (RG_in g_p3 (by decide +kernel)) dX10_pushOf_22 ?_
  refine lv_topi (fun x_49 ex_49 => ?_)
  refine lv_aload_n hx hb dX10_pushOf_23 rfl (lv_at hl 1 rfl) ?_
  refine va_get (D := (dC, dI)) (ci := 10) (v := .ref h0_0) (C := RX10) (T := TX10) (N := 6) hx hb hts iw_c_X10_pushOf_X10 hown hK hP 2 rfl rfl 0 (by decide +kernel) (hts (.fieldLink RX10 9 "BuoyVote$Waters" "told" "LBuoyVote$Borough;") (List.mem_of_getElem? (i := 2) rfl)) (fun _ h9 => h9) rfl dX10_pushOf_24 ?_
  refine lv_iload_n hx hb dX10_pushOf_27 rfl (lv_at hl 3 rfl) ?_
  obtain ⟨hPc, hDc, hFc, hqc⟩ := cl_cut (wc := (wd_c_X0_buoyY h0_0 h0_0_0 h0_0_f1 h0_0_f2 h0_0_f3 h0_0_0 h0_0_0k h0_0_0c)) hP hD hS hA [3, 4] (by decide +kernel) rfl
  have hKc := hK.sub (tys' := [(h0_0_0k, .int)]) [1] rfl
  have hrv := va_recv hKc hPc (ci := 0) (q0 := 0) rfl rfl
  refine va_calli (va_runV (As := [.int p2]) (rest := [.int x_49]) ⟨hx, hb, hml, hown, hts⟩ (c_X0_buoyY l dC dI H.size h0_0 p2 h0_0_0 h0_0_f1 h0_0_f2 h0_0_f3 h0_0_0k h0_0_0c g_p2 g_h0_0_f1 g_h0_0_f2 g_h0_0_f3 a_h0_0_0c) (cwV 1 hts gf_c_X10_pushOf_c_X0_buoyY rfl rfl rfl mdV_X0_buoyY ⟨Nat.le_of_ble_eq_true rfl, Nat.le_of_ble_eq_true rfl⟩) ⟨fun a U g mk q => by obtain ⟨q0, q1, qP, qK, qD⟩ := q; exact ⟨q0, q1, qP, va_K.moved (u := U) (U := U.calling g mk a) (Vm.Alike.refl U.vm) qK, qD⟩, hrv, fun U hU hW => ⟨rfl, by rw [hU], by rw [hU]; exact hPc, va_K.moved hW.alike hKc, hDc.weaken (fun _ _ _ _ => trivial)⟩⟩ rfl rfl hl.1 rfl (lv_room (Nat.le_of_ble_eq_true rfl)) dX10_pushOf_28 ⟨Nat.le_of_ble_eq_true rfl, Nat.le_of_ble_eq_true rfl⟩) hS (fun q _ h => hFc q h) hFc (fun r_50 u t H1 locs ht hvm hw hB hz1 hk1 hS => ?_)
  as_aux_lemma =>
  obtain ⟨hP1, hK1, hD1⟩ := hB
  rw [ht] at hP1
  obtain ⟨hP, hD⟩ := cl_put (w1 := (wd_c_X0_buoyY h0_0 h0_0_0 h0_0_f1 h0_0_f2 h0_0_f3 h0_0_0 h0_0_0k h0_0_0c)) (nw := (wd_c_X10_pushOf h1 h1_f0 h1_f1 h1_f2 h1_f3 h1_4 h1_5 h1_6 h1_7 h1_8 h1_9 h1_10 h1_11 h1_12 h1_4 h1_4k h1_4c h0 h0_0 h0_1 h0_2 h0_3 h0_4 h0_5 h0_0 h0_0_0 h0_0_f1 h0_0_f2 h0_0_f3 h0_0_0 h0_0_0k h0_0_0c h1_5 h1_5k h1_5c)) hP hD [3, 4] [0, 1, 2, 6, 7, 5] 6 rfl hqc (by decide +kernel) rfl hk1 hFc hP1 hD1
  generalize H1 = H at hP hS ⊢
  as_aux_lemma =>
  rcases hw with ⟨h_51, h_52⟩
  refine lv_isub hx hb dX10_pushOf_31 ?_
  refine lv_topi (fun x_53 ex_53 => ?_)
  refine lv_istore (lv' := [(5, .int x_53), (4, .int x_48), (0, .ref h0), (1, .ref h1), (2, .int p2), (3, .int p3)]) hx hb dX10_pushOf_32 hl (Nat.le_of_ble_eq_true rfl) rfl (fun ls hl => ?_)
  refine lv_aload_n hx hb dX10_pushOf_34 rfl (lv_at hl 3 rfl) ?_
  refine va_get (D := (dC, dI)) (ci := 7) (v := .int h1_f1) (C := RX7) (T := TX7) (N := 13) hx hb hts iw_c_X10_pushOf_X7 hown hK hP 0 rfl rfl 1 (by decide +kernel) (hts (.fieldLink RX10 53 "BuoyVote$Sea" "way" "I") (List.mem_of_getElem? (i := 14) rfl)) (fun _ h9 => h9) rfl dX10_pushOf_35 ?_
  refine lv_iconst (v := 2) hx hb dX10_pushOf_38 kc_iconst_2 ?_
  refine lv_irem hx hb dX10_pushOf_39 (by decide +kernel) ?_
  refine lv_topi (fun x_54 ex_54 => ?_)
  refine lv_if_ne (tgt := 48) hx hb dX10_pushOf_40 rfl (fun c_55 => ?_) (fun c_55 => ?_)
  · refine lv_iload hx hb dX10_pushOf_48 (lv_at hl 0 rfl) ?_
    exact hU _ _ _ (J50 x_48 x_53 g_h0_0_f1 g_h0_0_f2 g_h0_0_f3 g_p2 g_p3 _ _ _ hP hD hS (lv_sub hl [1, 2, 3] rfl))
  · have g_56 : RG x_54 0 0 := RG_eq1 (RG_any x_54) (RG_k 0 0 rfl) c_55 (by decide +kernel)
    refine lv_iload hx hb dX10_pushOf_43 (lv_at hl 1 rfl) ?_
    as_aux_lemma =>
    refine lv_goto (tgt := 50) hx hb dX10_pushOf_45 rfl ?_
    exact hU _ _ _ (J50 x_48 x_48 g_h0_0_f1 g_h0_0_f2 g_h0_0_f3 g_p2 g_p3 _ _ _ hP hD hS (lv_sub hl [1, 2, 3] rfl))
noncomputable def wd_c_X4_joinedAt (a0 : Nat) (a1 : Nat) (a2 : Int32) (a3 : Nat) (a4 : Nat) (a5 : ClassId) (a6 : Nat → Int32) : va_W := [(a0, .inr (4, [.ref a1, .int a2, .ref a3])), (a4, .inl (a5, 64, .inl a6))]
noncomputable def wf_c_X4_joinedAt : List Cond := List.cons (.code yX4_joinedAt cX4_joinedAt 7 (some .int)) (@HAppend.hAppend (List Cond) (List Cond) (List Cond) _ [.fieldLink RX4 17 "BuoyVote$Law" "stack" "[I", .constantLong RX4 28 (1000000), .constantLong RX4 31 (-1000000), .constant RX4 33 (-1000000), .constant RX4 30 (1000000)] wsX40)
theorem iw_c_X4_joinedAt_X4 : ∀ w ∈ wsX40, w ∈ wf_c_X4_joinedAt := fun w h => List.mem_cons_of_mem _ (List.mem_append_right _ h)
set_option maxHeartbeats 4000000 in
set_option maxRecDepth 100000 in
theorem c_X4_joinedAt (l : Launch) (dC : Nat → ClassId) (dI : Nat → Nat → Nat) (sz : Nat) (h0 : Nat) (p1 : Int32) (p2 : Int32) (h0_0 : Nat) (h0_f1 : Int32) (h0_2 : Nat) (h0_2k : ClassId) (h0_2c : Nat → Int32) (g_p1 : RG p1 0 2147483647) (g_p2 : RG p2 0 64) (g_h0_f1 : RG h0_f1 0 240) : Met l yX4_joinedAt wf_c_X4_joinedAt ({ frames := 0, cells := 0, slots := 0, locals := 0 }) (va_Pc [.ref h0, .int p1, .int p2] (fun U => U.heap.size = sz ∧ va_P (dC, dI) vwCl (wd_c_X4_joinedAt h0 h0_0 h0_f1 h0_2 h0_2 h0_2k h0_2c) U.heap ∧ va_K (dC, dI) vwCl [(h0_2k, .int)] U ∧ va_D (fun _ => True) (wd_c_X4_joinedAt h0 h0_0 h0_f1 h0_2 h0_2 h0_2k h0_2c))) (va_Qi (fun (r : Int32) (u : (Nat → Int32)) => (RG r 0 64)) (fun (u : (Nat → Int32)) t => va_P (dC, dI) vwCl (wd_c_X4_joinedAt h0 h0_0 h0_f1 h0_2 h0_2 h0_2k (u)) t.heap ∧ va_K (dC, dI) vwCl [] t ∧ va_D (va_A (wd_c_X4_joinedAt h0 h0_0 h0_f1 h0_2 h0_2 h0_2k h0_2c) sz) (wd_c_X4_joinedAt h0 h0_0 h0_f1 h0_2 h0_2 h0_2k (u))) (va_A (wd_c_X4_joinedAt h0 h0_0 h0_f1 h0_2 h0_2 h0_2k h0_2c) sz)) 0 0 (va_A (wd_c_X4_joinedAt h0 h0_0 h0_f1 h0_2 h0_2 h0_2k h0_2c) sz) := by
  refine Met.ofW (cc := cX4_joinedAt) (maxL := 7) (ret := (some .int)) (by decide +kernel) rfl ?_
  intro p e s m args below meth c s₁ B hml hv
  obtain ⟨rfl, hsz, hP, hK, hD0⟩ := hv
  have hx := B.exec
  have hb := B.bytes
  have hr := B.returns
  have hts := atoms_spec (ws := wf_c_X4_joinedAt) B.pre
  have hown : s.vm.findClass RX4 = some m.cls := findClass_of_methodNamed B.named
  have hlocks := B.notSynchronized
  subst hsz
  have hD := hD0.self (sz := s.heap.size)
  generalize hAe : va_A (wd_c_X4_joinedAt h0 h0_0 h0_f1 h0_2 h0_2 h0_2k h0_2c) s.heap.size = A at hD ⊢
  have hA : ∀ q : Nat, s.heap.size ≤ q → A q := fun q h => by rw [← hAe]; exact Or.inr h
  have hP : va_P (dC, dI) vwCl (wd_c_X4_joinedAt h0 h0_0 h0_f1 h0_2 h0_2 h0_2k h0_2c) s.heap := hP
  have hl := lv_entry ([.ref h0, .int p1, .int p2]) (n := 7) (Nat.le_of_ble_eq_true rfl)
  rw [lg_entry_eq]
  generalize (lg_sl ([.ref h0, .int p1, .int p2]) ++ List.replicate (7 - (lg_sl ([.ref h0, .int p1, .int p2])).length) Slot.unset).toArray = ls at hl ⊢
  have hl : lv_has ls 7 [(0, .ref h0), (1, .int p1), (2, .int p2)] := hl
  obtain ⟨H, hHe⟩ : ∃ H : Heap, s.heap = H := ⟨_, rfl⟩
  have hS : va_S A s.heap H [] := by rw [hHe]; exact va_S.rf
  have hP : va_P (dC, dI) vwCl (wd_c_X4_joinedAt h0 h0_0 h0_f1 h0_2 h0_2 h0_2k h0_2c) H := by rw [← hHe]; exact hP
  rw [hHe]
  refine wj (fun G hG hU => ?_)
  as_aux_lemma =>
  have J333b : ∀ (j333b_s1 : Int32) (g_h0_f1 : RG h0_f1 0 240) (g_j333b_s1 : RG j333b_s1 0 62) (g_p1 : RG p1 0 2147483647) (g_p2 : RG p2 2 64) (H : Heap) (locs : List Loc) (ls : Array Slot) (hP : va_P (dC, dI) vwCl (wd_c_X4_joinedAt h0 h0_0 h0_f1 h0_2 h0_2 h0_2k h0_2c) H) (hD : va_D A (wd_c_X4_joinedAt h0 h0_0 h0_f1 h0_2 h0_2 h0_2k h0_2c)) (hS : va_S A s.heap H locs) (hl : lv_has ls 7 [(2, .int p2)]), G H locs (F0 m 333 ls [.int (-1000000), .int j333b_s1, .ref h0_2]) := by
    as_aux_lemma =>
    intro j333b_s1 g_h0_f1 g_j333b_s1 g_p1 g_p2 H locs ls hP hD hS hl
    refine hG _ _ _ ?_
    refine va_iast hx hb hK hP hD hS 1 0 rfl rfl (RG_in g_j333b_s1 (by decide +kernel)) dX4_joinedAt_333 (fun H locs hP hD hS => ?_)
    have hP : va_P (dC, dI) vwCl (wd_c_X4_joinedAt h0 h0_0 h0_f1 h0_2 h0_2 h0_2k (upd h0_2c (j333b_s1 : Int32).toNatClampNeg (-1000000))) H := hP
    have hD : va_D A (wd_c_X4_joinedAt h0 h0_0 h0_f1 h0_2 h0_2 h0_2k (upd h0_2c (j333b_s1 : Int32).toNatClampNeg (-1000000))) := hD
    have l_2 : (upd h0_2c (j333b_s1 : Int32).toNatClampNeg (-1000000)) (j333b_s1 : Int32).toNatClampNeg = (-1000000) := pk_us
    generalize (upd h0_2c (j333b_s1 : Int32).toNatClampNeg (-1000000)) = w_1 at hP hD l_2
    have hP : va_P (dC, dI) vwCl (wd_c_X4_joinedAt h0 h0_0 h0_f1 h0_2 h0_2 h0_2k w_1) H := hP
    have hD : va_D A (wd_c_X4_joinedAt h0 h0_0 h0_f1 h0_2 h0_2 h0_2k w_1) := hD
    refine lv_iload_n hx hb dX4_joinedAt_334 rfl (lv_at hl 0 rfl) ?_
    refine lv_iconst (v := 1) hx hb dX4_joinedAt_335 kc_iconst_1 ?_
    refine lv_isub hx hb dX4_joinedAt_336 ?_
    refine lv_topi (fun x_3 ex_3 => ?_)
    have g_4 : RG x_3 1 63 := RG_sub ex_3 g_p2 (RG_k 1 1 rfl) (by decide +kernel)
    have hK9 := hK.sub (tys' := []) [] rfl
    exact W.iret (v := x_3) hx hb hr (fun t ht hW => ⟨⟨x_3, w_1, rfl, (RG_w g_4 (by decide +kernel)), by rw [ht]; exact hP, va_K.moved hW.alike hK9, hD⟩, hS.F ht⟩) hS.2.2 dX4_joinedAt_337
  have J333c : ∀ (j333c_s1 : Int32) (g_h0_f1 : RG h0_f1 0 240) (g_j333c_s1 : RG j333c_s1 0 62) (g_p1 : RG p1 0 2147483647) (g_p2 : RG p2 2 64) (H : Heap) (locs : List Loc) (ls : Array Slot) (hP : va_P (dC, dI) vwCl (wd_c_X4_joinedAt h0 h0_0 h0_f1 h0_2 h0_2 h0_2k h0_2c) H) (hD : va_D A (wd_c_X4_joinedAt h0 h0_0 h0_f1 h0_2 h0_2 h0_2k h0_2c)) (hS : va_S A s.heap H locs) (hl : lv_has ls 7 [(2, .int p2)]), G H locs (F0 m 333 ls [.int 1000000, .int j333c_s1, .ref h0_2]) := by
    as_aux_lemma =>
    intro j333c_s1 g_h0_f1 g_j333c_s1 g_p1 g_p2 H locs ls hP hD hS hl
    refine hG _ _ _ ?_
    refine va_iast hx hb hK hP hD hS 1 0 rfl rfl (RG_in g_j333c_s1 (by decide +kernel)) dX4_joinedAt_333 (fun H locs hP hD hS => ?_)
    have hP : va_P (dC, dI) vwCl (wd_c_X4_joinedAt h0 h0_0 h0_f1 h0_2 h0_2 h0_2k (upd h0_2c (j333c_s1 : Int32).toNatClampNeg 1000000)) H := hP
    have hD : va_D A (wd_c_X4_joinedAt h0 h0_0 h0_f1 h0_2 h0_2 h0_2k (upd h0_2c (j333c_s1 : Int32).toNatClampNeg 1000000)) := hD
    have l_6 : (upd h0_2c (j333c_s1 : Int32).toNatClampNeg 1000000) (j333c_s1 : Int32).toNatClampNeg = 1000000 := pk_us
    generalize (upd h0_2c (j333c_s1 : Int32).toNatClampNeg 1000000) = w_5 at hP hD l_6
    have hP : va_P (dC, dI) vwCl (wd_c_X4_joinedAt h0 h0_0 h0_f1 h0_2 h0_2 h0_2k w_5) H := hP
    have hD : va_D A (wd_c_X4_joinedAt h0 h0_0 h0_f1 h0_2 h0_2 h0_2k w_5) := hD
    refine lv_iload_n hx hb dX4_joinedAt_334 rfl (lv_at hl 0 rfl) ?_
    refine lv_iconst (v := 1) hx hb dX4_joinedAt_335 kc_iconst_1 ?_
    refine lv_isub hx hb dX4_joinedAt_336 ?_
    refine lv_topi (fun x_7 ex_7 => ?_)
    have g_8 : RG x_7 1 63 := RG_sub ex_7 g_p2 (RG_k 1 1 rfl) (by decide +kernel)
    have hK9 := hK.sub (tys' := []) [] rfl
    exact W.iret (v := x_7) hx hb hr (fun t ht hW => ⟨⟨x_7, w_5, rfl, (RG_w g_8 (by decide +kernel)), by rw [ht]; exact hP, va_K.moved hW.alike hK9, hD⟩, hS.F ht⟩) hS.2.2 dX4_joinedAt_337
  have J333 : ∀ (j333_s1 : Int32) (j333_s2 : Int32) (g_h0_f1 : RG h0_f1 0 240) (g_j333_s1 : RG j333_s1 0 62) (g_j333_s2 : RG j333_s2 (-1000000) 1000000) (g_p1 : RG p1 0 2147483647) (g_p2 : RG p2 2 64) (H : Heap) (locs : List Loc) (ls : Array Slot) (hP : va_P (dC, dI) vwCl (wd_c_X4_joinedAt h0 h0_0 h0_f1 h0_2 h0_2 h0_2k h0_2c) H) (hD : va_D A (wd_c_X4_joinedAt h0 h0_0 h0_f1 h0_2 h0_2 h0_2k h0_2c)) (hS : va_S A s.heap H locs) (hl : lv_has ls 7 [(2, .int p2)]), G H locs (F0 m 333 ls [.int j333_s2, .int j333_s1, .ref h0_2]) := by
    as_aux_lemma =>
    intro j333_s1 j333_s2 g_h0_f1 g_j333_s1 g_j333_s2 g_p1 g_p2 H locs ls hP hD hS hl
    refine hG _ _ _ ?_
    refine va_iast hx hb hK hP hD hS 1 0 rfl rfl (RG_in g_j333_s1 (by decide +kernel)) dX4_joinedAt_333 (fun H locs hP hD hS => ?_)
    have hP : va_P (dC, dI) vwCl (wd_c_X4_joinedAt h0 h0_0 h0_f1 h0_2 h0_2 h0_2k (upd h0_2c (j333_s1 : Int32).toNatClampNeg j333_s2)) H := hP
    have hD : va_D A (wd_c_X4_joinedAt h0 h0_0 h0_f1 h0_2 h0_2 h0_2k (upd h0_2c (j333_s1 : Int32).toNatClampNeg j333_s2)) := hD
    have l_10 : (upd h0_2c (j333_s1 : Int32).toNatClampNeg j333_s2) (j333_s1 : Int32).toNatClampNeg = j333_s2 := pk_us
    generalize (upd h0_2c (j333_s1 : Int32).toNatClampNeg j333_s2) = w_9 at hP hD l_10
    have hP : va_P (dC, dI) vwCl (wd_c_X4_joinedAt h0 h0_0 h0_f1 h0_2 h0_2 h0_2k w_9) H := hP
    have hD : va_D A (wd_c_X4_joinedAt h0 h0_0 h0_f1 h0_2 h0_2 h0_2k w_9) := hD
    refine lv_iload_n hx hb dX4_joinedAt_334 rfl (lv_at hl 0 rfl) ?_
    refine lv_iconst (v := 1) hx hb dX4_joinedAt_335 kc_iconst_1 ?_
    refine lv_isub hx hb dX4_joinedAt_336 ?_
    refine lv_topi (fun x_11 ex_11 => ?_)
    have g_12 : RG x_11 1 63 := RG_sub ex_11 g_p2 (RG_k 1 1 rfl) (by decide +kernel)
    have hK9 := hK.sub (tys' := []) [] rfl
    exact W.iret (v := x_11) hx hb hr (fun t ht hW => ⟨⟨x_11, w_9, rfl, (RG_w g_12 (by decide +kernel)), by rw [ht]; exact hP, va_K.moved hW.alike hK9, hD⟩, hS.F ht⟩) hS.2.2 dX4_joinedAt_337
  have J295 : ∀ (j295_l5 : Int64) (g_h0_f1 : RG h0_f1 0 240) (g_p1 : RG p1 0 2147483647) (g_p2 : RG p2 2 64) (H : Heap) (locs : List Loc) (ls : Array Slot) (hP : va_P (dC, dI) vwCl (wd_c_X4_joinedAt h0 h0_0 h0_f1 h0_2 h0_2 h0_2k h0_2c) H) (hD : va_D A (wd_c_X4_joinedAt h0 h0_0 h0_f1 h0_2 h0_2 h0_2k h0_2c)) (hS : va_S A s.heap H locs) (hl : lv_has ls 7 [(5, .long j295_l5), (0, .ref h0), (2, .int p2)]), G H locs (F0 m 295 ls []) := by
    as_aux_lemma =>
    intro j295_l5 g_h0_f1 g_p1 g_p2 H locs ls hP hD hS hl
    refine hG _ _ _ ?_
    refine lv_aload_n hx hb dX4_joinedAt_295 rfl (lv_at hl 1 rfl) ?_
    refine va_get (D := (dC, dI)) (ci := 4) (v := .ref h0_2) (C := RX4) (T := TX4) (N := 3) hx hb hts iw_c_X4_joinedAt_X4 hown hK hP 0 rfl rfl 2 (by decide +kernel) (hts (.fieldLink RX4 17 "BuoyVote$Law" "stack" "[I") (List.mem_of_getElem? (i := 1) rfl)) (fun _ h9 => h9) rfl dX4_joinedAt_296 ?_
    refine lv_iload_n hx hb dX4_joinedAt_299 rfl (lv_at hl 2 rfl) ?_
    refine lv_iconst (v := 2) hx hb dX4_joinedAt_300 kc_iconst_2 ?_
    refine lv_isub hx hb dX4_joinedAt_301 ?_
    refine lv_topi (fun x_13 ex_13 => ?_)
    have g_14 : RG x_13 0 62 := RG_sub ex_13 g_p2 (RG_k 2 2 rfl) (by decide +kernel)
    refine lv_lload hx hb dX4_joinedAt_302 (lv_at hl 0 rfl) ?_
    refine lv_ldc2 hx hb hown (hts (.constantLong RX4 28 (1000000)) (List.mem_of_getElem? (i := 2) rfl)) dX4_joinedAt_304 ?_
    refine W.lcmp hx hb dX4_joinedAt_307 ?_
    refine lv_if_le (tgt := 316) hx hb dX4_joinedAt_308 rfl (fun c_15 => ?_) (fun c_15 => ?_)
    · replace c_15 := lc_le_t c_15
      have d_16 := Int64.not_lt.mp c_15
      have g_17 : LG j295_l5 (-9223372036854775808) 1000000 := LG_le1 (LG_any j295_l5) (LG_k 1000000 1000000 rfl) d_16 (by decide +kernel)
      refine lv_lload hx hb dX4_joinedAt_316 (lv_at hl 0 rfl) ?_
      as_aux_lemma =>
      refine lv_ldc2 hx hb hown (hts (.constantLong RX4 31 (-1000000)) (List.mem_of_getElem? (i := 3) rfl)) dX4_joinedAt_318 ?_
      refine W.lcmp hx hb dX4_joinedAt_321 ?_
      refine lv_if_ge (tgt := 330) hx hb dX4_joinedAt_322 rfl (fun c_18 => ?_) (fun c_18 => ?_)
      · replace c_18 := lc_ge_t c_18
        have d_19 := Int64.not_lt.mp c_18
        have g_20 : LG j295_l5 (-1000000) 1000000 := LG_le2 (LG_k (-1000000) (-1000000) rfl) g_17 d_19 (by decide +kernel)
        refine lv_lload hx hb dX4_joinedAt_330 (lv_at hl 0 rfl) ?_
        refine lv_l2i hx hb dX4_joinedAt_332 rfl ?_
        refine lv_topi (fun x_21 ex_21 => ?_)
        have g_22 : RG x_21 (-1000000) 1000000 := RG_l2i ex_21 g_20 (by decide +kernel)
        exact hU _ _ _ (J333 x_13 x_21 g_h0_f1 g_14 g_22 g_p1 g_p2 _ _ _ hP hD hS (lv_sub hl [2] rfl))
      · replace c_18 := lc_ge_f c_18
        have g_23 : LG j295_l5 (-9223372036854775808) (-1000001) := LG_lt1 g_17 (LG_k (-1000000) (-1000000) rfl) c_18 (by decide +kernel)
        refine lv_ldc hx hb hown (hts (.constant RX4 33 (-1000000)) (List.mem_of_getElem? (i := 4) rfl)) dX4_joinedAt_325 ?_
        as_aux_lemma =>
        refine lv_goto (tgt := 333) hx hb dX4_joinedAt_327 rfl ?_
        exact hU _ _ _ (J333b x_13 g_h0_f1 g_14 g_p1 g_p2 _ _ _ hP hD hS (lv_sub hl [2] rfl))
    · replace c_15 := lc_le_f c_15
      have g_24 : LG j295_l5 1000001 9223372036854775807 := LG_lt2 (LG_k 1000000 1000000 rfl) (LG_any j295_l5) c_15 (by decide +kernel)
      refine lv_ldc hx hb hown (hts (.constant RX4 30 (1000000)) (List.mem_of_getElem? (i := 5) rfl)) dX4_joinedAt_311 ?_
      refine lv_goto (tgt := 333) hx hb dX4_joinedAt_313 rfl ?_
      exact hU _ _ _ (J333c x_13 g_h0_f1 g_14 g_p1 g_p2 _ _ _ hP hD hS (lv_sub hl [2] rfl))
  have J225b : ∀ (g_h0_f1 : RG h0_f1 0 240) (g_p1 : RG p1 47 47) (g_p2 : RG p2 2 64) (H : Heap) (locs : List Loc) (ls : Array Slot) (hP : va_P (dC, dI) vwCl (wd_c_X4_joinedAt h0 h0_0 h0_f1 h0_2 h0_2 h0_2k h0_2c) H) (hD : va_D A (wd_c_X4_joinedAt h0 h0_0 h0_f1 h0_2 h0_2 h0_2k h0_2c)) (hS : va_S A s.heap H locs) (hl : lv_has ls 7 [(0, .ref h0), (2, .int p2)]), G H locs (F0 m 225 ls [.long 0]) := by
    as_aux_lemma =>
    intro g_h0_f1 g_p1 g_p2 H locs ls hP hD hS hl
    refine hG _ _ _ ?_
    refine lv_lstore (lv' := [(5, .long 0), (0, .ref h0), (2, .int p2)]) hx hb dX4_joinedAt_225 hl (Nat.le_of_ble_eq_true rfl) rfl (fun ls hl => ?_)
    refine lv_goto (tgt := 295) hx hb dX4_joinedAt_227 rfl ?_
    exact hU _ _ _ (J295 0 g_h0_f1 (RG_w g_p1 (by decide +kernel)) g_p2 _ _ _ hP hD hS (lv_sub hl [0, 1, 2] rfl))
  have J225 : ∀ (j225_s0 : Int64) (g_h0_f1 : RG h0_f1 0 240) (g_j225_s0 : LG j225_s0 (-2147483648) 2147483647) (g_p1 : RG p1 47 47) (g_p2 : RG p2 2 64) (H : Heap) (locs : List Loc) (ls : Array Slot) (hP : va_P (dC, dI) vwCl (wd_c_X4_joinedAt h0 h0_0 h0_f1 h0_2 h0_2 h0_2k h0_2c) H) (hD : va_D A (wd_c_X4_joinedAt h0 h0_0 h0_f1 h0_2 h0_2 h0_2k h0_2c)) (hS : va_S A s.heap H locs) (hl : lv_has ls 7 [(0, .ref h0), (2, .int p2)]), G H locs (F0 m 225 ls [.long j225_s0]) := by
    as_aux_lemma =>
    intro j225_s0 g_h0_f1 g_j225_s0 g_p1 g_p2 H locs ls hP hD hS hl
    refine hG _ _ _ ?_
    refine lv_lstore (lv' := [(5, .long j225_s0), (0, .ref h0), (2, .int p2)]) hx hb dX4_joinedAt_225 hl (Nat.le_of_ble_eq_true rfl) rfl (fun ls hl => ?_)
    refine lv_goto (tgt := 295) hx hb dX4_joinedAt_227 rfl ?_
    exact hU _ _ _ (J295 j225_s0 g_h0_f1 (RG_w g_p1 (by decide +kernel)) g_p2 _ _ _ hP hD hS (lv_sub hl [0, 1, 2] rfl))
  have J241 : ∀ (g_h0_f1 : RG h0_f1 0 240) (g_p1 : RG p1 61 61) (g_p2 : RG p2 2 64) (H : Heap) (locs : List Loc) (ls : Array Slot) (hP : va_P (dC, dI) vwCl (wd_c_X4_joinedAt h0 h0_0 h0_f1 h0_2 h0_2 h0_2k h0_2c) H) (hD : va_D A (wd_c_X4_joinedAt h0 h0_0 h0_f1 h0_2 h0_2 h0_2k h0_2c)) (hS : va_S A s.heap H locs) (hl : lv_has ls 7 [(0, .ref h0), (2, .int p2)]), G H locs (F0 m 241 ls [.long 0]) := by
    as_aux_lemma =>
    intro g_h0_f1 g_p1 g_p2 H locs ls hP hD hS hl
    refine hG _ _ _ ?_
    refine lv_lstore (lv' := [(5, .long 0), (0, .ref h0), (2, .int p2)]) hx hb dX4_joinedAt_241 hl (Nat.le_of_ble_eq_true rfl) rfl (fun ls hl => ?_)
    refine lv_goto (tgt := 295) hx hb dX4_joinedAt_243 rfl ?_
    exact hU _ _ _ (J295 0 g_h0_f1 (RG_w g_p1 (by decide +kernel)) g_p2 _ _ _ hP hD hS (lv_sub hl [0, 1, 2] rfl))
  have J241b : ∀ (g_h0_f1 : RG h0_f1 0 240) (g_p1 : RG p1 61 61) (g_p2 : RG p2 2 64) (H : Heap) (locs : List Loc) (ls : Array Slot) (hP : va_P (dC, dI) vwCl (wd_c_X4_joinedAt h0 h0_0 h0_f1 h0_2 h0_2 h0_2k h0_2c) H) (hD : va_D A (wd_c_X4_joinedAt h0 h0_0 h0_f1 h0_2 h0_2 h0_2k h0_2c)) (hS : va_S A s.heap H locs) (hl : lv_has ls 7 [(0, .ref h0), (2, .int p2)]), G H locs (F0 m 241 ls [.long 1]) := by
    as_aux_lemma =>
    intro g_h0_f1 g_p1 g_p2 H locs ls hP hD hS hl
    refine hG _ _ _ ?_
    refine lv_lstore (lv' := [(5, .long 1), (0, .ref h0), (2, .int p2)]) hx hb dX4_joinedAt_241 hl (Nat.le_of_ble_eq_true rfl) rfl (fun ls hl => ?_)
    refine lv_goto (tgt := 295) hx hb dX4_joinedAt_243 rfl ?_
    exact hU _ _ _ (J295 1 g_h0_f1 (RG_w g_p1 (by decide +kernel)) g_p2 _ _ _ hP hD hS (lv_sub hl [0, 1, 2] rfl))
  have J257 : ∀ (g_h0_f1 : RG h0_f1 0 240) (g_p1 : RG p1 60 60) (g_p2 : RG p2 2 64) (H : Heap) (locs : List Loc) (ls : Array Slot) (hP : va_P (dC, dI) vwCl (wd_c_X4_joinedAt h0 h0_0 h0_f1 h0_2 h0_2 h0_2k h0_2c) H) (hD : va_D A (wd_c_X4_joinedAt h0 h0_0 h0_f1 h0_2 h0_2 h0_2k h0_2c)) (hS : va_S A s.heap H locs) (hl : lv_has ls 7 [(0, .ref h0), (2, .int p2)]), G H locs (F0 m 257 ls [.long 0]) := by
    as_aux_lemma =>
    intro g_h0_f1 g_p1 g_p2 H locs ls hP hD hS hl
    refine hG _ _ _ ?_
    refine lv_lstore (lv' := [(5, .long 0), (0, .ref h0), (2, .int p2)]) hx hb dX4_joinedAt_257 hl (Nat.le_of_ble_eq_true rfl) rfl (fun ls hl => ?_)
    refine lv_goto (tgt := 295) hx hb dX4_joinedAt_259 rfl ?_
    exact hU _ _ _ (J295 0 g_h0_f1 (RG_w g_p1 (by decide +kernel)) g_p2 _ _ _ hP hD hS (lv_sub hl [0, 1, 2] rfl))
  have J257b : ∀ (g_h0_f1 : RG h0_f1 0 240) (g_p1 : RG p1 60 60) (g_p2 : RG p2 2 64) (H : Heap) (locs : List Loc) (ls : Array Slot) (hP : va_P (dC, dI) vwCl (wd_c_X4_joinedAt h0 h0_0 h0_f1 h0_2 h0_2 h0_2k h0_2c) H) (hD : va_D A (wd_c_X4_joinedAt h0 h0_0 h0_f1 h0_2 h0_2 h0_2k h0_2c)) (hS : va_S A s.heap H locs) (hl : lv_has ls 7 [(0, .ref h0), (2, .int p2)]), G H locs (F0 m 257 ls [.long 1]) := by
    as_aux_lemma =>
    intro g_h0_f1 g_p1 g_p2 H locs ls hP hD hS hl
    refine hG _ _ _ ?_
    refine lv_lstore (lv' := [(5, .long 1), (0, .ref h0), (2, .int p2)]) hx hb dX4_joinedAt_257 hl (Nat.le_of_ble_eq_true rfl) rfl (fun ls hl => ?_)
    refine lv_goto (tgt := 295) hx hb dX4_joinedAt_259 rfl ?_
    exact hU _ _ _ (J295 1 g_h0_f1 (RG_w g_p1 (by decide +kernel)) g_p2 _ _ _ hP hD hS (lv_sub hl [0, 1, 2] rfl))
  have J273 : ∀ (g_h0_f1 : RG h0_f1 0 240) (g_p1 : RG p1 62 62) (g_p2 : RG p2 2 64) (H : Heap) (locs : List Loc) (ls : Array Slot) (hP : va_P (dC, dI) vwCl (wd_c_X4_joinedAt h0 h0_0 h0_f1 h0_2 h0_2 h0_2k h0_2c) H) (hD : va_D A (wd_c_X4_joinedAt h0 h0_0 h0_f1 h0_2 h0_2 h0_2k h0_2c)) (hS : va_S A s.heap H locs) (hl : lv_has ls 7 [(0, .ref h0), (2, .int p2)]), G H locs (F0 m 273 ls [.long 0]) := by
    as_aux_lemma =>
    intro g_h0_f1 g_p1 g_p2 H locs ls hP hD hS hl
    refine hG _ _ _ ?_
    refine lv_lstore (lv' := [(5, .long 0), (0, .ref h0), (2, .int p2)]) hx hb dX4_joinedAt_273 hl (Nat.le_of_ble_eq_true rfl) rfl (fun ls hl => ?_)
    refine lv_goto (tgt := 295) hx hb dX4_joinedAt_275 rfl ?_
    exact hU _ _ _ (J295 0 g_h0_f1 (RG_w g_p1 (by decide +kernel)) g_p2 _ _ _ hP hD hS (lv_sub hl [0, 1, 2] rfl))
  have J273b : ∀ (g_h0_f1 : RG h0_f1 0 240) (g_p1 : RG p1 62 62) (g_p2 : RG p2 2 64) (H : Heap) (locs : List Loc) (ls : Array Slot) (hP : va_P (dC, dI) vwCl (wd_c_X4_joinedAt h0 h0_0 h0_f1 h0_2 h0_2 h0_2k h0_2c) H) (hD : va_D A (wd_c_X4_joinedAt h0 h0_0 h0_f1 h0_2 h0_2 h0_2k h0_2c)) (hS : va_S A s.heap H locs) (hl : lv_has ls 7 [(0, .ref h0), (2, .int p2)]), G H locs (F0 m 273 ls [.long 1]) := by
    as_aux_lemma =>
    intro g_h0_f1 g_p1 g_p2 H locs ls hP hD hS hl
    refine hG _ _ _ ?_
    refine lv_lstore (lv' := [(5, .long 1), (0, .ref h0), (2, .int p2)]) hx hb dX4_joinedAt_273 hl (Nat.le_of_ble_eq_true rfl) rfl (fun ls hl => ?_)
    refine lv_goto (tgt := 295) hx hb dX4_joinedAt_275 rfl ?_
    exact hU _ _ _ (J295 1 g_h0_f1 (RG_w g_p1 (by decide +kernel)) g_p2 _ _ _ hP hD hS (lv_sub hl [0, 1, 2] rfl))
  refine hG _ _ _ ?_
  refine lv_iload_n hx hb dX4_joinedAt_0 rfl (lv_at hl 2 rfl) ?_
  refine lv_iconst (v := 1) hx hb dX4_joinedAt_1 kc_iconst_1 ?_
  refine lv_icmp_lt (tgt := 16) hx hb dX4_joinedAt_2 rfl (fun c_25 => ?_) (fun c_25 => ?_)
  · have g_26 : RG p2 0 0 := RG_lt1 g_p2 (RG_k 1 1 rfl) c_25 (by decide +kernel)
    refine lv_iload_n hx hb dX4_joinedAt_16 rfl (lv_at hl 2 rfl) ?_
    have hK9 := hK.sub (tys' := []) [] rfl
    exact W.iret (v := p2) hx hb hr (fun t ht hW => ⟨⟨p2, h0_2c, rfl, (RG_w g_26 (by decide +kernel)), by rw [ht]; exact hP, va_K.moved hW.alike hK9, hD⟩, hS.F ht⟩) hS.2.2 dX4_joinedAt_17
  · have d_27 := Int32.not_lt.mp c_25
    have g_28 : RG p2 1 64 := RG_le2 (RG_k 1 1 rfl) g_p2 d_27 (by decide +kernel)
    refine lv_iload_n hx hb dX4_joinedAt_5 rfl (lv_at hl 2 rfl) ?_
    as_aux_lemma =>
    refine lv_iconst (v := 2) hx hb dX4_joinedAt_6 kc_iconst_2 ?_
    refine lv_icmp_ge (tgt := 18) hx hb dX4_joinedAt_7 rfl (fun c_29 => ?_) (fun c_29 => ?_)
    · have g_30 : RG p2 2 64 := RG_le2 (RG_k 2 2 rfl) g_28 c_29 (by decide +kernel)
      refine lv_iload_n hx hb dX4_joinedAt_18 rfl (lv_at hl 1 rfl) ?_
      refine lv_bipush (v := 33) hx hb dX4_joinedAt_19 kc_bipush_33 ?_
      refine lv_icmp_ne (tgt := 44) hx hb dX4_joinedAt_21 rfl (fun c_31 => ?_) (fun c_31 => ?_)
      · refine lv_aload_n hx hb dX4_joinedAt_44 rfl (lv_at hl 0 rfl) ?_
        refine va_get (D := (dC, dI)) (ci := 4) (v := .ref h0_2) (C := RX4) (T := TX4) (N := 3) hx hb hts iw_c_X4_joinedAt_X4 hown hK hP 0 rfl rfl 2 (by decide +kernel) (hts (.fieldLink RX4 17 "BuoyVote$Law" "stack" "[I") (List.mem_of_getElem? (i := 1) rfl)) (fun _ h9 => h9) rfl dX4_joinedAt_45 ?_
        refine lv_iload_n hx hb dX4_joinedAt_48 rfl (lv_at hl 2 rfl) ?_
        refine lv_iconst (v := 2) hx hb dX4_joinedAt_49 kc_iconst_2 ?_
        refine lv_isub hx hb dX4_joinedAt_50 ?_
        refine lv_topi (fun x_32 ex_32 => ?_)
        have g_33 : RG x_32 0 62 := RG_sub ex_32 g_30 (RG_k 2 2 rfl) (by decide +kernel)
        refine va_iald hx hb hK hP 1 0 rfl rfl (RG_in g_33 (by decide +kernel)) dX4_joinedAt_51 ?_
        as_aux_lemma =>
        refine lv_topi (fun x_34 ex_34 => ?_)
        refine lv_istore_n (lv' := [(3, .int x_34), (0, .ref h0), (1, .int p1), (2, .int p2)]) hx hb dX4_joinedAt_52 rfl hl (Nat.le_of_ble_eq_true rfl) rfl (fun ls hl => ?_)
        refine lv_aload_n hx hb dX4_joinedAt_53 rfl (lv_at hl 1 rfl) ?_
        refine va_get (D := (dC, dI)) (ci := 4) (v := .ref h0_2) (C := RX4) (T := TX4) (N := 3) hx hb hts iw_c_X4_joinedAt_X4 hown hK hP 0 rfl rfl 2 (by decide +kernel) (hts (.fieldLink RX4 17 "BuoyVote$Law" "stack" "[I") (List.mem_of_getElem? (i := 1) rfl)) (fun _ h9 => h9) rfl dX4_joinedAt_54 ?_
        refine lv_iload_n hx hb dX4_joinedAt_57 rfl (lv_at hl 3 rfl) ?_
        refine lv_iconst (v := 1) hx hb dX4_joinedAt_58 kc_iconst_1 ?_
        refine lv_isub hx hb dX4_joinedAt_59 ?_
        refine lv_topi (fun x_35 ex_35 => ?_)
        have g_36 : RG x_35 1 63 := RG_sub ex_35 g_30 (RG_k 1 1 rfl) (by decide +kernel)
        refine va_iald hx hb hK hP 1 0 rfl rfl (RG_in g_36 (by decide +kernel)) dX4_joinedAt_60 ?_
        refine lv_topi (fun x_37 ex_37 => ?_)
        refine lv_istore (lv' := [(4, .int x_37), (3, .int x_34), (0, .ref h0), (1, .int p1), (2, .int p2)]) hx hb dX4_joinedAt_61 hl (Nat.le_of_ble_eq_true rfl) rfl (fun ls hl => ?_)
        refine lv_iload_n hx hb dX4_joinedAt_63 rfl (lv_at hl 3 rfl) ?_
        by_cases c_38 : p1 = 38
        · have hsw : p1.toInt = 38 := by rw [c_38]; rfl
          refine lv_tableIn (off := 214) (tgt := 278) hx hb dX4_joinedAt_64 (by rw [hsw]; decide) (by rw [hsw]; decide) (by rw [hsw]; decide) (by decide +kernel) ?_
          as_aux_lemma =>
          have g_39 : RG p1 38 38 := RG_k _ _ hsw
          refine lv_iload_n hx hb dX4_joinedAt_278 rfl (lv_at hl 1 rfl) ?_
          refine lv_iload hx hb dX4_joinedAt_279 (lv_at hl 0 rfl) ?_
          refine lv_iand hx hb dX4_joinedAt_281 ?_
          refine lv_topi (fun x_40 ex_40 => ?_)
          refine lv_i2l (v := x_40.toInt64) hx hb dX4_joinedAt_282 rfl ?_
          refine lv_topl (fun x_41 ex_41 => ?_)
          have g_42 : LG x_41 (-2147483648) 2147483647 := LG_i2l ex_41 (RG_any x_40)
          refine lv_lstore (lv' := [(5, .long x_41), (4, .int x_37), (3, .int x_34), (0, .ref h0), (1, .int p1), (2, .int p2)]) hx hb dX4_joinedAt_283 hl (Nat.le_of_ble_eq_true rfl) rfl (fun ls hl => ?_)
          refine lv_goto (tgt := 295) hx hb dX4_joinedAt_285 rfl ?_
          exact hU _ _ _ (J295 x_41 g_h0_f1 (RG_w g_39 (by decide +kernel)) g_30 _ _ _ hP hD hS (lv_sub hl [0, 3, 5] rfl))
        by_cases c_43 : p1 = 39
        · have hsw : p1.toInt = 39 := by rw [c_43]; rfl
          refine lv_tableIn (off := 224) (tgt := 288) hx hb dX4_joinedAt_64 (by rw [hsw]; decide) (by rw [hsw]; decide) (by rw [hsw]; decide) (by decide +kernel) ?_
          as_aux_lemma =>
          have g_44 : RG p1 39 39 := RG_k _ _ hsw
          refine lv_iload_n hx hb dX4_joinedAt_288 rfl (lv_at hl 1 rfl) ?_
          refine lv_iload hx hb dX4_joinedAt_289 (lv_at hl 0 rfl) ?_
          refine lv_ior hx hb dX4_joinedAt_291 ?_
          refine lv_topi (fun x_45 ex_45 => ?_)
          refine lv_i2l (v := x_45.toInt64) hx hb dX4_joinedAt_292 rfl ?_
          refine lv_topl (fun x_46 ex_46 => ?_)
          have g_47 : LG x_46 (-2147483648) 2147483647 := LG_i2l ex_46 (RG_any x_45)
          refine lv_lstore (lv' := [(5, .long x_46), (4, .int x_37), (3, .int x_34), (0, .ref h0), (1, .int p1), (2, .int p2)]) hx hb dX4_joinedAt_293 hl (Nat.le_of_ble_eq_true rfl) rfl (fun ls hl => ?_)
          exact hU _ _ _ (J295 x_46 g_h0_f1 (RG_w g_44 (by decide +kernel)) g_30 _ _ _ hP hD hS (lv_sub hl [0, 3, 5] rfl))
        by_cases c_48 : p1 = 40
        · have hsw : p1.toInt = 40 := by rw [c_48]; rfl
          refine lv_tableIn (off := 224) (tgt := 288) hx hb dX4_joinedAt_64 (by rw [hsw]; decide) (by rw [hsw]; decide) (by rw [hsw]; decide) (by decide +kernel) ?_
          have g_49 : RG p1 40 40 := RG_k _ _ hsw
          refine lv_iload_n hx hb dX4_joinedAt_288 rfl (lv_at hl 1 rfl) ?_
          as_aux_lemma =>
          refine lv_iload hx hb dX4_joinedAt_289 (lv_at hl 0 rfl) ?_
          refine lv_ior hx hb dX4_joinedAt_291 ?_
          refine lv_topi (fun x_50 ex_50 => ?_)
          refine lv_i2l (v := x_50.toInt64) hx hb dX4_joinedAt_292 rfl ?_
          refine lv_topl (fun x_51 ex_51 => ?_)
          have g_52 : LG x_51 (-2147483648) 2147483647 := LG_i2l ex_51 (RG_any x_50)
          refine lv_lstore (lv' := [(5, .long x_51), (4, .int x_37), (3, .int x_34), (0, .ref h0), (1, .int p1), (2, .int p2)]) hx hb dX4_joinedAt_293 hl (Nat.le_of_ble_eq_true rfl) rfl (fun ls hl => ?_)
          exact hU _ _ _ (J295 x_51 g_h0_f1 (RG_w g_49 (by decide +kernel)) g_30 _ _ _ hP hD hS (lv_sub hl [0, 3, 5] rfl))
        by_cases c_53 : p1 = 41
        · have hsw : p1.toInt = 41 := by rw [c_53]; rfl
          refine lv_tableIn (off := 224) (tgt := 288) hx hb dX4_joinedAt_64 (by rw [hsw]; decide) (by rw [hsw]; decide) (by rw [hsw]; decide) (by decide +kernel) ?_
          have g_54 : RG p1 41 41 := RG_k _ _ hsw
          refine lv_iload_n hx hb dX4_joinedAt_288 rfl (lv_at hl 1 rfl) ?_
          refine lv_iload hx hb dX4_joinedAt_289 (lv_at hl 0 rfl) ?_
          as_aux_lemma =>
          refine lv_ior hx hb dX4_joinedAt_291 ?_
          refine lv_topi (fun x_55 ex_55 => ?_)
          refine lv_i2l (v := x_55.toInt64) hx hb dX4_joinedAt_292 rfl ?_
          refine lv_topl (fun x_56 ex_56 => ?_)
          have g_57 : LG x_56 (-2147483648) 2147483647 := LG_i2l ex_56 (RG_any x_55)
          refine lv_lstore (lv' := [(5, .long x_56), (4, .int x_37), (3, .int x_34), (0, .ref h0), (1, .int p1), (2, .int p2)]) hx hb dX4_joinedAt_293 hl (Nat.le_of_ble_eq_true rfl) rfl (fun ls hl => ?_)
          exact hU _ _ _ (J295 x_56 g_h0_f1 (RG_w g_54 (by decide +kernel)) g_30 _ _ _ hP hD hS (lv_sub hl [0, 3, 5] rfl))
        by_cases c_58 : p1 = 42
        · have hsw : p1.toInt = 42 := by rw [c_58]; rfl
          refine lv_tableIn (off := 136) (tgt := 200) hx hb dX4_joinedAt_64 (by rw [hsw]; decide) (by rw [hsw]; decide) (by rw [hsw]; decide) (by decide +kernel) ?_
          have g_59 : RG p1 42 42 := RG_k _ _ hsw
          refine lv_iload_n hx hb dX4_joinedAt_200 rfl (lv_at hl 1 rfl) ?_
          refine lv_i2l (v := x_34.toInt64) hx hb dX4_joinedAt_201 rfl ?_
          refine lv_topl (fun x_60 ex_60 => ?_)
          as_aux_lemma =>
          have g_61 : LG x_60 (-2147483648) 2147483647 := LG_i2l ex_60 (RG_any x_34)
          refine lv_iload hx hb dX4_joinedAt_202 (lv_at hl 0 rfl) ?_
          refine lv_i2l (v := x_37.toInt64) hx hb dX4_joinedAt_204 rfl ?_
          refine lv_topl (fun x_62 ex_62 => ?_)
          have g_63 : LG x_62 (-2147483648) 2147483647 := LG_i2l ex_62 (RG_any x_37)
          refine lv_lmul hx hb dX4_joinedAt_205 ?_
          refine lv_topl (fun x_64 ex_64 => ?_)
          refine lv_lstore (lv' := [(5, .long x_64), (4, .int x_37), (3, .int x_34), (0, .ref h0), (1, .int p1), (2, .int p2)]) hx hb dX4_joinedAt_206 hl (Nat.le_of_ble_eq_true rfl) rfl (fun ls hl => ?_)
          refine lv_goto (tgt := 295) hx hb dX4_joinedAt_208 rfl ?_
          exact hU _ _ _ (J295 x_64 g_h0_f1 (RG_w g_59 (by decide +kernel)) g_30 _ _ _ hP hD hS (lv_sub hl [0, 3, 5] rfl))
        by_cases c_65 : p1 = 43
        · have hsw : p1.toInt = 43 := by rw [c_65]; rfl
          refine lv_tableIn (off := 116) (tgt := 180) hx hb dX4_joinedAt_64 (by rw [hsw]; decide) (by rw [hsw]; decide) (by rw [hsw]; decide) (by decide +kernel) ?_
          have g_66 : RG p1 43 43 := RG_k _ _ hsw
          refine lv_iload_n hx hb dX4_joinedAt_180 rfl (lv_at hl 1 rfl) ?_
          as_aux_lemma =>
          refine lv_iload hx hb dX4_joinedAt_181 (lv_at hl 0 rfl) ?_
          refine lv_iadd hx hb dX4_joinedAt_183 ?_
          refine lv_topi (fun x_67 ex_67 => ?_)
          refine lv_i2l (v := x_67.toInt64) hx hb dX4_joinedAt_184 rfl ?_
          refine lv_topl (fun x_68 ex_68 => ?_)
          have g_69 : LG x_68 (-2147483648) 2147483647 := LG_i2l ex_68 (RG_any x_67)
          refine lv_lstore (lv' := [(5, .long x_68), (4, .int x_37), (3, .int x_34), (0, .ref h0), (1, .int p1), (2, .int p2)]) hx hb dX4_joinedAt_185 hl (Nat.le_of_ble_eq_true rfl) rfl (fun ls hl => ?_)
          refine lv_goto (tgt := 295) hx hb dX4_joinedAt_187 rfl ?_
          exact hU _ _ _ (J295 x_68 g_h0_f1 (RG_w g_66 (by decide +kernel)) g_30 _ _ _ hP hD hS (lv_sub hl [0, 3, 5] rfl))
        by_cases c_70 : p1 = 44
        · have hsw : p1.toInt = 44 := by rw [c_70]; rfl
          refine lv_tableIn (off := 224) (tgt := 288) hx hb dX4_joinedAt_64 (by rw [hsw]; decide) (by rw [hsw]; decide) (by rw [hsw]; decide) (by decide +kernel) ?_
          have g_71 : RG p1 44 44 := RG_k _ _ hsw
          refine lv_iload_n hx hb dX4_joinedAt_288 rfl (lv_at hl 1 rfl) ?_
          as_aux_lemma =>
          refine lv_iload hx hb dX4_joinedAt_289 (lv_at hl 0 rfl) ?_
          refine lv_ior hx hb dX4_joinedAt_291 ?_
          refine lv_topi (fun x_72 ex_72 => ?_)
          refine lv_i2l (v := x_72.toInt64) hx hb dX4_joinedAt_292 rfl ?_
          refine lv_topl (fun x_73 ex_73 => ?_)
          have g_74 : LG x_73 (-2147483648) 2147483647 := LG_i2l ex_73 (RG_any x_72)
          refine lv_lstore (lv' := [(5, .long x_73), (4, .int x_37), (3, .int x_34), (0, .ref h0), (1, .int p1), (2, .int p2)]) hx hb dX4_joinedAt_293 hl (Nat.le_of_ble_eq_true rfl) rfl (fun ls hl => ?_)
          exact hU _ _ _ (J295 x_73 g_h0_f1 (RG_w g_71 (by decide +kernel)) g_30 _ _ _ hP hD hS (lv_sub hl [0, 3, 5] rfl))
        by_cases c_75 : p1 = 45
        · have hsw : p1.toInt = 45 := by rw [c_75]; rfl
          refine lv_tableIn (off := 126) (tgt := 190) hx hb dX4_joinedAt_64 (by rw [hsw]; decide) (by rw [hsw]; decide) (by rw [hsw]; decide) (by decide +kernel) ?_
          have g_76 : RG p1 45 45 := RG_k _ _ hsw
          refine lv_iload_n hx hb dX4_joinedAt_190 rfl (lv_at hl 1 rfl) ?_
          refine lv_iload hx hb dX4_joinedAt_191 (lv_at hl 0 rfl) ?_
          as_aux_lemma =>
          refine lv_isub hx hb dX4_joinedAt_193 ?_
          refine lv_topi (fun x_77 ex_77 => ?_)
          refine lv_i2l (v := x_77.toInt64) hx hb dX4_joinedAt_194 rfl ?_
          refine lv_topl (fun x_78 ex_78 => ?_)
          have g_79 : LG x_78 (-2147483648) 2147483647 := LG_i2l ex_78 (RG_any x_77)
          refine lv_lstore (lv' := [(5, .long x_78), (4, .int x_37), (3, .int x_34), (0, .ref h0), (1, .int p1), (2, .int p2)]) hx hb dX4_joinedAt_195 hl (Nat.le_of_ble_eq_true rfl) rfl (fun ls hl => ?_)
          refine lv_goto (tgt := 295) hx hb dX4_joinedAt_197 rfl ?_
          exact hU _ _ _ (J295 x_78 g_h0_f1 (RG_w g_76 (by decide +kernel)) g_30 _ _ _ hP hD hS (lv_sub hl [0, 3, 5] rfl))
        by_cases c_80 : p1 = 46
        · have hsw : p1.toInt = 46 := by rw [c_80]; rfl
          refine lv_tableIn (off := 224) (tgt := 288) hx hb dX4_joinedAt_64 (by rw [hsw]; decide) (by rw [hsw]; decide) (by rw [hsw]; decide) (by decide +kernel) ?_
          have g_81 : RG p1 46 46 := RG_k _ _ hsw
          refine lv_iload_n hx hb dX4_joinedAt_288 rfl (lv_at hl 1 rfl) ?_
          refine lv_iload hx hb dX4_joinedAt_289 (lv_at hl 0 rfl) ?_
          as_aux_lemma =>
          refine lv_ior hx hb dX4_joinedAt_291 ?_
          refine lv_topi (fun x_82 ex_82 => ?_)
          refine lv_i2l (v := x_82.toInt64) hx hb dX4_joinedAt_292 rfl ?_
          refine lv_topl (fun x_83 ex_83 => ?_)
          have g_84 : LG x_83 (-2147483648) 2147483647 := LG_i2l ex_83 (RG_any x_82)
          refine lv_lstore (lv' := [(5, .long x_83), (4, .int x_37), (3, .int x_34), (0, .ref h0), (1, .int p1), (2, .int p2)]) hx hb dX4_joinedAt_293 hl (Nat.le_of_ble_eq_true rfl) rfl (fun ls hl => ?_)
          exact hU _ _ _ (J295 x_83 g_h0_f1 (RG_w g_81 (by decide +kernel)) g_30 _ _ _ hP hD hS (lv_sub hl [0, 3, 5] rfl))
        by_cases c_85 : p1 = 47
        · have hsw : p1.toInt = 47 := by rw [c_85]; rfl
          refine lv_tableIn (off := 147) (tgt := 211) hx hb dX4_joinedAt_64 (by rw [hsw]; decide) (by rw [hsw]; decide) (by rw [hsw]; decide) (by decide +kernel) ?_
          have g_86 : RG p1 47 47 := RG_k _ _ hsw
          refine lv_iload hx hb dX4_joinedAt_211 (lv_at hl 0 rfl) ?_
          refine lv_if_ne (tgt := 220) hx hb dX4_joinedAt_213 rfl (fun c_87 => ?_) (fun c_87 => ?_)
          · refine lv_iload_n hx hb dX4_joinedAt_220 rfl (lv_at hl 1 rfl) ?_
            refine lv_iload hx hb dX4_joinedAt_221 (lv_at hl 0 rfl) ?_
            as_aux_lemma =>
            refine lv_idiv hx hb dX4_joinedAt_223 c_87 ?_
            refine lv_topi (fun x_88 ex_88 => ?_)
            refine lv_i2l (v := x_88.toInt64) hx hb dX4_joinedAt_224 rfl ?_
            refine lv_topl (fun x_89 ex_89 => ?_)
            have g_90 : LG x_89 (-2147483648) 2147483647 := LG_i2l ex_89 (RG_any x_88)
            exact hU _ _ _ (J225 x_89 g_h0_f1 g_90 g_86 g_30 _ _ _ hP hD hS (lv_sub hl [2, 4] rfl))
          · have g_91 : RG x_37 0 0 := RG_eq1 (RG_any x_37) (RG_k 0 0 rfl) c_87 (by decide +kernel)
            refine lv_lconst (v := 0) hx hb dX4_joinedAt_216 (by decide +kernel) ?_
            refine lv_goto (tgt := 225) hx hb dX4_joinedAt_217 rfl ?_
            exact hU _ _ _ (J225b g_h0_f1 g_86 g_30 _ _ _ hP hD hS (lv_sub hl [2, 4] rfl))
        by_cases c_92 : p1 = 48
        · have hsw : p1.toInt = 48 := by rw [c_92]; rfl
          refine lv_tableIn (off := 224) (tgt := 288) hx hb dX4_joinedAt_64 (by rw [hsw]; decide) (by rw [hsw]; decide) (by rw [hsw]; decide) (by decide +kernel) ?_
          have g_93 : RG p1 48 48 := RG_k _ _ hsw
          refine lv_iload_n hx hb dX4_joinedAt_288 rfl (lv_at hl 1 rfl) ?_
          as_aux_lemma =>
          refine lv_iload hx hb dX4_joinedAt_289 (lv_at hl 0 rfl) ?_
          refine lv_ior hx hb dX4_joinedAt_291 ?_
          refine lv_topi (fun x_94 ex_94 => ?_)
          refine lv_i2l (v := x_94.toInt64) hx hb dX4_joinedAt_292 rfl ?_
          refine lv_topl (fun x_95 ex_95 => ?_)
          have g_96 : LG x_95 (-2147483648) 2147483647 := LG_i2l ex_95 (RG_any x_94)
          refine lv_lstore (lv' := [(5, .long x_95), (4, .int x_37), (3, .int x_34), (0, .ref h0), (1, .int p1), (2, .int p2)]) hx hb dX4_joinedAt_293 hl (Nat.le_of_ble_eq_true rfl) rfl (fun ls hl => ?_)
          exact hU _ _ _ (J295 x_95 g_h0_f1 (RG_w g_93 (by decide +kernel)) g_30 _ _ _ hP hD hS (lv_sub hl [0, 3, 5] rfl))
        by_cases c_97 : p1 = 49
        · have hsw : p1.toInt = 49 := by rw [c_97]; rfl
          refine lv_tableIn (off := 224) (tgt := 288) hx hb dX4_joinedAt_64 (by rw [hsw]; decide) (by rw [hsw]; decide) (by rw [hsw]; decide) (by decide +kernel) ?_
          have g_98 : RG p1 49 49 := RG_k _ _ hsw
          refine lv_iload_n hx hb dX4_joinedAt_288 rfl (lv_at hl 1 rfl) ?_
          refine lv_iload hx hb dX4_joinedAt_289 (lv_at hl 0 rfl) ?_
          as_aux_lemma =>
          refine lv_ior hx hb dX4_joinedAt_291 ?_
          refine lv_topi (fun x_99 ex_99 => ?_)
          refine lv_i2l (v := x_99.toInt64) hx hb dX4_joinedAt_292 rfl ?_
          refine lv_topl (fun x_100 ex_100 => ?_)
          have g_101 : LG x_100 (-2147483648) 2147483647 := LG_i2l ex_100 (RG_any x_99)
          refine lv_lstore (lv' := [(5, .long x_100), (4, .int x_37), (3, .int x_34), (0, .ref h0), (1, .int p1), (2, .int p2)]) hx hb dX4_joinedAt_293 hl (Nat.le_of_ble_eq_true rfl) rfl (fun ls hl => ?_)
          exact hU _ _ _ (J295 x_100 g_h0_f1 (RG_w g_98 (by decide +kernel)) g_30 _ _ _ hP hD hS (lv_sub hl [0, 3, 5] rfl))
        by_cases c_102 : p1 = 50
        · have hsw : p1.toInt = 50 := by rw [c_102]; rfl
          refine lv_tableIn (off := 224) (tgt := 288) hx hb dX4_joinedAt_64 (by rw [hsw]; decide) (by rw [hsw]; decide) (by rw [hsw]; decide) (by decide +kernel) ?_
          have g_103 : RG p1 50 50 := RG_k _ _ hsw
          refine lv_iload_n hx hb dX4_joinedAt_288 rfl (lv_at hl 1 rfl) ?_
          refine lv_iload hx hb dX4_joinedAt_289 (lv_at hl 0 rfl) ?_
          refine lv_ior hx hb dX4_joinedAt_291 ?_
          as_aux_lemma =>
          refine lv_topi (fun x_104 ex_104 => ?_)
          refine lv_i2l (v := x_104.toInt64) hx hb dX4_joinedAt_292 rfl ?_
          refine lv_topl (fun x_105 ex_105 => ?_)
          have g_106 : LG x_105 (-2147483648) 2147483647 := LG_i2l ex_105 (RG_any x_104)
          refine lv_lstore (lv' := [(5, .long x_105), (4, .int x_37), (3, .int x_34), (0, .ref h0), (1, .int p1), (2, .int p2)]) hx hb dX4_joinedAt_293 hl (Nat.le_of_ble_eq_true rfl) rfl (fun ls hl => ?_)
          exact hU _ _ _ (J295 x_105 g_h0_f1 (RG_w g_103 (by decide +kernel)) g_30 _ _ _ hP hD hS (lv_sub hl [0, 3, 5] rfl))
        by_cases c_107 : p1 = 51
        · have hsw : p1.toInt = 51 := by rw [c_107]; rfl
          refine lv_tableIn (off := 224) (tgt := 288) hx hb dX4_joinedAt_64 (by rw [hsw]; decide) (by rw [hsw]; decide) (by rw [hsw]; decide) (by decide +kernel) ?_
          have g_108 : RG p1 51 51 := RG_k _ _ hsw
          refine lv_iload_n hx hb dX4_joinedAt_288 rfl (lv_at hl 1 rfl) ?_
          refine lv_iload hx hb dX4_joinedAt_289 (lv_at hl 0 rfl) ?_
          refine lv_ior hx hb dX4_joinedAt_291 ?_
          refine lv_topi (fun x_109 ex_109 => ?_)
          as_aux_lemma =>
          refine lv_i2l (v := x_109.toInt64) hx hb dX4_joinedAt_292 rfl ?_
          refine lv_topl (fun x_110 ex_110 => ?_)
          have g_111 : LG x_110 (-2147483648) 2147483647 := LG_i2l ex_110 (RG_any x_109)
          refine lv_lstore (lv' := [(5, .long x_110), (4, .int x_37), (3, .int x_34), (0, .ref h0), (1, .int p1), (2, .int p2)]) hx hb dX4_joinedAt_293 hl (Nat.le_of_ble_eq_true rfl) rfl (fun ls hl => ?_)
          exact hU _ _ _ (J295 x_110 g_h0_f1 (RG_w g_108 (by decide +kernel)) g_30 _ _ _ hP hD hS (lv_sub hl [0, 3, 5] rfl))
        by_cases c_112 : p1 = 52
        · have hsw : p1.toInt = 52 := by rw [c_112]; rfl
          refine lv_tableIn (off := 224) (tgt := 288) hx hb dX4_joinedAt_64 (by rw [hsw]; decide) (by rw [hsw]; decide) (by rw [hsw]; decide) (by decide +kernel) ?_
          have g_113 : RG p1 52 52 := RG_k _ _ hsw
          refine lv_iload_n hx hb dX4_joinedAt_288 rfl (lv_at hl 1 rfl) ?_
          refine lv_iload hx hb dX4_joinedAt_289 (lv_at hl 0 rfl) ?_
          refine lv_ior hx hb dX4_joinedAt_291 ?_
          refine lv_topi (fun x_114 ex_114 => ?_)
          refine lv_i2l (v := x_114.toInt64) hx hb dX4_joinedAt_292 rfl ?_
          as_aux_lemma =>
          refine lv_topl (fun x_115 ex_115 => ?_)
          have g_116 : LG x_115 (-2147483648) 2147483647 := LG_i2l ex_115 (RG_any x_114)
          refine lv_lstore (lv' := [(5, .long x_115), (4, .int x_37), (3, .int x_34), (0, .ref h0), (1, .int p1), (2, .int p2)]) hx hb dX4_joinedAt_293 hl (Nat.le_of_ble_eq_true rfl) rfl (fun ls hl => ?_)
          exact hU _ _ _ (J295 x_115 g_h0_f1 (RG_w g_113 (by decide +kernel)) g_30 _ _ _ hP hD hS (lv_sub hl [0, 3, 5] rfl))
        by_cases c_117 : p1 = 53
        · have hsw : p1.toInt = 53 := by rw [c_117]; rfl
          refine lv_tableIn (off := 224) (tgt := 288) hx hb dX4_joinedAt_64 (by rw [hsw]; decide) (by rw [hsw]; decide) (by rw [hsw]; decide) (by decide +kernel) ?_
          have g_118 : RG p1 53 53 := RG_k _ _ hsw
          refine lv_iload_n hx hb dX4_joinedAt_288 rfl (lv_at hl 1 rfl) ?_
          refine lv_iload hx hb dX4_joinedAt_289 (lv_at hl 0 rfl) ?_
          refine lv_ior hx hb dX4_joinedAt_291 ?_
          refine lv_topi (fun x_119 ex_119 => ?_)
          refine lv_i2l (v := x_119.toInt64) hx hb dX4_joinedAt_292 rfl ?_
          refine lv_topl (fun x_120 ex_120 => ?_)
          as_aux_lemma =>
          have g_121 : LG x_120 (-2147483648) 2147483647 := LG_i2l ex_120 (RG_any x_119)
          refine lv_lstore (lv' := [(5, .long x_120), (4, .int x_37), (3, .int x_34), (0, .ref h0), (1, .int p1), (2, .int p2)]) hx hb dX4_joinedAt_293 hl (Nat.le_of_ble_eq_true rfl) rfl (fun ls hl => ?_)
          exact hU _ _ _ (J295 x_120 g_h0_f1 (RG_w g_118 (by decide +kernel)) g_30 _ _ _ hP hD hS (lv_sub hl [0, 3, 5] rfl))
        by_cases c_122 : p1 = 54
        · have hsw : p1.toInt = 54 := by rw [c_122]; rfl
          refine lv_tableIn (off := 224) (tgt := 288) hx hb dX4_joinedAt_64 (by rw [hsw]; decide) (by rw [hsw]; decide) (by rw [hsw]; decide) (by decide +kernel) ?_
          have g_123 : RG p1 54 54 := RG_k _ _ hsw
          refine lv_iload_n hx hb dX4_joinedAt_288 rfl (lv_at hl 1 rfl) ?_
          refine lv_iload hx hb dX4_joinedAt_289 (lv_at hl 0 rfl) ?_
          refine lv_ior hx hb dX4_joinedAt_291 ?_
          refine lv_topi (fun x_124 ex_124 => ?_)
          refine lv_i2l (v := x_124.toInt64) hx hb dX4_joinedAt_292 rfl ?_
          refine lv_topl (fun x_125 ex_125 => ?_)
          have g_126 : LG x_125 (-2147483648) 2147483647 := LG_i2l ex_125 (RG_any x_124)
          refine lv_lstore (lv' := [(5, .long x_125), (4, .int x_37), (3, .int x_34), (0, .ref h0), (1, .int p1), (2, .int p2)]) hx hb dX4_joinedAt_293 hl (Nat.le_of_ble_eq_true rfl) rfl (fun ls hl => ?_)
          as_aux_lemma =>
          exact hU _ _ _ (J295 x_125 g_h0_f1 (RG_w g_123 (by decide +kernel)) g_30 _ _ _ hP hD hS (lv_sub hl [0, 3, 5] rfl))
        by_cases c_127 : p1 = 55
        · have hsw : p1.toInt = 55 := by rw [c_127]; rfl
          refine lv_tableIn (off := 224) (tgt := 288) hx hb dX4_joinedAt_64 (by rw [hsw]; decide) (by rw [hsw]; decide) (by rw [hsw]; decide) (by decide +kernel) ?_
          have g_128 : RG p1 55 55 := RG_k _ _ hsw
          refine lv_iload_n hx hb dX4_joinedAt_288 rfl (lv_at hl 1 rfl) ?_
          refine lv_iload hx hb dX4_joinedAt_289 (lv_at hl 0 rfl) ?_
          refine lv_ior hx hb dX4_joinedAt_291 ?_
          refine lv_topi (fun x_129 ex_129 => ?_)
          refine lv_i2l (v := x_129.toInt64) hx hb dX4_joinedAt_292 rfl ?_
          refine lv_topl (fun x_130 ex_130 => ?_)
          have g_131 : LG x_130 (-2147483648) 2147483647 := LG_i2l ex_130 (RG_any x_129)
          refine lv_lstore (lv' := [(5, .long x_130), (4, .int x_37), (3, .int x_34), (0, .ref h0), (1, .int p1), (2, .int p2)]) hx hb dX4_joinedAt_293 hl (Nat.le_of_ble_eq_true rfl) rfl (fun ls hl => ?_)
          exact hU _ _ _ (J295 x_130 g_h0_f1 (RG_w g_128 (by decide +kernel)) g_30 _ _ _ hP hD hS (lv_sub hl [0, 3, 5] rfl))
        by_cases c_132 : p1 = 56
        · have hsw : p1.toInt = 56 := by rw [c_132]; rfl
          refine lv_tableIn (off := 224) (tgt := 288) hx hb dX4_joinedAt_64 (by rw [hsw]; decide) (by rw [hsw]; decide) (by rw [hsw]; decide) (by decide +kernel) ?_
          as_aux_lemma =>
          have g_133 : RG p1 56 56 := RG_k _ _ hsw
          refine lv_iload_n hx hb dX4_joinedAt_288 rfl (lv_at hl 1 rfl) ?_
          refine lv_iload hx hb dX4_joinedAt_289 (lv_at hl 0 rfl) ?_
          refine lv_ior hx hb dX4_joinedAt_291 ?_
          refine lv_topi (fun x_134 ex_134 => ?_)
          refine lv_i2l (v := x_134.toInt64) hx hb dX4_joinedAt_292 rfl ?_
          refine lv_topl (fun x_135 ex_135 => ?_)
          have g_136 : LG x_135 (-2147483648) 2147483647 := LG_i2l ex_135 (RG_any x_134)
          refine lv_lstore (lv' := [(5, .long x_135), (4, .int x_37), (3, .int x_34), (0, .ref h0), (1, .int p1), (2, .int p2)]) hx hb dX4_joinedAt_293 hl (Nat.le_of_ble_eq_true rfl) rfl (fun ls hl => ?_)
          exact hU _ _ _ (J295 x_135 g_h0_f1 (RG_w g_133 (by decide +kernel)) g_30 _ _ _ hP hD hS (lv_sub hl [0, 3, 5] rfl))
        by_cases c_137 : p1 = 57
        · have hsw : p1.toInt = 57 := by rw [c_137]; rfl
          refine lv_tableIn (off := 224) (tgt := 288) hx hb dX4_joinedAt_64 (by rw [hsw]; decide) (by rw [hsw]; decide) (by rw [hsw]; decide) (by decide +kernel) ?_
          have g_138 : RG p1 57 57 := RG_k _ _ hsw
          refine lv_iload_n hx hb dX4_joinedAt_288 rfl (lv_at hl 1 rfl) ?_
          as_aux_lemma =>
          refine lv_iload hx hb dX4_joinedAt_289 (lv_at hl 0 rfl) ?_
          refine lv_ior hx hb dX4_joinedAt_291 ?_
          refine lv_topi (fun x_139 ex_139 => ?_)
          refine lv_i2l (v := x_139.toInt64) hx hb dX4_joinedAt_292 rfl ?_
          refine lv_topl (fun x_140 ex_140 => ?_)
          have g_141 : LG x_140 (-2147483648) 2147483647 := LG_i2l ex_140 (RG_any x_139)
          refine lv_lstore (lv' := [(5, .long x_140), (4, .int x_37), (3, .int x_34), (0, .ref h0), (1, .int p1), (2, .int p2)]) hx hb dX4_joinedAt_293 hl (Nat.le_of_ble_eq_true rfl) rfl (fun ls hl => ?_)
          exact hU _ _ _ (J295 x_140 g_h0_f1 (RG_w g_138 (by decide +kernel)) g_30 _ _ _ hP hD hS (lv_sub hl [0, 3, 5] rfl))
        by_cases c_142 : p1 = 58
        · have hsw : p1.toInt = 58 := by rw [c_142]; rfl
          refine lv_tableIn (off := 224) (tgt := 288) hx hb dX4_joinedAt_64 (by rw [hsw]; decide) (by rw [hsw]; decide) (by rw [hsw]; decide) (by decide +kernel) ?_
          have g_143 : RG p1 58 58 := RG_k _ _ hsw
          refine lv_iload_n hx hb dX4_joinedAt_288 rfl (lv_at hl 1 rfl) ?_
          refine lv_iload hx hb dX4_joinedAt_289 (lv_at hl 0 rfl) ?_
          as_aux_lemma =>
          refine lv_ior hx hb dX4_joinedAt_291 ?_
          refine lv_topi (fun x_144 ex_144 => ?_)
          refine lv_i2l (v := x_144.toInt64) hx hb dX4_joinedAt_292 rfl ?_
          refine lv_topl (fun x_145 ex_145 => ?_)
          have g_146 : LG x_145 (-2147483648) 2147483647 := LG_i2l ex_145 (RG_any x_144)
          refine lv_lstore (lv' := [(5, .long x_145), (4, .int x_37), (3, .int x_34), (0, .ref h0), (1, .int p1), (2, .int p2)]) hx hb dX4_joinedAt_293 hl (Nat.le_of_ble_eq_true rfl) rfl (fun ls hl => ?_)
          exact hU _ _ _ (J295 x_145 g_h0_f1 (RG_w g_143 (by decide +kernel)) g_30 _ _ _ hP hD hS (lv_sub hl [0, 3, 5] rfl))
        by_cases c_147 : p1 = 59
        · have hsw : p1.toInt = 59 := by rw [c_147]; rfl
          refine lv_tableIn (off := 224) (tgt := 288) hx hb dX4_joinedAt_64 (by rw [hsw]; decide) (by rw [hsw]; decide) (by rw [hsw]; decide) (by decide +kernel) ?_
          have g_148 : RG p1 59 59 := RG_k _ _ hsw
          refine lv_iload_n hx hb dX4_joinedAt_288 rfl (lv_at hl 1 rfl) ?_
          refine lv_iload hx hb dX4_joinedAt_289 (lv_at hl 0 rfl) ?_
          refine lv_ior hx hb dX4_joinedAt_291 ?_
          as_aux_lemma =>
          refine lv_topi (fun x_149 ex_149 => ?_)
          refine lv_i2l (v := x_149.toInt64) hx hb dX4_joinedAt_292 rfl ?_
          refine lv_topl (fun x_150 ex_150 => ?_)
          have g_151 : LG x_150 (-2147483648) 2147483647 := LG_i2l ex_150 (RG_any x_149)
          refine lv_lstore (lv' := [(5, .long x_150), (4, .int x_37), (3, .int x_34), (0, .ref h0), (1, .int p1), (2, .int p2)]) hx hb dX4_joinedAt_293 hl (Nat.le_of_ble_eq_true rfl) rfl (fun ls hl => ?_)
          exact hU _ _ _ (J295 x_150 g_h0_f1 (RG_w g_148 (by decide +kernel)) g_30 _ _ _ hP hD hS (lv_sub hl [0, 3, 5] rfl))
        by_cases c_152 : p1 = 60
        · have hsw : p1.toInt = 60 := by rw [c_152]; rfl
          refine lv_tableIn (off := 182) (tgt := 246) hx hb dX4_joinedAt_64 (by rw [hsw]; decide) (by rw [hsw]; decide) (by rw [hsw]; decide) (by decide +kernel) ?_
          have g_153 : RG p1 60 60 := RG_k _ _ hsw
          refine lv_iload_n hx hb dX4_joinedAt_246 rfl (lv_at hl 1 rfl) ?_
          refine lv_iload hx hb dX4_joinedAt_247 (lv_at hl 0 rfl) ?_
          refine lv_icmp_ge (tgt := 256) hx hb dX4_joinedAt_249 rfl (fun c_154 => ?_) (fun c_154 => ?_)
          · refine lv_lconst (v := 0) hx hb dX4_joinedAt_256 (by decide +kernel) ?_
            exact hU _ _ _ (J257 g_h0_f1 g_153 g_30 _ _ _ hP hD hS (lv_sub hl [2, 4] rfl))
          · have d_155 := Int32.not_le.mp c_154
            have g_156 : RG x_34 (-2147483648) 2147483646 := RG_lt1 (RG_any x_34) (RG_any x_37) d_155 (by decide +kernel)
            have g_157 : RG x_37 (-2147483647) 2147483647 := RG_lt2 (RG_any x_34) (RG_any x_37) d_155 (by decide +kernel)
            refine lv_lconst (v := 1) hx hb dX4_joinedAt_252 (by decide +kernel) ?_
            as_aux_lemma =>
            refine lv_goto (tgt := 257) hx hb dX4_joinedAt_253 rfl ?_
            exact hU _ _ _ (J257b g_h0_f1 g_153 g_30 _ _ _ hP hD hS (lv_sub hl [2, 4] rfl))
        by_cases c_158 : p1 = 61
        · have hsw : p1.toInt = 61 := by rw [c_158]; rfl
          refine lv_tableIn (off := 166) (tgt := 230) hx hb dX4_joinedAt_64 (by rw [hsw]; decide) (by rw [hsw]; decide) (by rw [hsw]; decide) (by decide +kernel) ?_
          have g_159 : RG p1 61 61 := RG_k _ _ hsw
          refine lv_iload_n hx hb dX4_joinedAt_230 rfl (lv_at hl 1 rfl) ?_
          refine lv_iload hx hb dX4_joinedAt_231 (lv_at hl 0 rfl) ?_
          refine lv_icmp_ne (tgt := 240) hx hb dX4_joinedAt_233 rfl (fun c_160 => ?_) (fun c_160 => ?_)
          · refine lv_lconst (v := 0) hx hb dX4_joinedAt_240 (by decide +kernel) ?_
            exact hU _ _ _ (J241 g_h0_f1 g_159 g_30 _ _ _ hP hD hS (lv_sub hl [2, 4] rfl))
          · refine lv_lconst (v := 1) hx hb dX4_joinedAt_236 (by decide +kernel) ?_
            refine lv_goto (tgt := 241) hx hb dX4_joinedAt_237 rfl ?_
            exact hU _ _ _ (J241b g_h0_f1 g_159 g_30 _ _ _ hP hD hS (lv_sub hl [2, 4] rfl))
        by_cases c_161 : p1 = 62
        · have hsw : p1.toInt = 62 := by rw [c_161]; rfl
          refine lv_tableIn (off := 198) (tgt := 262) hx hb dX4_joinedAt_64 (by rw [hsw]; decide) (by rw [hsw]; decide) (by rw [hsw]; decide) (by decide +kernel) ?_
          as_aux_lemma =>
          have g_162 : RG p1 62 62 := RG_k _ _ hsw
          refine lv_iload_n hx hb dX4_joinedAt_262 rfl (lv_at hl 1 rfl) ?_
          refine lv_iload hx hb dX4_joinedAt_263 (lv_at hl 0 rfl) ?_
          refine lv_icmp_le (tgt := 272) hx hb dX4_joinedAt_265 rfl (fun c_163 => ?_) (fun c_163 => ?_)
          · refine lv_lconst (v := 0) hx hb dX4_joinedAt_272 (by decide +kernel) ?_
            exact hU _ _ _ (J273 g_h0_f1 g_162 g_30 _ _ _ hP hD hS (lv_sub hl [2, 4] rfl))
          · have d_164 := Int32.not_le.mp c_163
            have g_165 : RG x_37 (-2147483648) 2147483646 := RG_lt1 (RG_any x_37) (RG_any x_34) d_164 (by decide +kernel)
            have g_166 : RG x_34 (-2147483647) 2147483647 := RG_lt2 (RG_any x_37) (RG_any x_34) d_164 (by decide +kernel)
            refine lv_lconst (v := 1) hx hb dX4_joinedAt_268 (by decide +kernel) ?_
            refine lv_goto (tgt := 273) hx hb dX4_joinedAt_269 rfl ?_
            exact hU _ _ _ (J273b g_h0_f1 g_162 g_30 _ _ _ hP hD hS (lv_sub hl [2, 4] rfl))
        have hsw : p1.toInt < 38 ∨ 62 < p1.toInt := by
          have zc_38 := lv_neT c_38 (a := 38) (by decide +kernel)
          have zc_43 := lv_neT c_43 (a := 39) (by decide +kernel)
          have zc_48 := lv_neT c_48 (a := 40) (by decide +kernel)
          have zc_53 := lv_neT c_53 (a := 41) (by decide +kernel)
          have zc_58 := lv_neT c_58 (a := 42) (by decide +kernel)
          have zc_65 := lv_neT c_65 (a := 43) (by decide +kernel)
          have zc_70 := lv_neT c_70 (a := 44) (by decide +kernel)
          have zc_75 := lv_neT c_75 (a := 45) (by decide +kernel)
          have zc_80 := lv_neT c_80 (a := 46) (by decide +kernel)
          have zc_85 := lv_neT c_85 (a := 47) (by decide +kernel)
          have zc_92 := lv_neT c_92 (a := 48) (by decide +kernel)
          have zc_97 := lv_neT c_97 (a := 49) (by decide +kernel)
          have zc_102 := lv_neT c_102 (a := 50) (by decide +kernel)
          have zc_107 := lv_neT c_107 (a := 51) (by decide +kernel)
          have zc_112 := lv_neT c_112 (a := 52) (by decide +kernel)
          have zc_117 := lv_neT c_117 (a := 53) (by decide +kernel)
          have zc_122 := lv_neT c_122 (a := 54) (by decide +kernel)
          have zc_127 := lv_neT c_127 (a := 55) (by decide +kernel)
          have zc_132 := lv_neT c_132 (a := 56) (by decide +kernel)
          have zc_137 := lv_neT c_137 (a := 57) (by decide +kernel)
          have zc_142 := lv_neT c_142 (a := 58) (by decide +kernel)
          have zc_147 := lv_neT c_147 (a := 59) (by decide +kernel)
          have zc_152 := lv_neT c_152 (a := 60) (by decide +kernel)
          have zc_158 := lv_neT c_158 (a := 61) (by decide +kernel)
          have zc_161 := lv_neT c_161 (a := 62) (by decide +kernel)
          have zg1 := (g_p1).1
          have zg2 := (g_p1).2
          omega
        refine lv_tableOut (tgt := 288) hx hb dX4_joinedAt_64 hsw (by decide +kernel) ?_
        as_aux_lemma =>
        refine lv_iload_n hx hb dX4_joinedAt_288 rfl (lv_at hl 1 rfl) ?_
        refine lv_iload hx hb dX4_joinedAt_289 (lv_at hl 0 rfl) ?_
        refine lv_ior hx hb dX4_joinedAt_291 ?_
        refine lv_topi (fun x_167 ex_167 => ?_)
        refine lv_i2l (v := x_167.toInt64) hx hb dX4_joinedAt_292 rfl ?_
        refine lv_topl (fun x_168 ex_168 => ?_)
        have g_169 : LG x_168 (-2147483648) 2147483647 := LG_i2l ex_168 (RG_any x_167)
        refine lv_lstore (lv' := [(5, .long x_168), (4, .int x_37), (3, .int x_34), (0, .ref h0), (1, .int p1), (2, .int p2)]) hx hb dX4_joinedAt_293 hl (Nat.le_of_ble_eq_true rfl) rfl (fun ls hl => ?_)
        exact hU _ _ _ (J295 x_168 g_h0_f1 g_p1 g_30 _ _ _ hP hD hS (lv_sub hl [0, 3, 5] rfl))
      · have g_170 : RG p1 33 33 := RG_eq1 g_p1 (RG_k 33 33 rfl) c_31 (by decide +kernel)
        refine lv_aload_n hx hb dX4_joinedAt_24 rfl (lv_at hl 0 rfl) ?_
        refine va_get (D := (dC, dI)) (ci := 4) (v := .ref h0_2) (C := RX4) (T := TX4) (N := 3) hx hb hts iw_c_X4_joinedAt_X4 hown hK hP 0 rfl rfl 2 (by decide +kernel) (hts (.fieldLink RX4 17 "BuoyVote$Law" "stack" "[I") (List.mem_of_getElem? (i := 1) rfl)) (fun _ h9 => h9) rfl dX4_joinedAt_25 ?_
        refine lv_iload_n hx hb dX4_joinedAt_28 rfl (lv_at hl 2 rfl) ?_
        refine lv_iconst (v := 1) hx hb dX4_joinedAt_29 kc_iconst_1 ?_
        as_aux_lemma =>
        refine lv_isub hx hb dX4_joinedAt_30 ?_
        refine lv_topi (fun x_171 ex_171 => ?_)
        have g_172 : RG x_171 1 63 := RG_sub ex_171 g_30 (RG_k 1 1 rfl) (by decide +kernel)
        refine lv_iconst (v := 1) hx hb dX4_joinedAt_31 kc_iconst_1 ?_
        refine lv_aload_n hx hb dX4_joinedAt_32 rfl (lv_at hl 0 rfl) ?_
        refine va_get (D := (dC, dI)) (ci := 4) (v := .ref h0_2) (C := RX4) (T := TX4) (N := 3) hx hb hts iw_c_X4_joinedAt_X4 hown hK hP 0 rfl rfl 2 (by decide +kernel) (hts (.fieldLink RX4 17 "BuoyVote$Law" "stack" "[I") (List.mem_of_getElem? (i := 1) rfl)) (fun _ h9 => h9) rfl dX4_joinedAt_33 ?_
        refine lv_iload_n hx hb dX4_joinedAt_36 rfl (lv_at hl 2 rfl) ?_
        refine lv_iconst (v := 1) hx hb dX4_joinedAt_37 kc_iconst_1 ?_
        refine lv_isub hx hb dX4_joinedAt_38 ?_
        refine lv_topi (fun x_173 ex_173 => ?_)
        obtain rfl : x_171 = x_173 := ex_171.trans ex_173.symm
        refine va_iald hx hb hK hP 1 0 rfl rfl (RG_in g_172 (by decide +kernel)) dX4_joinedAt_39 ?_
        refine lv_topi (fun x_174 ex_174 => ?_)
        refine lv_isub hx hb dX4_joinedAt_40 ?_
        as_aux_lemma =>
        refine lv_topi (fun x_175 ex_175 => ?_)
        refine va_iast hx hb hK hP hD hS 1 0 rfl rfl (RG_in g_172 (by decide +kernel)) dX4_joinedAt_41 (fun H locs hP hD hS => ?_)
        have hP : va_P (dC, dI) vwCl (wd_c_X4_joinedAt h0 h0_0 h0_f1 h0_2 h0_2 h0_2k (upd h0_2c (x_171 : Int32).toNatClampNeg x_175)) H := hP
        have hD : va_D A (wd_c_X4_joinedAt h0 h0_0 h0_f1 h0_2 h0_2 h0_2k (upd h0_2c (x_171 : Int32).toNatClampNeg x_175)) := hD
        have l_177 : (upd h0_2c (x_171 : Int32).toNatClampNeg x_175) (x_171 : Int32).toNatClampNeg = x_175 := pk_us
        generalize (upd h0_2c (x_171 : Int32).toNatClampNeg x_175) = w_176 at hP hD l_177
        have hP : va_P (dC, dI) vwCl (wd_c_X4_joinedAt h0 h0_0 h0_f1 h0_2 h0_2 h0_2k w_176) H := hP
        have hD : va_D A (wd_c_X4_joinedAt h0 h0_0 h0_f1 h0_2 h0_2 h0_2k w_176) := hD
        refine lv_iload_n hx hb dX4_joinedAt_42 rfl (lv_at hl 2 rfl) ?_
        have hK9 := hK.sub (tys' := []) [] rfl
        exact W.iret (v := p2) hx hb hr (fun t ht hW => ⟨⟨p2, w_176, rfl, (RG_w g_30 (by decide +kernel)), by rw [ht]; exact hP, va_K.moved hW.alike hK9, hD⟩, hS.F ht⟩) hS.2.2 dX4_joinedAt_43
    · have d_178 := Int32.not_le.mp c_29
      have g_179 : RG p2 1 1 := RG_lt1 g_28 (RG_k 2 2 rfl) d_178 (by decide +kernel)
      refine lv_iload_n hx hb dX4_joinedAt_10 rfl (lv_at hl 1 rfl) ?_
      as_aux_lemma =>
      refine lv_bipush (v := 33) hx hb dX4_joinedAt_11 kc_bipush_33 ?_
      refine lv_icmp_eq (tgt := 18) hx hb dX4_joinedAt_13 rfl (fun c_180 => ?_) (fun c_180 => ?_)
      · have g_181 : RG p1 33 33 := RG_eq1 g_p1 (RG_k 33 33 rfl) c_180 (by decide +kernel)
        refine lv_iload_n hx hb dX4_joinedAt_18 rfl (lv_at hl 1 rfl) ?_
        refine lv_bipush (v := 33) hx hb dX4_joinedAt_19 kc_bipush_33 ?_
        refine lv_icmp_ne (tgt := 44) hx hb dX4_joinedAt_21 rfl (fun c_182 => ?_) (fun c_182 => ?_)
        · exact RG_dead (RG_ne1 g_181 (q := 33) rfl c_182 (a' := 34) (b' := 33) (by decide +kernel)) (by decide +kernel)
        · refine lv_aload_n hx hb dX4_joinedAt_24 rfl (lv_at hl 0 rfl) ?_
          refine va_get (D := (dC, dI)) (ci := 4) (v := .ref h0_2) (C := RX4) (T := TX4) (N := 3) hx hb hts iw_c_X4_joinedAt_X4 hown hK hP 0 rfl rfl 2 (by decide +kernel) (hts (.fieldLink RX4 17 "BuoyVote$Law" "stack" "[I") (List.mem_of_getElem? (i := 1) rfl)) (fun _ h9 => h9) rfl dX4_joinedAt_25 ?_
          refine lv_iload_n hx hb dX4_joinedAt_28 rfl (lv_at hl 2 rfl) ?_
          refine lv_iconst (v := 1) hx hb dX4_joinedAt_29 kc_iconst_1 ?_
          refine lv_isub hx hb dX4_joinedAt_30 ?_
          refine lv_topi (fun x_183 ex_183 => ?_)
          have g_184 : RG x_183 0 0 := RG_sub ex_183 g_179 (RG_k 1 1 rfl) (by decide +kernel)
          refine lv_iconst (v := 1) hx hb dX4_joinedAt_31 kc_iconst_1 ?_
          as_aux_lemma =>
          refine lv_aload_n hx hb dX4_joinedAt_32 rfl (lv_at hl 0 rfl) ?_
          refine va_get (D := (dC, dI)) (ci := 4) (v := .ref h0_2) (C := RX4) (T := TX4) (N := 3) hx hb hts iw_c_X4_joinedAt_X4 hown hK hP 0 rfl rfl 2 (by decide +kernel) (hts (.fieldLink RX4 17 "BuoyVote$Law" "stack" "[I") (List.mem_of_getElem? (i := 1) rfl)) (fun _ h9 => h9) rfl dX4_joinedAt_33 ?_
          refine lv_iload_n hx hb dX4_joinedAt_36 rfl (lv_at hl 2 rfl) ?_
          refine lv_iconst (v := 1) hx hb dX4_joinedAt_37 kc_iconst_1 ?_
          refine lv_isub hx hb dX4_joinedAt_38 ?_
          refine lv_topi (fun x_185 ex_185 => ?_)
          obtain rfl : x_183 = x_185 := ex_183.trans ex_185.symm
          refine va_iald hx hb hK hP 1 0 rfl rfl (RG_in g_184 (by decide +kernel)) dX4_joinedAt_39 ?_
          refine lv_topi (fun x_186 ex_186 => ?_)
          refine lv_isub hx hb dX4_joinedAt_40 ?_
          refine lv_topi (fun x_187 ex_187 => ?_)
          refine va_iast hx hb hK hP hD hS 1 0 rfl rfl (RG_in g_184 (by decide +kernel)) dX4_joinedAt_41 (fun H locs hP hD hS => ?_)
          have hP : va_P (dC, dI) vwCl (wd_c_X4_joinedAt h0 h0_0 h0_f1 h0_2 h0_2 h0_2k (upd h0_2c (x_183 : Int32).toNatClampNeg x_187)) H := hP
          have hD : va_D A (wd_c_X4_joinedAt h0 h0_0 h0_f1 h0_2 h0_2 h0_2k (upd h0_2c (x_183 : Int32).toNatClampNeg x_187)) := hD
          have l_189 : (upd h0_2c (x_183 : Int32).toNatClampNeg x_187) (x_183 : Int32).toNatClampNeg = x_187 := pk_us
          generalize (upd h0_2c (x_183 : Int32).toNatClampNeg x_187) = w_188 at hP hD l_189
          have hP : va_P (dC, dI) vwCl (wd_c_X4_joinedAt h0 h0_0 h0_f1 h0_2 h0_2 h0_2k w_188) H := hP
          have hD : va_D A (wd_c_X4_joinedAt h0 h0_0 h0_f1 h0_2 h0_2 h0_2k w_188) := hD
          refine lv_iload_n hx hb dX4_joinedAt_42 rfl (lv_at hl 2 rfl) ?_
          as_aux_lemma =>
          have hK9 := hK.sub (tys' := []) [] rfl
          exact W.iret (v := p2) hx hb hr (fun t ht hW => ⟨⟨p2, w_188, rfl, (RG_w g_179 (by decide +kernel)), by rw [ht]; exact hP, va_K.moved hW.alike hK9, hD⟩, hS.F ht⟩) hS.2.2 dX4_joinedAt_43
      · refine lv_iload_n hx hb dX4_joinedAt_16 rfl (lv_at hl 2 rfl) ?_
        have hK9 := hK.sub (tys' := []) [] rfl
        exact W.iret (v := p2) hx hb hr (fun t ht hW => ⟨⟨p2, h0_2c, rfl, (RG_w g_179 (by decide +kernel)), by rw [ht]; exact hP, va_K.moved hW.alike hK9, hD⟩, hS.F ht⟩) hS.2.2 dX4_joinedAt_17
noncomputable def wd_c_X4_worth (a0 : Nat) (a1 : Nat) (a2 : Int32) (a3 : Nat) (a4 : Nat) (a5 : ClassId) (a6 : Nat → Int32) (a7 : Nat) (a8 : ClassId) (a9 : Nat → Int32) (a10 : Nat) (a11 : ClassId) (a12 : Nat → Int32) : va_W := [(a0, .inr (4, [.ref a1, .int a2, .ref a3])), (a4, .inl (a5, 240, .inl a6)), (a7, .inl (a8, 6, .inl a9)), (a10, .inl (a11, 64, .inl a12))]
noncomputable def wf_c_X4_worth : List Cond := List.cons (.code yX4_worth cX4_worth 6 (some .int)) (@HAppend.hAppend (List Cond) (List Cond) (List Cond) _ [.fieldLink RX4 20 "BuoyVote$Law" "length" "I", .fieldLink RX4 11 "BuoyVote$Law" "code" "[I", .fieldLink RX4 17 "BuoyVote$Law" "stack" "[I", .methodLink RX4 24 yX4_joinedAt, .instanceMethod yX4_joinedAt, .selects RX4 yX4_joinedAt yX4_joinedAt, .initialized RX4, .code yX4_joinedAt cX4_joinedAt 7 (some .int), .constantLong RX4 28 (1000000), .constantLong RX4 31 (-1000000), .constant RX4 33 (-1000000), .constant RX4 30 (1000000)] wsX40)
theorem iw_c_X4_worth_X4 : ∀ w ∈ wsX40, w ∈ wf_c_X4_worth := fun w h => List.mem_cons_of_mem _ (List.mem_append_right _ h)
set_option maxRecDepth 20000 in
theorem gf_c_X4_worth_c_X4_joinedAt : GoodIn wf_c_X4_worth (wsV RX4 24 RX4 yX4_joinedAt wf_c_X4_joinedAt) := goodIn_app (gi_l [4, 5, 6, 7] rfl rfl) (gi_cons (j := 8) rfl rfl (goodIn_app (gi_l [3, 9, 10, 11, 12] rfl rfl) (goodIn_sub iw_c_X4_worth_X4 gw_X4)))
set_option maxHeartbeats 4000000 in
set_option maxRecDepth 100000 in
theorem c_X4_worth (l : Launch) (dC : Nat → ClassId) (dI : Nat → Nat → Nat) (sz : Nat) (h0 : Nat) (h1 : Nat) (h0_0 : Nat) (h0_f1 : Int32) (h0_2 : Nat) (h0_0k : ClassId) (h0_0c : Nat → Int32) (h1k : ClassId) (h1c : Nat → Int32) (h0_2k : ClassId) (h0_2c : Nat → Int32) (g_h0_f1 : RG h0_f1 0 240) : Met l yX4_worth wf_c_X4_worth ({ frames := 1, cells := 0, slots := 0, locals := 26 }) (va_Pc [.ref h0, .ref h1] (fun U => U.heap.size = sz ∧ va_P (dC, dI) vwCl (wd_c_X4_worth h0 h0_0 h0_f1 h0_2 h0_0 h0_0k h0_0c h1 h1k h1c h0_2 h0_2k h0_2c) U.heap ∧ va_K (dC, dI) vwCl [(h0_0k, .int), (h1k, .int), (h0_2k, .int)] U ∧ va_D (fun _ => True) (wd_c_X4_worth h0 h0_0 h0_f1 h0_2 h0_0 h0_0k h0_0c h1 h1k h1c h0_2 h0_2k h0_2c))) (va_Qi (fun (r : Int32) (u : (Nat → Int32)) => (r = 0) ∨ (RG r (-2147483648) 2147483647 ∧ RG h0_f1 1 240)) (fun (u : (Nat → Int32)) t => va_P (dC, dI) vwCl (wd_c_X4_worth h0 h0_0 h0_f1 h0_2 h0_0 h0_0k h0_0c h1 h1k h1c h0_2 h0_2k (u)) t.heap ∧ va_K (dC, dI) vwCl [] t ∧ va_D (va_A (wd_c_X4_worth h0 h0_0 h0_f1 h0_2 h0_0 h0_0k h0_0c h1 h1k h1c h0_2 h0_2k h0_2c) sz) (wd_c_X4_worth h0 h0_0 h0_f1 h0_2 h0_0 h0_0k h0_0c h1 h1k h1c h0_2 h0_2k (u))) (va_A (wd_c_X4_worth h0 h0_0 h0_f1 h0_2 h0_0 h0_0k h0_0c h1 h1k h1c h0_2 h0_2k h0_2c) sz)) 0 0 (va_A (wd_c_X4_worth h0 h0_0 h0_f1 h0_2 h0_0 h0_0k h0_0c h1 h1k h1c h0_2 h0_2k h0_2c) sz) := by
  refine Met.ofW (cc := cX4_worth) (maxL := 6) (ret := (some .int)) (by decide +kernel) rfl ?_
  intro p e s m args below meth c s₁ B hml hv
  obtain ⟨rfl, hsz, hP, hK, hD0⟩ := hv
  have hx := B.exec
  have hb := B.bytes
  have hr := B.returns
  have hts := atoms_spec (ws := wf_c_X4_worth) B.pre
  have hown : s.vm.findClass RX4 = some m.cls := findClass_of_methodNamed B.named
  have hlocks := B.notSynchronized
  subst hsz
  have hD := hD0.self (sz := s.heap.size)
  generalize hAe : va_A (wd_c_X4_worth h0 h0_0 h0_f1 h0_2 h0_0 h0_0k h0_0c h1 h1k h1c h0_2 h0_2k h0_2c) s.heap.size = A at hD ⊢
  have hA : ∀ q : Nat, s.heap.size ≤ q → A q := fun q h => by rw [← hAe]; exact Or.inr h
  have hP : va_P (dC, dI) vwCl (wd_c_X4_worth h0 h0_0 h0_f1 h0_2 h0_0 h0_0k h0_0c h1 h1k h1c h0_2 h0_2k h0_2c) s.heap := hP
  have hl := lv_entry ([.ref h0, .ref h1]) (n := 6) (Nat.le_of_ble_eq_true rfl)
  rw [lg_entry_eq]
  generalize (lg_sl ([.ref h0, .ref h1]) ++ List.replicate (6 - (lg_sl ([.ref h0, .ref h1])).length) Slot.unset).toArray = ls at hl ⊢
  have hl : lv_has ls 6 [(0, .ref h0), (1, .ref h1)] := hl
  obtain ⟨H, hHe⟩ : ∃ H : Heap, s.heap = H := ⟨_, rfl⟩
  have hS : va_S A s.heap H [] := by rw [hHe]; exact va_S.rf
  have hP : va_P (dC, dI) vwCl (wd_c_X4_worth h0 h0_0 h0_f1 h0_2 h0_0 h0_0k h0_0c h1 h1k h1c h0_2 h0_2k h0_2c) H := by rw [← hHe]; exact hP
  rw [hHe]
  refine wj (fun G hG hU => ?_)
  as_aux_lemma =>
  have J7 : ∀ (n7 : Nat) (j7_l4 : Int32) (j7_l3 : Int32) (j7_l2 : Int32) (j7_h0_2c : Nat → Int32) (hM7 : MU j7_l4 < n7) (g_h0_f1 : RG h0_f1 0 240) (g_j7_l2 : RG j7_l2 0 64) (g_j7_l3 : RG j7_l3 0 1) (g_j7_l4 : RG j7_l4 0 240) (H : Heap) (locs : List Loc) (ls : Array Slot) (hP : va_P (dC, dI) vwCl (wd_c_X4_worth h0 h0_0 h0_f1 h0_2 h0_0 h0_0k h0_0c h1 h1k h1c h0_2 h0_2k j7_h0_2c) H) (hD : va_D A (wd_c_X4_worth h0 h0_0 h0_f1 h0_2 h0_0 h0_0k h0_0c h1 h1k h1c h0_2 h0_2k j7_h0_2c)) (hS : va_S A s.heap H locs) (hl : lv_has ls 6 [(4, .int j7_l4), (3, .int j7_l3), (2, .int j7_l2), (0, .ref h0), (1, .ref h1)]), G H locs (F0 m 7 ls []) := by
    as_aux_lemma =>
    intro n7
    induction n7 with
    | zero => intros; exact absurd (by assumption) (Nat.not_lt_zero _)
    | succ n7 ih7 =>
      intro j7_l4 j7_l3 j7_l2 j7_h0_2c hM7 g_h0_f1 g_j7_l2 g_j7_l3 g_j7_l4 H locs ls hP hD hS hl
      have J142 : ∀ (j142_l3 : Int32) (j142_l2 : Int32) (j142_h0_2c : Nat → Int32) (g_h0_f1 : RG h0_f1 1 240) (g_j142_l2 : RG j142_l2 0 64) (g_j142_l3 : RG j142_l3 0 1) (g_j7_l2 : RG j7_l2 0 64) (g_j7_l3 : RG j7_l3 0 1) (g_j7_l4 : RG j7_l4 0 239) (H : Heap) (locs : List Loc) (ls : Array Slot) (hP : va_P (dC, dI) vwCl (wd_c_X4_worth h0 h0_0 h0_f1 h0_2 h0_0 h0_0k h0_0c h1 h1k h1c h0_2 h0_2k j142_h0_2c) H) (hD : va_D A (wd_c_X4_worth h0 h0_0 h0_f1 h0_2 h0_0 h0_0k h0_0c h1 h1k h1c h0_2 h0_2k j142_h0_2c)) (hS : va_S A s.heap H locs) (hl : lv_has ls 6 [(4, .int j7_l4), (3, .int j142_l3), (2, .int j142_l2), (0, .ref h0), (1, .ref h1)]), G H locs (F0 m 142 ls []) := by
        as_aux_lemma =>
        intro j142_l3 j142_l2 j142_h0_2c g_h0_f1 g_j142_l2 g_j142_l3 g_j7_l2 g_j7_l3 g_j7_l4 H locs ls hP hD hS hl
        refine hG _ _ _ ?_
        obtain ⟨x_1, ex_1⟩ : ∃ y : Int32, y = j7_l4 + 1 := ⟨_, rfl⟩
        have g_2 : RG x_1 1 240 := RG_add ex_1 g_j7_l4 (RG_k 1 1 rfl) (by decide +kernel)
        refine lv_iinc (v := x_1) (lv' := [(4, .int x_1), (3, .int j142_l3), (2, .int j142_l2), (0, .ref h0), (1, .ref h1)]) hx hb dX4_worth_142 hl (k := 0) rfl (by rw [ex_1]; rfl) (Nat.le_of_ble_eq_true rfl) rfl (fun ls hl => ?_)
        refine lv_goto (tgt := 7) hx hb dX4_worth_145 rfl ?_
        exact hU _ _ _ (ih7 x_1 j142_l3 j142_l2 j142_h0_2c (mu_s (MU_add ex_1 g_j7_l4 (q := 1) rfl (by decide +kernel)) hM7) (RG_w g_h0_f1 (by decide +kernel)) g_j142_l2 g_j142_l3 (RG_w g_2 (by decide +kernel)) _ _ _ hP hD hS (lv_sub hl [0, 1, 2, 3, 4] rfl))
      have J48 : ∀ (g_h0_f1 : RG h0_f1 1 240) (g_j7_l2 : RG j7_l2 0 64) (g_j7_l3 : RG j7_l3 0 1) (g_j7_l4 : RG j7_l4 0 239) (H : Heap) (locs : List Loc) (ls : Array Slot) (hP : va_P (dC, dI) vwCl (wd_c_X4_worth h0 h0_0 h0_f1 h0_2 h0_0 h0_0k h0_0c h1 h1k h1c h0_2 h0_2k j7_h0_2c) H) (hD : va_D A (wd_c_X4_worth h0 h0_0 h0_f1 h0_2 h0_0 h0_0k h0_0c h1 h1k h1c h0_2 h0_2k j7_h0_2c)) (hS : va_S A s.heap H locs) (hl : lv_has ls 6 [(4, .int j7_l4), (2, .int j7_l2), (0, .ref h0), (1, .ref h1)]), G H locs (F0 m 48 ls []) := by
        as_aux_lemma =>
        intro g_h0_f1 g_j7_l2 g_j7_l3 g_j7_l4 H locs ls hP hD hS hl
        refine hG _ _ _ ?_
        refine lv_iconst (v := 0) hx hb dX4_worth_48 kc_iconst_0 ?_
        refine lv_istore_n (lv' := [(3, .int 0), (4, .int j7_l4), (2, .int j7_l2), (0, .ref h0), (1, .ref h1)]) hx hb dX4_worth_49 rfl hl (Nat.le_of_ble_eq_true rfl) rfl (fun ls hl => ?_)
        refine lv_goto (tgt := 142) hx hb dX4_worth_50 rfl ?_
        exact hU _ _ _ (J142 0 j7_l2 j7_h0_2c g_h0_f1 g_j7_l2 (RG_w (RG_k 0 0 rfl) (by decide +kernel)) g_j7_l2 g_j7_l3 g_j7_l4 _ _ _ hP hD hS (lv_sub hl [1, 0, 2, 3, 4] rfl))
      have J78 : ∀ (g_h0_f1 : RG h0_f1 1 240) (g_j7_l2 : RG j7_l2 0 64) (g_j7_l3 : RG j7_l3 0 0) (g_j7_l4 : RG j7_l4 0 239) (H : Heap) (locs : List Loc) (ls : Array Slot) (hP : va_P (dC, dI) vwCl (wd_c_X4_worth h0 h0_0 h0_f1 h0_2 h0_0 h0_0k h0_0c h1 h1k h1c h0_2 h0_2k j7_h0_2c) H) (hD : va_D A (wd_c_X4_worth h0 h0_0 h0_f1 h0_2 h0_0 h0_0k h0_0c h1 h1k h1c h0_2 h0_2k j7_h0_2c)) (hS : va_S A s.heap H locs) (hl : lv_has ls 6 [(4, .int j7_l4), (0, .ref h0), (1, .ref h1)]), G H locs (F0 m 78 ls [.int 0]) := by
        as_aux_lemma =>
        intro g_h0_f1 g_j7_l2 g_j7_l3 g_j7_l4 H locs ls hP hD hS hl
        refine hG _ _ _ ?_
        refine lv_istore_n (lv' := [(3, .int 0), (4, .int j7_l4), (0, .ref h0), (1, .ref h1)]) hx hb dX4_worth_78 rfl hl (Nat.le_of_ble_eq_true rfl) rfl (fun ls hl => ?_)
        refine lv_iconst (v := 0) hx hb dX4_worth_79 kc_iconst_0 ?_
        refine lv_istore_n (lv' := [(2, .int 0), (3, .int 0), (4, .int j7_l4), (0, .ref h0), (1, .ref h1)]) hx hb dX4_worth_80 rfl hl (Nat.le_of_ble_eq_true rfl) rfl (fun ls hl => ?_)
        refine lv_goto (tgt := 142) hx hb dX4_worth_81 rfl ?_
        exact hU _ _ _ (J142 0 0 j7_h0_2c g_h0_f1 (RG_w (RG_k 0 0 rfl) (by decide +kernel)) (RG_w (RG_k 0 0 rfl) (by decide +kernel)) g_j7_l2 (RG_w g_j7_l3 (by decide +kernel)) g_j7_l4 _ _ _ hP hD hS (lv_sub hl [2, 1, 0, 3, 4] rfl))
      have J78b : ∀ (g_h0_f1 : RG h0_f1 1 240) (g_j7_l2 : RG j7_l2 0 64) (g_j7_l3 : RG j7_l3 0 0) (g_j7_l4 : RG j7_l4 0 239) (H : Heap) (locs : List Loc) (ls : Array Slot) (hP : va_P (dC, dI) vwCl (wd_c_X4_worth h0 h0_0 h0_f1 h0_2 h0_0 h0_0k h0_0c h1 h1k h1c h0_2 h0_2k j7_h0_2c) H) (hD : va_D A (wd_c_X4_worth h0 h0_0 h0_f1 h0_2 h0_0 h0_0k h0_0c h1 h1k h1c h0_2 h0_2k j7_h0_2c)) (hS : va_S A s.heap H locs) (hl : lv_has ls 6 [(4, .int j7_l4), (0, .ref h0), (1, .ref h1)]), G H locs (F0 m 78 ls [.int 1]) := by
        as_aux_lemma =>
        intro g_h0_f1 g_j7_l2 g_j7_l3 g_j7_l4 H locs ls hP hD hS hl
        refine hG _ _ _ ?_
        refine lv_istore_n (lv' := [(3, .int 1), (4, .int j7_l4), (0, .ref h0), (1, .ref h1)]) hx hb dX4_worth_78 rfl hl (Nat.le_of_ble_eq_true rfl) rfl (fun ls hl => ?_)
        refine lv_iconst (v := 0) hx hb dX4_worth_79 kc_iconst_0 ?_
        refine lv_istore_n (lv' := [(2, .int 0), (3, .int 1), (4, .int j7_l4), (0, .ref h0), (1, .ref h1)]) hx hb dX4_worth_80 rfl hl (Nat.le_of_ble_eq_true rfl) rfl (fun ls hl => ?_)
        refine lv_goto (tgt := 142) hx hb dX4_worth_81 rfl ?_
        exact hU _ _ _ (J142 1 0 j7_h0_2c g_h0_f1 (RG_w (RG_k 0 0 rfl) (by decide +kernel)) (RG_w (RG_k 1 1 rfl) (by decide +kernel)) g_j7_l2 (RG_w g_j7_l3 (by decide +kernel)) g_j7_l4 _ _ _ hP hD hS (lv_sub hl [2, 1, 0, 3, 4] rfl))
      have J138 : ∀ (j138_s2 : Int32) (g_h0_f1 : RG h0_f1 1 240) (g_j7_l2 : RG j7_l2 0 63) (g_j7_l3 : RG j7_l3 0 0) (g_j7_l4 : RG j7_l4 0 239) (H : Heap) (locs : List Loc) (ls : Array Slot) (hP : va_P (dC, dI) vwCl (wd_c_X4_worth h0 h0_0 h0_f1 h0_2 h0_0 h0_0k h0_0c h1 h1k h1c h0_2 h0_2k j7_h0_2c) H) (hD : va_D A (wd_c_X4_worth h0 h0_0 h0_f1 h0_2 h0_0 h0_0k h0_0c h1 h1k h1c h0_2 h0_2k j7_h0_2c)) (hS : va_S A s.heap H locs) (hl : lv_has ls 6 [(4, .int j7_l4), (3, .int j7_l3), (2, .int j7_l2), (0, .ref h0), (1, .ref h1)]), G H locs (F0 m 138 ls [.int j138_s2, .int j7_l2, .ref h0_2]) := by
        as_aux_lemma =>
        intro j138_s2 g_h0_f1 g_j7_l2 g_j7_l3 g_j7_l4 H locs ls hP hD hS hl
        refine hG _ _ _ ?_
        refine va_iast hx hb hK hP hD hS 3 2 rfl rfl (RG_in g_j7_l2 (by decide +kernel)) dX4_worth_138 (fun H locs hP hD hS => ?_)
        have hP : va_P (dC, dI) vwCl (wd_c_X4_worth h0 h0_0 h0_f1 h0_2 h0_0 h0_0k h0_0c h1 h1k h1c h0_2 h0_2k (upd j7_h0_2c (j7_l2 : Int32).toNatClampNeg j138_s2)) H := hP
        have hD : va_D A (wd_c_X4_worth h0 h0_0 h0_f1 h0_2 h0_0 h0_0k h0_0c h1 h1k h1c h0_2 h0_2k (upd j7_h0_2c (j7_l2 : Int32).toNatClampNeg j138_s2)) := hD
        have l_4 : (upd j7_h0_2c (j7_l2 : Int32).toNatClampNeg j138_s2) (j7_l2 : Int32).toNatClampNeg = j138_s2 := pk_us
        generalize (upd j7_h0_2c (j7_l2 : Int32).toNatClampNeg j138_s2) = w_3 at hP hD l_4
        have hP : va_P (dC, dI) vwCl (wd_c_X4_worth h0 h0_0 h0_f1 h0_2 h0_0 h0_0k h0_0c h1 h1k h1c h0_2 h0_2k w_3) H := hP
        have hD : va_D A (wd_c_X4_worth h0 h0_0 h0_f1 h0_2 h0_0 h0_0k h0_0c h1 h1k h1c h0_2 h0_2k w_3) := hD
        obtain ⟨x_5, ex_5⟩ : ∃ y : Int32, y = j7_l2 + 1 := ⟨_, rfl⟩
        have g_6 : RG x_5 1 64 := RG_add ex_5 g_j7_l2 (RG_k 1 1 rfl) (by decide +kernel)
        refine lv_iinc (v := x_5) (lv' := [(2, .int x_5), (4, .int j7_l4), (3, .int j7_l3), (0, .ref h0), (1, .ref h1)]) hx hb dX4_worth_139 hl (k := 2) rfl (by rw [ex_5]; rfl) (Nat.le_of_ble_eq_true rfl) rfl (fun ls hl => ?_)
        exact hU _ _ _ (J142 j7_l3 x_5 w_3 g_h0_f1 (RG_w g_6 (by decide +kernel)) (RG_w g_j7_l3 (by decide +kernel)) (RG_w g_j7_l2 (by decide +kernel)) (RG_w g_j7_l3 (by decide +kernel)) g_j7_l4 _ _ _ hP hD hS (lv_sub hl [1, 2, 0, 3, 4] rfl))
      refine hG _ _ _ ?_
      as_aux_lemma =>
      refine lv_iload hx hb dX4_worth_7 (lv_at hl 0 rfl) ?_
      refine lv_aload_n hx hb dX4_worth_9 rfl (lv_at hl 3 rfl) ?_
      refine va_get (D := (dC, dI)) (ci := 4) (v := .int h0_f1) (C := RX4) (T := TX4) (N := 3) hx hb hts iw_c_X4_worth_X4 hown hK hP 0 rfl rfl 1 (by decide +kernel) (hts (.fieldLink RX4 20 "BuoyVote$Law" "length" "I") (List.mem_of_getElem? (i := 1) rfl)) (fun _ h9 => h9) rfl dX4_worth_10 ?_
      refine lv_icmp_ge (tgt := 148) hx hb dX4_worth_13 rfl (fun c_7 => ?_) (fun c_7 => ?_)
      · refine lv_iconst (v := 0) hx hb dX4_worth_148 kc_iconst_0 ?_
        have hK9 := hK.sub (tys' := []) [] rfl
        exact W.iret (v := 0) hx hb hr (fun t ht hW => ⟨⟨0, j7_h0_2c, rfl, (Or.inl rfl), by rw [ht]; exact hP, va_K.moved hW.alike hK9, hD⟩, hS.F ht⟩) hS.2.2 dX4_worth_149
      · have d_8 := Int32.not_le.mp c_7
        have g_9 : RG j7_l4 0 239 := RG_lt1 g_j7_l4 g_h0_f1 d_8 (by decide +kernel)
        have g_10 : RG h0_f1 1 240 := RG_lt2 g_j7_l4 g_h0_f1 d_8 (by decide +kernel)
        refine lv_aload_n hx hb dX4_worth_16 rfl (lv_at hl 3 rfl) ?_
        refine va_get (D := (dC, dI)) (ci := 4) (v := .ref h0_0) (C := RX4) (T := TX4) (N := 3) hx hb hts iw_c_X4_worth_X4 hown hK hP 0 rfl rfl 0 (by decide +kernel) (hts (.fieldLink RX4 11 "BuoyVote$Law" "code" "[I") (List.mem_of_getElem? (i := 2) rfl)) (fun _ h9 => h9) rfl dX4_worth_17 ?_
        refine lv_iload hx hb dX4_worth_20 (lv_at hl 0 rfl) ?_
        refine va_iald hx hb hK hP 1 0 rfl rfl (RG_in g_9 (by decide +kernel)) dX4_worth_22 ?_
        as_aux_lemma =>
        refine lv_topi (fun x_11 ex_11 => ?_)
        refine lv_ineg hx hb dX4_worth_23 ?_
        refine lv_topi (fun x_12 ex_12 => ?_)
        refine lv_istore (lv' := [(5, .int x_12), (4, .int j7_l4), (3, .int j7_l3), (2, .int j7_l2), (0, .ref h0), (1, .ref h1)]) hx hb dX4_worth_24 hl (Nat.le_of_ble_eq_true rfl) rfl (fun ls hl => ?_)
        refine lv_iload hx hb dX4_worth_26 (lv_at hl 0 rfl) ?_
        refine lv_bipush (v := 59) hx hb dX4_worth_28 kc_bipush_59 ?_
        refine lv_icmp_ne (tgt := 53) hx hb dX4_worth_30 rfl (fun c_13 => ?_) (fun c_13 => ?_)
        · refine lv_iload_n hx hb dX4_worth_53 rfl (lv_at hl 2 rfl) ?_
          refine lv_if_ne (tgt := 84) hx hb dX4_worth_54 rfl (fun c_14 => ?_) (fun c_14 => ?_)
          · have g_15 : RG j7_l3 1 1 := RG_ne1 g_j7_l3 (q := 0) rfl c_14 (by decide +kernel)
            refine lv_iload_n hx hb dX4_worth_84 rfl (lv_at hl 2 rfl) ?_
            refine lv_if_ne (tgt := 106) hx hb dX4_worth_85 rfl (fun c_16 => ?_) (fun c_16 => ?_)
            · refine lv_iload_n hx hb dX4_worth_106 rfl (lv_at hl 2 rfl) ?_
              refine lv_if_ne (tgt := 142) hx hb dX4_worth_107 rfl (fun c_17 => ?_) (fun c_17 => ?_)
              · exact hU _ _ _ (J142 j7_l3 j7_l2 j7_h0_2c g_10 g_j7_l2 (RG_w g_15 (by decide +kernel)) g_j7_l2 (RG_w g_15 (by decide +kernel)) g_9 _ _ _ hP hD hS (lv_sub hl [1, 2, 3, 4, 5] rfl))
              · exact RG_dead (RG_eq1 g_15 (RG_k 0 0 rfl) c_17 (a' := 1) (b' := 0) (by decide +kernel)) (by decide +kernel)
            · exact RG_dead (RG_eq1 g_15 (RG_k 0 0 rfl) c_16 (a' := 1) (b' := 0) (by decide +kernel)) (by decide +kernel)
          · have g_18 : RG j7_l3 0 0 := RG_eq1 g_j7_l3 (RG_k 0 0 rfl) c_14 (by decide +kernel)
            refine lv_iload hx hb dX4_worth_57 (lv_at hl 0 rfl) ?_
            as_aux_lemma =>
            refine lv_bipush (v := 63) hx hb dX4_worth_59 kc_bipush_63 ?_
            refine lv_icmp_ne (tgt := 84) hx hb dX4_worth_61 rfl (fun c_19 => ?_) (fun c_19 => ?_)
            · refine lv_iload_n hx hb dX4_worth_84 rfl (lv_at hl 2 rfl) ?_
              refine lv_if_ne (tgt := 106) hx hb dX4_worth_85 rfl (fun c_20 => ?_) (fun c_20 => ?_)
              · exact RG_dead (RG_ne1 g_18 (q := 0) rfl c_20 (a' := 1) (b' := 0) (by decide +kernel)) (by decide +kernel)
              · refine lv_iload hx hb dX4_worth_88 (lv_at hl 0 rfl) ?_
                refine lv_bipush (v := 6) hx hb dX4_worth_90 kc_bipush_6 ?_
                refine lv_icmp_le (tgt := 106) hx hb dX4_worth_92 rfl (fun c_21 => ?_) (fun c_21 => ?_)
                · have g_22 : RG x_12 (-2147483648) 6 := RG_le1 (RG_any x_12) (RG_k 6 6 rfl) c_21 (by decide +kernel)
                  refine lv_iload_n hx hb dX4_worth_106 rfl (lv_at hl 2 rfl) ?_
                  refine lv_if_ne (tgt := 142) hx hb dX4_worth_107 rfl (fun c_23 => ?_) (fun c_23 => ?_)
                  · exact RG_dead (RG_ne1 g_18 (q := 0) rfl c_23 (a' := 1) (b' := 0) (by decide +kernel)) (by decide +kernel)
                  · refine lv_iload_n hx hb dX4_worth_110 rfl (lv_at hl 3 rfl) ?_
                    refine lv_bipush (v := 64) hx hb dX4_worth_111 kc_bipush_64 ?_
                    as_aux_lemma =>
                    refine lv_icmp_ge (tgt := 142) hx hb dX4_worth_113 rfl (fun c_24 => ?_) (fun c_24 => ?_)
                    · have g_25 : RG j7_l2 64 64 := RG_le2 (RG_k 64 64 rfl) g_j7_l2 c_24 (by decide +kernel)
                      exact hU _ _ _ (J142 j7_l3 j7_l2 j7_h0_2c g_10 (RG_w g_25 (by decide +kernel)) (RG_w g_18 (by decide +kernel)) (RG_w g_25 (by decide +kernel)) (RG_w g_18 (by decide +kernel)) g_9 _ _ _ hP hD hS (lv_sub hl [1, 2, 3, 4, 5] rfl))
                    · have d_26 := Int32.not_le.mp c_24
                      have g_27 : RG j7_l2 0 63 := RG_lt1 g_j7_l2 (RG_k 64 64 rfl) d_26 (by decide +kernel)
                      refine lv_aload_n hx hb dX4_worth_116 rfl (lv_at hl 4 rfl) ?_
                      refine va_get (D := (dC, dI)) (ci := 4) (v := .ref h0_2) (C := RX4) (T := TX4) (N := 3) hx hb hts iw_c_X4_worth_X4 hown hK hP 0 rfl rfl 2 (by decide +kernel) (hts (.fieldLink RX4 17 "BuoyVote$Law" "stack" "[I") (List.mem_of_getElem? (i := 3) rfl)) (fun _ h9 => h9) rfl dX4_worth_117 ?_
                      refine lv_iload_n hx hb dX4_worth_120 rfl (lv_at hl 3 rfl) ?_
                      refine lv_iload hx hb dX4_worth_121 (lv_at hl 0 rfl) ?_
                      refine lv_if_le (tgt := 135) hx hb dX4_worth_123 rfl (fun c_28 => ?_) (fun c_28 => ?_)
                      · have g_29 : RG x_12 (-2147483648) 0 := RG_le1 g_22 (RG_k 0 0 rfl) c_28 (by decide +kernel)
                        refine lv_iload hx hb dX4_worth_135 (lv_at hl 0 rfl) ?_
                        refine lv_ineg hx hb dX4_worth_137 ?_
                        refine lv_topi (fun x_30 ex_30 => ?_)
                        as_aux_lemma =>
                        exact hU _ _ _ (J138 x_30 g_10 g_27 g_18 g_9 _ _ _ hP hD hS (lv_sub hl [1, 2, 3, 4, 5] rfl))
                      · have d_31 := Int32.not_le.mp c_28
                        have g_32 : RG x_12 1 6 := RG_lt2 (RG_k 0 0 rfl) g_22 d_31 (by decide +kernel)
                        refine lv_aload_n hx hb dX4_worth_126 rfl (lv_at hl 5 rfl) ?_
                        refine lv_iload hx hb dX4_worth_127 (lv_at hl 0 rfl) ?_
                        refine lv_iconst (v := 1) hx hb dX4_worth_129 kc_iconst_1 ?_
                        refine lv_isub hx hb dX4_worth_130 ?_
                        refine lv_topi (fun x_33 ex_33 => ?_)
                        have g_34 : RG x_33 0 5 := RG_sub ex_33 g_32 (RG_k 1 1 rfl) (by decide +kernel)
                        refine va_iald hx hb hK hP 2 1 rfl rfl (RG_in g_34 (by decide +kernel)) dX4_worth_131 ?_
                        refine lv_topi (fun x_35 ex_35 => ?_)
                        refine lv_goto (tgt := 138) hx hb dX4_worth_132 rfl ?_
                        exact hU _ _ _ (J138 x_35 g_10 g_27 g_18 g_9 _ _ _ hP hD hS (lv_sub hl [1, 2, 3, 4, 5] rfl))
                · have d_36 := Int32.not_le.mp c_21
                  have g_37 : RG x_12 7 2147483647 := RG_lt2 (RG_k 6 6 rfl) (RG_any x_12) d_36 (by decide +kernel)
                  refine lv_aload_n hx hb dX4_worth_95 rfl (lv_at hl 4 rfl) ?_
                  as_aux_lemma =>
                  refine lv_iload hx hb dX4_worth_96 (lv_at hl 0 rfl) ?_
                  refine lv_iload_n hx hb dX4_worth_98 rfl (lv_at hl 3 rfl) ?_
                  obtain ⟨hPc, hDc, hFc, hqc⟩ := cl_cut (wc := (wd_c_X4_joinedAt h0 h0_0 h0_f1 h0_2 h0_2 h0_2k j7_h0_2c)) hP hD hS hA [0, 3] (by decide +kernel) rfl
                  have hKc := hK.sub (tys' := [(h0_2k, .int)]) [2] rfl
                  have hrv := va_recv hKc hPc (ci := 4) (q0 := 0) rfl rfl
                  refine va_calli (va_runV (As := [.int x_12, .int j7_l2]) (rest := []) ⟨hx, hb, hml, hown, hts⟩ (c_X4_joinedAt l dC dI H.size h0 x_12 j7_l2 h0_0 h0_f1 h0_2 h0_2k j7_h0_2c (RG_w g_37 (by decide +kernel)) g_j7_l2 (RG_w g_10 (by decide +kernel))) (cwV 2 hts gf_c_X4_worth_c_X4_joinedAt rfl rfl rfl mdV_X4_joinedAt ⟨Nat.le_of_ble_eq_true rfl, Nat.le_of_ble_eq_true rfl⟩) ⟨fun a U g mk q => by obtain ⟨q0, q1, qP, qK, qD⟩ := q; exact ⟨q0, q1, qP, va_K.moved (u := U) (U := U.calling g mk a) (Vm.Alike.refl U.vm) qK, qD⟩, hrv, fun U hU hW => ⟨rfl, by rw [hU], by rw [hU]; exact hPc, va_K.moved hW.alike hKc, hDc.weaken (fun _ _ _ _ => trivial)⟩⟩ rfl rfl hl.1 rfl (lv_room (Nat.le_of_ble_eq_true rfl)) dX4_worth_99 ⟨Nat.le_of_ble_eq_true rfl, Nat.le_of_ble_eq_true rfl⟩) hS (fun q _ h => hFc q h) hFc (fun r_38 w_39 t H1 locs ht hvm hw hB hz1 hk1 hS => ?_)
                  obtain ⟨hP1, hK1, hD1⟩ := hB
                  rw [ht] at hP1
                  obtain ⟨hP, hD⟩ := cl_put (w1 := (wd_c_X4_joinedAt h0 h0_0 h0_f1 h0_2 h0_2 h0_2k w_39)) (nw := (wd_c_X4_worth h0 h0_0 h0_f1 h0_2 h0_0 h0_0k h0_0c h1 h1k h1c h0_2 h0_2k w_39)) hP hD [0, 3] [4, 1, 2, 5] 4 rfl hqc (by decide +kernel) rfl hk1 hFc hP1 hD1
                  generalize H1 = H at hP hS ⊢
                  as_aux_lemma =>
                  have h_40 := hw
                  refine lv_istore_n (lv' := [(2, .int r_38), (5, .int x_12), (4, .int j7_l4), (3, .int j7_l3), (0, .ref h0), (1, .ref h1)]) hx hb dX4_worth_102 rfl hl (Nat.le_of_ble_eq_true rfl) rfl (fun ls hl => ?_)
                  refine lv_goto (tgt := 142) hx hb dX4_worth_103 rfl ?_
                  exact hU _ _ _ (J142 j7_l3 r_38 w_39 g_10 h_40 (RG_w g_18 (by decide +kernel)) g_j7_l2 (RG_w g_18 (by decide +kernel)) g_9 _ _ _ hP hD hS (lv_sub hl [2, 3, 0, 4, 5] rfl))
            · have g_41 : RG x_12 63 63 := RG_eq1 (RG_any x_12) (RG_k 63 63 rfl) c_19 (by decide +kernel)
              refine lv_aload_n hx hb dX4_worth_64 rfl (lv_at hl 4 rfl) ?_
              refine va_get (D := (dC, dI)) (ci := 4) (v := .ref h0_2) (C := RX4) (T := TX4) (N := 3) hx hb hts iw_c_X4_worth_X4 hown hK hP 0 rfl rfl 2 (by decide +kernel) (hts (.fieldLink RX4 17 "BuoyVote$Law" "stack" "[I") (List.mem_of_getElem? (i := 3) rfl)) (fun _ h9 => h9) rfl dX4_worth_65 ?_
              refine lv_iconst (v := 0) hx hb dX4_worth_68 kc_iconst_0 ?_
              refine va_iald hx hb hK hP 3 2 rfl rfl (RG_in (RG_k 0 0 rfl) (by decide +kernel)) dX4_worth_69 ?_
              refine lv_topi (fun x_42 ex_42 => ?_)
              refine lv_if_ne (tgt := 77) hx hb dX4_worth_70 rfl (fun c_43 => ?_) (fun c_43 => ?_)
              · refine lv_iconst (v := 0) hx hb dX4_worth_77 kc_iconst_0 ?_
                exact hU _ _ _ (J78 g_10 g_j7_l2 g_18 g_9 _ _ _ hP hD hS (lv_sub hl [1, 4, 5] rfl))
              · have g_44 : RG x_42 0 0 := RG_eq1 (RG_any x_42) (RG_k 0 0 rfl) c_43 (by decide +kernel)
                refine lv_iconst (v := 1) hx hb dX4_worth_73 kc_iconst_1 ?_
                as_aux_lemma =>
                refine lv_goto (tgt := 78) hx hb dX4_worth_74 rfl ?_
                exact hU _ _ _ (J78b g_10 g_j7_l2 g_18 g_9 _ _ _ hP hD hS (lv_sub hl [1, 4, 5] rfl))
        · have g_45 : RG x_12 59 59 := RG_eq1 (RG_any x_12) (RG_k 59 59 rfl) c_13 (by decide +kernel)
          refine lv_iload_n hx hb dX4_worth_33 rfl (lv_at hl 2 rfl) ?_
          refine lv_if_ne (tgt := 48) hx hb dX4_worth_34 rfl (fun c_46 => ?_) (fun c_46 => ?_)
          · have g_47 : RG j7_l3 1 1 := RG_ne1 g_j7_l3 (q := 0) rfl c_46 (by decide +kernel)
            exact hU _ _ _ (J48 g_10 g_j7_l2 (RG_w g_47 (by decide +kernel)) g_9 _ _ _ hP hD hS (lv_sub hl [1, 3, 4, 5] rfl))
          · have g_48 : RG j7_l3 0 0 := RG_eq1 g_j7_l3 (RG_k 0 0 rfl) c_46 (by decide +kernel)
            refine lv_iload_n hx hb dX4_worth_37 rfl (lv_at hl 3 rfl) ?_
            refine lv_if_le (tgt := 48) hx hb dX4_worth_38 rfl (fun c_49 => ?_) (fun c_49 => ?_)
            · have g_50 : RG j7_l2 0 0 := RG_le1 g_j7_l2 (RG_k 0 0 rfl) c_49 (by decide +kernel)
              exact hU _ _ _ (J48 g_10 (RG_w g_50 (by decide +kernel)) (RG_w g_48 (by decide +kernel)) g_9 _ _ _ hP hD hS (lv_sub hl [1, 3, 4, 5] rfl))
            · have d_51 := Int32.not_le.mp c_49
              have g_52 : RG j7_l2 1 64 := RG_lt2 (RG_k 0 0 rfl) g_j7_l2 d_51 (by decide +kernel)
              refine lv_aload_n hx hb dX4_worth_41 rfl (lv_at hl 4 rfl) ?_
              as_aux_lemma =>
              refine va_get (D := (dC, dI)) (ci := 4) (v := .ref h0_2) (C := RX4) (T := TX4) (N := 3) hx hb hts iw_c_X4_worth_X4 hown hK hP 0 rfl rfl 2 (by decide +kernel) (hts (.fieldLink RX4 17 "BuoyVote$Law" "stack" "[I") (List.mem_of_getElem? (i := 3) rfl)) (fun _ h9 => h9) rfl dX4_worth_42 ?_
              refine lv_iconst (v := 0) hx hb dX4_worth_45 kc_iconst_0 ?_
              refine va_iald hx hb hK hP 3 2 rfl rfl (RG_in (RG_k 0 0 rfl) (by decide +kernel)) dX4_worth_46 ?_
              refine lv_topi (fun x_53 ex_53 => ?_)
              have hK9 := hK.sub (tys' := []) [] rfl
              exact W.iret (v := x_53) hx hb hr (fun t ht hW => ⟨⟨x_53, j7_h0_2c, rfl, (Or.inr ⟨(RG_any x_53), g_10⟩), by rw [ht]; exact hP, va_K.moved hW.alike hK9, hD⟩, hS.F ht⟩) hS.2.2 dX4_worth_47
  refine hG _ _ _ ?_
  refine lv_iconst (v := 0) hx hb dX4_worth_0 kc_iconst_0 ?_
  refine lv_istore_n (lv' := [(2, .int 0), (0, .ref h0), (1, .ref h1)]) hx hb dX4_worth_1 rfl hl (Nat.le_of_ble_eq_true rfl) rfl (fun ls hl => ?_)
  refine lv_iconst (v := 0) hx hb dX4_worth_2 kc_iconst_0 ?_
  refine lv_istore_n (lv' := [(3, .int 0), (2, .int 0), (0, .ref h0), (1, .ref h1)]) hx hb dX4_worth_3 rfl hl (Nat.le_of_ble_eq_true rfl) rfl (fun ls hl => ?_)
  refine lv_iconst (v := 0) hx hb dX4_worth_4 kc_iconst_0 ?_
  refine lv_istore (lv' := [(4, .int 0), (3, .int 0), (2, .int 0), (0, .ref h0), (1, .ref h1)]) hx hb dX4_worth_5 hl (Nat.le_of_ble_eq_true rfl) rfl (fun ls hl => ?_)
  exact hU _ _ _ (J7 _ 0 0 0 h0_2c (Nat.lt_succ_self _) g_h0_f1 (RG_w (RG_k 0 0 rfl) (by decide +kernel)) (RG_w (RG_k 0 0 rfl) (by decide +kernel)) (RG_w (RG_k 0 0 rfl) (by decide +kernel)) _ _ _ hP hD hS (lv_sub hl [0, 1, 2, 3, 4] rfl))
noncomputable def wd_c_X5_drawBy (a0 : Nat) (a1 : Nat) (a2 : Int32) (a3 : Int32) (a4 : Nat) (a5 : Nat) (a6 : ClassId) (a7 : Nat → Int32) (a8 : Nat) (a9 : ClassId) (a10 : Nat → Option Nat) (a11 : Nat) (a12 : Nat) (a13 : Int32) (a14 : Nat) (a15 : Nat) (a16 : ClassId) (a17 : Nat → Int32) (a18 : Nat) (a19 : ClassId) (a20 : Nat → Int32) (a21 : Nat) (a22 : Nat) (a23 : Int32) (a24 : Nat) (a25 : Nat) (a26 : ClassId) (a27 : Nat → Int32) (a28 : Nat) (a29 : ClassId) (a30 : Nat → Int32) (a31 : Nat) (a32 : Nat) (a33 : Int32) (a34 : Nat) (a35 : Nat) (a36 : ClassId) (a37 : Nat → Int32) (a38 : Nat) (a39 : ClassId) (a40 : Nat → Int32) (a41 : Nat) (a42 : Nat) (a43 : Int32) (a44 : Nat) (a45 : Nat) (a46 : ClassId) (a47 : Nat → Int32) (a48 : Nat) (a49 : ClassId) (a50 : Nat → Int32) : va_W := [(a0, .inr (5, [.ref a1, .int a2, .int a3, .ref a4])), (a5, .inl (a6, 6, .inl a7)), (a8, .inl (a9, 5, .inr (.inr (.inr (.inr a10))))), (a11, .inr (4, [.ref a12, .int a13, .ref a14])), (a15, .inl (a16, 240, .inl a17)), (a18, .inl (a19, 64, .inl a20)), (a21, .inr (4, [.ref a22, .int a23, .ref a24])), (a25, .inl (a26, 240, .inl a27)), (a28, .inl (a29, 64, .inl a30)), (a31, .inr (4, [.ref a32, .int a33, .ref a34])), (a35, .inl (a36, 240, .inl a37)), (a38, .inl (a39, 64, .inl a40)), (a41, .inr (4, [.ref a42, .int a43, .ref a44])), (a45, .inl (a46, 240, .inl a47)), (a48, .inl (a49, 64, .inl a50))]
noncomputable def wf_c_X5_drawBy : List Cond := List.cons (.code yX5_drawBy cX5_drawBy 8 (some .int)) (@HAppend.hAppend (List Cond) (List Cond) (List Cond) _ (@HAppend.hAppend (List Cond) (List Cond) (List Cond) _ [.fieldLink RX5 18 "BuoyVote$LawBook" "holding" "I", .fieldLink RX5 26 "BuoyVote$LawBook" "size" "I", .fieldLink RX5 22 "BuoyVote$LawBook" "letters" "[I", .fieldLink RX5 11 "BuoyVote$LawBook" "laws" "[LBuoyVote$Law;", .methodLink RX5 29 yX4_worth, .instanceMethod yX4_worth, .selects RX4 yX4_worth yX4_worth, .initialized RX4, .code yX4_worth cX4_worth 6 (some .int), .fieldLink RX4 20 "BuoyVote$Law" "length" "I", .fieldLink RX4 11 "BuoyVote$Law" "code" "[I", .fieldLink RX4 17 "BuoyVote$Law" "stack" "[I", .methodLink RX4 24 yX4_joinedAt, .instanceMethod yX4_joinedAt, .selects RX4 yX4_joinedAt yX4_joinedAt, .code yX4_joinedAt cX4_joinedAt 7 (some .int), .constantLong RX4 28 (1000000), .constantLong RX4 31 (-1000000), .constant RX4 33 (-1000000), .constant RX4 30 (1000000)] wsX50) wsX40)
theorem iw_c_X5_drawBy_X5 : ∀ w ∈ wsX50, w ∈ wf_c_X5_drawBy := fun w h => List.mem_cons_of_mem _ (List.mem_append_left _ (List.mem_append_right _ h))
theorem iw_c_X5_drawBy_X4 : ∀ w ∈ wsX40, w ∈ wf_c_X5_drawBy := fun w h => List.mem_cons_of_mem _ (List.mem_append_right _ h)
set_option maxRecDepth 20000 in
theorem gf_c_X5_drawBy_c_X4_worth : GoodIn wf_c_X5_drawBy (wsV RX5 29 RX4 yX4_worth wf_c_X4_worth) := goodIn_app (gi_l [5, 6, 7, 8] rfl rfl) (gi_cons (j := 9) rfl rfl (goodIn_app (gi_l [10, 11, 12, 13, 14, 15, 8, 16, 17, 18, 19, 20] rfl rfl) (goodIn_sub iw_c_X5_drawBy_X4 gw_X4)))
set_option maxHeartbeats 4000000 in
set_option maxRecDepth 100000 in
theorem c_X5_drawBy (l : Launch) (dC : Nat → ClassId) (dI : Nat → Nat → Nat) (sz : Nat) (h0 : Nat) (p1 : Int32) (p2 : Int32) (p3 : Int32) (p4 : Int32) (p5 : Int32) (p6 : Int32) (h0_0 : Nat) (h0_f1 : Int32) (h0_f2 : Int32) (h0_3 : Nat) (h0_3k : ClassId) (h0_3c : Nat → Int32) (h0_0k : ClassId) (h0_0c : Nat → Option Nat) (h0_0_e0 : Nat) (h0_0_e1 : Nat) (h0_0_e2 : Nat) (h0_0_e3 : Nat) (h0_0_e4 : Nat) (h0_0_e0_0 : Nat) (h0_0_e0_f1 : Int32) (h0_0_e0_2 : Nat) (h0_0_e0_0k : ClassId) (h0_0_e0_0c : Nat → Int32) (h0_0_e0_2k : ClassId) (h0_0_e0_2c : Nat → Int32) (h0_0_e1_0 : Nat) (h0_0_e1_f1 : Int32) (h0_0_e1_2 : Nat) (h0_0_e1_0k : ClassId) (h0_0_e1_0c : Nat → Int32) (h0_0_e1_2k : ClassId) (h0_0_e1_2c : Nat → Int32) (h0_0_e2_0 : Nat) (h0_0_e2_f1 : Int32) (h0_0_e2_2 : Nat) (h0_0_e2_0k : ClassId) (h0_0_e2_0c : Nat → Int32) (h0_0_e2_2k : ClassId) (h0_0_e2_2c : Nat → Int32) (h0_0_e3_0 : Nat) (h0_0_e3_f1 : Int32) (h0_0_e3_2 : Nat) (h0_0_e3_0k : ClassId) (h0_0_e3_0c : Nat → Int32) (h0_0_e3_2k : ClassId) (h0_0_e3_2c : Nat → Int32) (g_p1 : RG p1 (-1) 99) (g_p3 : RG p3 0 0) (g_h0_f1 : RG h0_f1 0 4) (e_h0_0_e0 : h0_0c 0 = some h0_0_e0) (e_h0_0_e1 : h0_0c 1 = some h0_0_e1) (e_h0_0_e2 : h0_0c 2 = some h0_0_e2) (e_h0_0_e3 : h0_0c 3 = some h0_0_e3) (e_h0_0_e4 : h0_0c 4 = some h0_0_e4) (g_h0_0_e0_f1 : RG h0_0_e0_f1 0 240) (g_h0_0_e1_f1 : RG h0_0_e1_f1 0 240) (g_h0_0_e2_f1 : RG h0_0_e2_f1 0 240) (g_h0_0_e3_f1 : RG h0_0_e3_f1 0 240) : Met l yX5_drawBy wf_c_X5_drawBy ({ frames := 2, cells := 0, slots := 0, locals := 51 }) (va_Pc [.ref h0, .int p1, .int p2, .int p3, .int p4, .int p5, .int p6] (fun U => U.heap.size = sz ∧ va_P (dC, dI) vwCl (wd_c_X5_drawBy h0 h0_0 h0_f1 h0_f2 h0_3 h0_3 h0_3k h0_3c h0_0 h0_0k h0_0c h0_0_e0 h0_0_e0_0 h0_0_e0_f1 h0_0_e0_2 h0_0_e0_0 h0_0_e0_0k h0_0_e0_0c h0_0_e0_2 h0_0_e0_2k h0_0_e0_2c h0_0_e1 h0_0_e1_0 h0_0_e1_f1 h0_0_e1_2 h0_0_e1_0 h0_0_e1_0k h0_0_e1_0c h0_0_e1_2 h0_0_e1_2k h0_0_e1_2c h0_0_e2 h0_0_e2_0 h0_0_e2_f1 h0_0_e2_2 h0_0_e2_0 h0_0_e2_0k h0_0_e2_0c h0_0_e2_2 h0_0_e2_2k h0_0_e2_2c h0_0_e3 h0_0_e3_0 h0_0_e3_f1 h0_0_e3_2 h0_0_e3_0 h0_0_e3_0k h0_0_e3_0c h0_0_e3_2 h0_0_e3_2k h0_0_e3_2c) U.heap ∧ va_K (dC, dI) vwCl [(h0_3k, .int), (h0_0k, .object RX4), (h0_0_e0_0k, .int), (h0_0_e0_2k, .int), (h0_0_e1_0k, .int), (h0_0_e1_2k, .int), (h0_0_e2_0k, .int), (h0_0_e2_2k, .int), (h0_0_e3_0k, .int), (h0_0_e3_2k, .int)] U ∧ va_D (fun _ => True) (wd_c_X5_drawBy h0 h0_0 h0_f1 h0_f2 h0_3 h0_3 h0_3k h0_3c h0_0 h0_0k h0_0c h0_0_e0 h0_0_e0_0 h0_0_e0_f1 h0_0_e0_2 h0_0_e0_0 h0_0_e0_0k h0_0_e0_0c h0_0_e0_2 h0_0_e0_2k h0_0_e0_2c h0_0_e1 h0_0_e1_0 h0_0_e1_f1 h0_0_e1_2 h0_0_e1_0 h0_0_e1_0k h0_0_e1_0c h0_0_e1_2 h0_0_e1_2k h0_0_e1_2c h0_0_e2 h0_0_e2_0 h0_0_e2_f1 h0_0_e2_2 h0_0_e2_0 h0_0_e2_0k h0_0_e2_0c h0_0_e2_2 h0_0_e2_2k h0_0_e2_2c h0_0_e3 h0_0_e3_0 h0_0_e3_f1 h0_0_e3_2 h0_0_e3_0 h0_0_e3_0k h0_0_e3_0c h0_0_e3_2 h0_0_e3_2k h0_0_e3_2c))) (va_Qi (fun (r : Int32) (u : (Nat → Int32) × (Nat → Int32) × (Nat → Int32) × (Nat → Int32) × (Nat → Int32)) => (r = 0 ∧ RG h0_f1 1 4 ∧ RG h0_f2 0 3) ∨ (RG r (-2147483648) 2147483647 ∧ RG h0_f2 (-2147483648) 2147483647) ∨ (r = (-99) ∧ RG h0_f1 1 4 ∧ RG h0_f2 0 3) ∨ (r = 99 ∧ RG h0_f1 1 4 ∧ RG h0_f2 0 3)) (fun (u : (Nat → Int32) × (Nat → Int32) × (Nat → Int32) × (Nat → Int32) × (Nat → Int32)) t => va_P (dC, dI) vwCl (wd_c_X5_drawBy h0 h0_0 h0_f1 h0_f2 h0_3 h0_3 h0_3k (u.1) h0_0 h0_0k h0_0c h0_0_e0 h0_0_e0_0 h0_0_e0_f1 h0_0_e0_2 h0_0_e0_0 h0_0_e0_0k h0_0_e0_0c h0_0_e0_2 h0_0_e0_2k (u.2.1) h0_0_e1 h0_0_e1_0 h0_0_e1_f1 h0_0_e1_2 h0_0_e1_0 h0_0_e1_0k h0_0_e1_0c h0_0_e1_2 h0_0_e1_2k (u.2.2.1) h0_0_e2 h0_0_e2_0 h0_0_e2_f1 h0_0_e2_2 h0_0_e2_0 h0_0_e2_0k h0_0_e2_0c h0_0_e2_2 h0_0_e2_2k (u.2.2.2.1) h0_0_e3 h0_0_e3_0 h0_0_e3_f1 h0_0_e3_2 h0_0_e3_0 h0_0_e3_0k h0_0_e3_0c h0_0_e3_2 h0_0_e3_2k (u.2.2.2.2)) t.heap ∧ va_K (dC, dI) vwCl [] t ∧ va_D (va_A (wd_c_X5_drawBy h0 h0_0 h0_f1 h0_f2 h0_3 h0_3 h0_3k h0_3c h0_0 h0_0k h0_0c h0_0_e0 h0_0_e0_0 h0_0_e0_f1 h0_0_e0_2 h0_0_e0_0 h0_0_e0_0k h0_0_e0_0c h0_0_e0_2 h0_0_e0_2k h0_0_e0_2c h0_0_e1 h0_0_e1_0 h0_0_e1_f1 h0_0_e1_2 h0_0_e1_0 h0_0_e1_0k h0_0_e1_0c h0_0_e1_2 h0_0_e1_2k h0_0_e1_2c h0_0_e2 h0_0_e2_0 h0_0_e2_f1 h0_0_e2_2 h0_0_e2_0 h0_0_e2_0k h0_0_e2_0c h0_0_e2_2 h0_0_e2_2k h0_0_e2_2c h0_0_e3 h0_0_e3_0 h0_0_e3_f1 h0_0_e3_2 h0_0_e3_0 h0_0_e3_0k h0_0_e3_0c h0_0_e3_2 h0_0_e3_2k h0_0_e3_2c) sz) (wd_c_X5_drawBy h0 h0_0 h0_f1 h0_f2 h0_3 h0_3 h0_3k (u.1) h0_0 h0_0k h0_0c h0_0_e0 h0_0_e0_0 h0_0_e0_f1 h0_0_e0_2 h0_0_e0_0 h0_0_e0_0k h0_0_e0_0c h0_0_e0_2 h0_0_e0_2k (u.2.1) h0_0_e1 h0_0_e1_0 h0_0_e1_f1 h0_0_e1_2 h0_0_e1_0 h0_0_e1_0k h0_0_e1_0c h0_0_e1_2 h0_0_e1_2k (u.2.2.1) h0_0_e2 h0_0_e2_0 h0_0_e2_f1 h0_0_e2_2 h0_0_e2_0 h0_0_e2_0k h0_0_e2_0c h0_0_e2_2 h0_0_e2_2k (u.2.2.2.1) h0_0_e3 h0_0_e3_0 h0_0_e3_f1 h0_0_e3_2 h0_0_e3_0 h0_0_e3_0k h0_0_e3_0c h0_0_e3_2 h0_0_e3_2k (u.2.2.2.2))) (va_A (wd_c_X5_drawBy h0 h0_0 h0_f1 h0_f2 h0_3 h0_3 h0_3k h0_3c h0_0 h0_0k h0_0c h0_0_e0 h0_0_e0_0 h0_0_e0_f1 h0_0_e0_2 h0_0_e0_0 h0_0_e0_0k h0_0_e0_0c h0_0_e0_2 h0_0_e0_2k h0_0_e0_2c h0_0_e1 h0_0_e1_0 h0_0_e1_f1 h0_0_e1_2 h0_0_e1_0 h0_0_e1_0k h0_0_e1_0c h0_0_e1_2 h0_0_e1_2k h0_0_e1_2c h0_0_e2 h0_0_e2_0 h0_0_e2_f1 h0_0_e2_2 h0_0_e2_0 h0_0_e2_0k h0_0_e2_0c h0_0_e2_2 h0_0_e2_2k h0_0_e2_2c h0_0_e3 h0_0_e3_0 h0_0_e3_f1 h0_0_e3_2 h0_0_e3_0 h0_0_e3_0k h0_0_e3_0c h0_0_e3_2 h0_0_e3_2k h0_0_e3_2c) sz)) 0 0 (va_A (wd_c_X5_drawBy h0 h0_0 h0_f1 h0_f2 h0_3 h0_3 h0_3k h0_3c h0_0 h0_0k h0_0c h0_0_e0 h0_0_e0_0 h0_0_e0_f1 h0_0_e0_2 h0_0_e0_0 h0_0_e0_0k h0_0_e0_0c h0_0_e0_2 h0_0_e0_2k h0_0_e0_2c h0_0_e1 h0_0_e1_0 h0_0_e1_f1 h0_0_e1_2 h0_0_e1_0 h0_0_e1_0k h0_0_e1_0c h0_0_e1_2 h0_0_e1_2k h0_0_e1_2c h0_0_e2 h0_0_e2_0 h0_0_e2_f1 h0_0_e2_2 h0_0_e2_0 h0_0_e2_0k h0_0_e2_0c h0_0_e2_2 h0_0_e2_2k h0_0_e2_2c h0_0_e3 h0_0_e3_0 h0_0_e3_f1 h0_0_e3_2 h0_0_e3_0 h0_0_e3_0k h0_0_e3_0c h0_0_e3_2 h0_0_e3_2k h0_0_e3_2c) sz) := by
  refine Met.ofW (cc := cX5_drawBy) (maxL := 8) (ret := (some .int)) (by decide +kernel) rfl ?_
  intro p e s m args below meth c s₁ B hml hv
  obtain ⟨rfl, hsz, hP, hK, hD0⟩ := hv
  have hx := B.exec
  have hb := B.bytes
  have hr := B.returns
  have hts := atoms_spec (ws := wf_c_X5_drawBy) B.pre
  have hown : s.vm.findClass RX5 = some m.cls := findClass_of_methodNamed B.named
  have hlocks := B.notSynchronized
  subst hsz
  have hD := hD0.self (sz := s.heap.size)
  generalize hAe : va_A (wd_c_X5_drawBy h0 h0_0 h0_f1 h0_f2 h0_3 h0_3 h0_3k h0_3c h0_0 h0_0k h0_0c h0_0_e0 h0_0_e0_0 h0_0_e0_f1 h0_0_e0_2 h0_0_e0_0 h0_0_e0_0k h0_0_e0_0c h0_0_e0_2 h0_0_e0_2k h0_0_e0_2c h0_0_e1 h0_0_e1_0 h0_0_e1_f1 h0_0_e1_2 h0_0_e1_0 h0_0_e1_0k h0_0_e1_0c h0_0_e1_2 h0_0_e1_2k h0_0_e1_2c h0_0_e2 h0_0_e2_0 h0_0_e2_f1 h0_0_e2_2 h0_0_e2_0 h0_0_e2_0k h0_0_e2_0c h0_0_e2_2 h0_0_e2_2k h0_0_e2_2c h0_0_e3 h0_0_e3_0 h0_0_e3_f1 h0_0_e3_2 h0_0_e3_0 h0_0_e3_0k h0_0_e3_0c h0_0_e3_2 h0_0_e3_2k h0_0_e3_2c) s.heap.size = A at hD ⊢
  have hA : ∀ q : Nat, s.heap.size ≤ q → A q := fun q h => by rw [← hAe]; exact Or.inr h
  have hP : va_P (dC, dI) vwCl (wd_c_X5_drawBy h0 h0_0 h0_f1 h0_f2 h0_3 h0_3 h0_3k h0_3c h0_0 h0_0k h0_0c h0_0_e0 h0_0_e0_0 h0_0_e0_f1 h0_0_e0_2 h0_0_e0_0 h0_0_e0_0k h0_0_e0_0c h0_0_e0_2 h0_0_e0_2k h0_0_e0_2c h0_0_e1 h0_0_e1_0 h0_0_e1_f1 h0_0_e1_2 h0_0_e1_0 h0_0_e1_0k h0_0_e1_0c h0_0_e1_2 h0_0_e1_2k h0_0_e1_2c h0_0_e2 h0_0_e2_0 h0_0_e2_f1 h0_0_e2_2 h0_0_e2_0 h0_0_e2_0k h0_0_e2_0c h0_0_e2_2 h0_0_e2_2k h0_0_e2_2c h0_0_e3 h0_0_e3_0 h0_0_e3_f1 h0_0_e3_2 h0_0_e3_0 h0_0_e3_0k h0_0_e3_0c h0_0_e3_2 h0_0_e3_2k h0_0_e3_2c) s.heap := hP
  have hl := lv_entry ([.ref h0, .int p1, .int p2, .int p3, .int p4, .int p5, .int p6]) (n := 8) (Nat.le_of_ble_eq_true rfl)
  rw [lg_entry_eq]
  generalize (lg_sl ([.ref h0, .int p1, .int p2, .int p3, .int p4, .int p5, .int p6]) ++ List.replicate (8 - (lg_sl ([.ref h0, .int p1, .int p2, .int p3, .int p4, .int p5, .int p6])).length) Slot.unset).toArray = ls at hl ⊢
  have hl : lv_has ls 8 [(0, .ref h0), (1, .int p1), (2, .int p2), (3, .int p3), (4, .int p4), (5, .int p5), (6, .int p6)] := hl
  obtain ⟨H, hHe⟩ : ∃ H : Heap, s.heap = H := ⟨_, rfl⟩
  have hS : va_S A s.heap H [] := by rw [hHe]; exact va_S.rf
  have hP : va_P (dC, dI) vwCl (wd_c_X5_drawBy h0 h0_0 h0_f1 h0_f2 h0_3 h0_3 h0_3k h0_3c h0_0 h0_0k h0_0c h0_0_e0 h0_0_e0_0 h0_0_e0_f1 h0_0_e0_2 h0_0_e0_0 h0_0_e0_0k h0_0_e0_0c h0_0_e0_2 h0_0_e0_2k h0_0_e0_2c h0_0_e1 h0_0_e1_0 h0_0_e1_f1 h0_0_e1_2 h0_0_e1_0 h0_0_e1_0k h0_0_e1_0c h0_0_e1_2 h0_0_e1_2k h0_0_e1_2c h0_0_e2 h0_0_e2_0 h0_0_e2_f1 h0_0_e2_2 h0_0_e2_0 h0_0_e2_0k h0_0_e2_0c h0_0_e2_2 h0_0_e2_2k h0_0_e2_2c h0_0_e3 h0_0_e3_0 h0_0_e3_f1 h0_0_e3_2 h0_0_e3_0 h0_0_e3_0k h0_0_e3_0c h0_0_e3_2 h0_0_e3_2k h0_0_e3_2c) H := by rw [← hHe]; exact hP
  rw [hHe]
  refine wj (fun G hG hU => ?_)
  as_aux_lemma =>
  have J18 : ∀ (g_h0_0_e0_f1 : RG h0_0_e0_f1 0 240) (g_h0_0_e1_f1 : RG h0_0_e1_f1 0 240) (g_h0_0_e2_f1 : RG h0_0_e2_f1 0 240) (g_h0_0_e3_f1 : RG h0_0_e3_f1 0 240) (g_h0_f1 : RG h0_f1 0 4) (g_h0_f2 : RG h0_f2 (-2147483648) 2147483647) (g_p1 : RG p1 (-1) 99) (g_p3 : RG p3 0 0) (H : Heap) (locs : List Loc) (ls : Array Slot) (hP : va_P (dC, dI) vwCl (wd_c_X5_drawBy h0 h0_0 h0_f1 h0_f2 h0_3 h0_3 h0_3k h0_3c h0_0 h0_0k h0_0c h0_0_e0 h0_0_e0_0 h0_0_e0_f1 h0_0_e0_2 h0_0_e0_0 h0_0_e0_0k h0_0_e0_0c h0_0_e0_2 h0_0_e0_2k h0_0_e0_2c h0_0_e1 h0_0_e1_0 h0_0_e1_f1 h0_0_e1_2 h0_0_e1_0 h0_0_e1_0k h0_0_e1_0c h0_0_e1_2 h0_0_e1_2k h0_0_e1_2c h0_0_e2 h0_0_e2_0 h0_0_e2_f1 h0_0_e2_2 h0_0_e2_0 h0_0_e2_0k h0_0_e2_0c h0_0_e2_2 h0_0_e2_2k h0_0_e2_2c h0_0_e3 h0_0_e3_0 h0_0_e3_f1 h0_0_e3_2 h0_0_e3_0 h0_0_e3_0k h0_0_e3_0c h0_0_e3_2 h0_0_e3_2k h0_0_e3_2c) H) (hD : va_D A (wd_c_X5_drawBy h0 h0_0 h0_f1 h0_f2 h0_3 h0_3 h0_3k h0_3c h0_0 h0_0k h0_0c h0_0_e0 h0_0_e0_0 h0_0_e0_f1 h0_0_e0_2 h0_0_e0_0 h0_0_e0_0k h0_0_e0_0c h0_0_e0_2 h0_0_e0_2k h0_0_e0_2c h0_0_e1 h0_0_e1_0 h0_0_e1_f1 h0_0_e1_2 h0_0_e1_0 h0_0_e1_0k h0_0_e1_0c h0_0_e1_2 h0_0_e1_2k h0_0_e1_2c h0_0_e2 h0_0_e2_0 h0_0_e2_f1 h0_0_e2_2 h0_0_e2_0 h0_0_e2_0k h0_0_e2_0c h0_0_e2_2 h0_0_e2_2k h0_0_e2_2c h0_0_e3 h0_0_e3_0 h0_0_e3_f1 h0_0_e3_2 h0_0_e3_0 h0_0_e3_0k h0_0_e3_0c h0_0_e3_2 h0_0_e3_2k h0_0_e3_2c)) (hS : va_S A s.heap H locs) (hl : lv_has ls 8 [(1, .int p1), (2, .int p2), (3, .int p3), (4, .int p4), (5, .int p5)]), G H locs (F0 m 18 ls []) := by
    as_aux_lemma =>
    intro g_h0_0_e0_f1 g_h0_0_e1_f1 g_h0_0_e2_f1 g_h0_0_e3_f1 g_h0_f1 g_h0_f2 g_p1 g_p3 H locs ls hP hD hS hl
    refine hG _ _ _ ?_
    refine lv_iload_n hx hb dX5_drawBy_18 rfl (lv_at hl 0 rfl) ?_
    refine lv_iload_n hx hb dX5_drawBy_19 rfl (lv_at hl 1 rfl) ?_
    refine lv_iadd hx hb dX5_drawBy_20 ?_
    refine lv_topi (fun x_1 ex_1 => ?_)
    refine lv_iload_n hx hb dX5_drawBy_21 rfl (lv_at hl 2 rfl) ?_
    refine lv_iadd hx hb dX5_drawBy_22 ?_
    refine lv_topi (fun x_2 ex_2 => ?_)
    refine lv_iload hx hb dX5_drawBy_23 (lv_at hl 4 rfl) ?_
    refine lv_iadd hx hb dX5_drawBy_25 ?_
    refine lv_topi (fun x_3 ex_3 => ?_)
    refine lv_iload hx hb dX5_drawBy_26 (lv_at hl 3 rfl) ?_
    refine lv_isub hx hb dX5_drawBy_28 ?_
    as_aux_lemma =>
    refine lv_topi (fun x_4 ex_4 => ?_)
    have hK9 := hK.sub (tys' := []) [] rfl
    exact W.iret (v := x_4) hx hb hr (fun t ht hW => ⟨⟨x_4, (h0_3c, h0_0_e0_2c, h0_0_e1_2c, h0_0_e2_2c, h0_0_e3_2c), rfl, (Or.inr (Or.inl ⟨(RG_any x_4), g_h0_f2⟩)), by rw [ht]; exact hP, va_K.moved hW.alike hK9, hD⟩, hS.F ht⟩) hS.2.2 dX5_drawBy_29
  refine hG _ _ _ ?_
  refine lv_aload_n hx hb dX5_drawBy_0 rfl (lv_at hl 0 rfl) ?_
  refine va_get (D := (dC, dI)) (ci := 5) (v := .int h0_f2) (C := RX5) (T := TX5) (N := 4) hx hb hts iw_c_X5_drawBy_X5 hown hK hP 0 rfl rfl 2 (by decide +kernel) (hts (.fieldLink RX5 18 "BuoyVote$LawBook" "holding" "I") (List.mem_of_getElem? (i := 1) rfl)) (fun _ h9 => h9) rfl dX5_drawBy_1 ?_
  refine lv_if_lt (tgt := 18) hx hb dX5_drawBy_4 rfl (fun c_5 => ?_) (fun c_5 => ?_)
  · have g_6 : RG h0_f2 (-2147483648) (-1) := RG_lt1 (RG_any h0_f2) (RG_k 0 0 rfl) c_5 (by decide +kernel)
    exact hU _ _ _ (J18 g_h0_0_e0_f1 g_h0_0_e1_f1 g_h0_0_e2_f1 g_h0_0_e3_f1 g_h0_f1 (RG_w g_6 (by decide +kernel)) g_p1 g_p3 _ _ _ hP hD hS (lv_sub hl [1, 2, 3, 4, 5] rfl))
  · have d_7 := Int32.not_lt.mp c_5
    have g_8 : RG h0_f2 0 2147483647 := RG_le2 (RG_k 0 0 rfl) (RG_any h0_f2) d_7 (by decide +kernel)
    refine lv_aload_n hx hb dX5_drawBy_7 rfl (lv_at hl 0 rfl) ?_
    refine va_get (D := (dC, dI)) (ci := 5) (v := .int h0_f2) (C := RX5) (T := TX5) (N := 4) hx hb hts iw_c_X5_drawBy_X5 hown hK hP 0 rfl rfl 2 (by decide +kernel) (hts (.fieldLink RX5 18 "BuoyVote$LawBook" "holding" "I") (List.mem_of_getElem? (i := 1) rfl)) (fun _ h9 => h9) rfl dX5_drawBy_8 ?_
    refine lv_aload_n hx hb dX5_drawBy_11 rfl (lv_at hl 0 rfl) ?_
    as_aux_lemma =>
    refine va_get (D := (dC, dI)) (ci := 5) (v := .int h0_f1) (C := RX5) (T := TX5) (N := 4) hx hb hts iw_c_X5_drawBy_X5 hown hK hP 0 rfl rfl 1 (by decide +kernel) (hts (.fieldLink RX5 26 "BuoyVote$LawBook" "size" "I") (List.mem_of_getElem? (i := 2) rfl)) (fun _ h9 => h9) rfl dX5_drawBy_12 ?_
    refine lv_icmp_lt (tgt := 30) hx hb dX5_drawBy_15 rfl (fun c_9 => ?_) (fun c_9 => ?_)
    · have g_10 : RG h0_f2 0 3 := RG_lt1 g_8 g_h0_f1 c_9 (by decide +kernel)
      have g_11 : RG h0_f1 1 4 := RG_lt2 g_8 g_h0_f1 c_9 (by decide +kernel)
      refine lv_aload_n hx hb dX5_drawBy_30 rfl (lv_at hl 0 rfl) ?_
      refine va_get (D := (dC, dI)) (ci := 5) (v := .ref h0_3) (C := RX5) (T := TX5) (N := 4) hx hb hts iw_c_X5_drawBy_X5 hown hK hP 0 rfl rfl 3 (by decide +kernel) (hts (.fieldLink RX5 22 "BuoyVote$LawBook" "letters" "[I") (List.mem_of_getElem? (i := 3) rfl)) (fun _ h9 => h9) rfl dX5_drawBy_31 ?_
      refine lv_iconst (v := 0) hx hb dX5_drawBy_34 kc_iconst_0 ?_
      refine lv_iload_n hx hb dX5_drawBy_35 rfl (lv_at hl 1 rfl) ?_
      refine va_iast hx hb hK hP hD hS 1 0 rfl rfl (RG_in (RG_k 0 0 rfl) (by decide +kernel)) dX5_drawBy_36 (fun H locs hP hD hS => ?_)
      have hP : va_P (dC, dI) vwCl (wd_c_X5_drawBy h0 h0_0 h0_f1 h0_f2 h0_3 h0_3 h0_3k (upd h0_3c (0 : Int32).toNatClampNeg p1) h0_0 h0_0k h0_0c h0_0_e0 h0_0_e0_0 h0_0_e0_f1 h0_0_e0_2 h0_0_e0_0 h0_0_e0_0k h0_0_e0_0c h0_0_e0_2 h0_0_e0_2k h0_0_e0_2c h0_0_e1 h0_0_e1_0 h0_0_e1_f1 h0_0_e1_2 h0_0_e1_0 h0_0_e1_0k h0_0_e1_0c h0_0_e1_2 h0_0_e1_2k h0_0_e1_2c h0_0_e2 h0_0_e2_0 h0_0_e2_f1 h0_0_e2_2 h0_0_e2_0 h0_0_e2_0k h0_0_e2_0c h0_0_e2_2 h0_0_e2_2k h0_0_e2_2c h0_0_e3 h0_0_e3_0 h0_0_e3_f1 h0_0_e3_2 h0_0_e3_0 h0_0_e3_0k h0_0_e3_0c h0_0_e3_2 h0_0_e3_2k h0_0_e3_2c) H := hP
      have hD : va_D A (wd_c_X5_drawBy h0 h0_0 h0_f1 h0_f2 h0_3 h0_3 h0_3k (upd h0_3c (0 : Int32).toNatClampNeg p1) h0_0 h0_0k h0_0c h0_0_e0 h0_0_e0_0 h0_0_e0_f1 h0_0_e0_2 h0_0_e0_0 h0_0_e0_0k h0_0_e0_0c h0_0_e0_2 h0_0_e0_2k h0_0_e0_2c h0_0_e1 h0_0_e1_0 h0_0_e1_f1 h0_0_e1_2 h0_0_e1_0 h0_0_e1_0k h0_0_e1_0c h0_0_e1_2 h0_0_e1_2k h0_0_e1_2c h0_0_e2 h0_0_e2_0 h0_0_e2_f1 h0_0_e2_2 h0_0_e2_0 h0_0_e2_0k h0_0_e2_0c h0_0_e2_2 h0_0_e2_2k h0_0_e2_2c h0_0_e3 h0_0_e3_0 h0_0_e3_f1 h0_0_e3_2 h0_0_e3_0 h0_0_e3_0k h0_0_e3_0c h0_0_e3_2 h0_0_e3_2k h0_0_e3_2c) := hD
      have l_13 : (upd h0_3c (0 : Int32).toNatClampNeg p1) (0 : Int32).toNatClampNeg = p1 := pk_us
      generalize (upd h0_3c (0 : Int32).toNatClampNeg p1) = w_12 at hP hD l_13
      have hP : va_P (dC, dI) vwCl (wd_c_X5_drawBy h0 h0_0 h0_f1 h0_f2 h0_3 h0_3 h0_3k w_12 h0_0 h0_0k h0_0c h0_0_e0 h0_0_e0_0 h0_0_e0_f1 h0_0_e0_2 h0_0_e0_0 h0_0_e0_0k h0_0_e0_0c h0_0_e0_2 h0_0_e0_2k h0_0_e0_2c h0_0_e1 h0_0_e1_0 h0_0_e1_f1 h0_0_e1_2 h0_0_e1_0 h0_0_e1_0k h0_0_e1_0c h0_0_e1_2 h0_0_e1_2k h0_0_e1_2c h0_0_e2 h0_0_e2_0 h0_0_e2_f1 h0_0_e2_2 h0_0_e2_0 h0_0_e2_0k h0_0_e2_0c h0_0_e2_2 h0_0_e2_2k h0_0_e2_2c h0_0_e3 h0_0_e3_0 h0_0_e3_f1 h0_0_e3_2 h0_0_e3_0 h0_0_e3_0k h0_0_e3_0c h0_0_e3_2 h0_0_e3_2k h0_0_e3_2c) H := hP
      have hD : va_D A (wd_c_X5_drawBy h0 h0_0 h0_f1 h0_f2 h0_3 h0_3 h0_3k w_12 h0_0 h0_0k h0_0c h0_0_e0 h0_0_e0_0 h0_0_e0_f1 h0_0_e0_2 h0_0_e0_0 h0_0_e0_0k h0_0_e0_0c h0_0_e0_2 h0_0_e0_2k h0_0_e0_2c h0_0_e1 h0_0_e1_0 h0_0_e1_f1 h0_0_e1_2 h0_0_e1_0 h0_0_e1_0k h0_0_e1_0c h0_0_e1_2 h0_0_e1_2k h0_0_e1_2c h0_0_e2 h0_0_e2_0 h0_0_e2_f1 h0_0_e2_2 h0_0_e2_0 h0_0_e2_0k h0_0_e2_0c h0_0_e2_2 h0_0_e2_2k h0_0_e2_2c h0_0_e3 h0_0_e3_0 h0_0_e3_f1 h0_0_e3_2 h0_0_e3_0 h0_0_e3_0k h0_0_e3_0c h0_0_e3_2 h0_0_e3_2k h0_0_e3_2c) := hD
      refine lv_aload_n hx hb dX5_drawBy_37 rfl (lv_at hl 0 rfl) ?_
      as_aux_lemma =>
      refine va_get (D := (dC, dI)) (ci := 5) (v := .ref h0_3) (C := RX5) (T := TX5) (N := 4) hx hb hts iw_c_X5_drawBy_X5 hown hK hP 0 rfl rfl 3 (by decide +kernel) (hts (.fieldLink RX5 22 "BuoyVote$LawBook" "letters" "[I") (List.mem_of_getElem? (i := 3) rfl)) (fun _ h9 => h9) rfl dX5_drawBy_38 ?_
      refine lv_iconst (v := 1) hx hb dX5_drawBy_41 kc_iconst_1 ?_
      refine lv_iload_n hx hb dX5_drawBy_42 rfl (lv_at hl 2 rfl) ?_
      refine va_iast hx hb hK hP hD hS 1 0 rfl rfl (RG_in (RG_k 1 1 rfl) (by decide +kernel)) dX5_drawBy_43 (fun H locs hP hD hS => ?_)
      have hP : va_P (dC, dI) vwCl (wd_c_X5_drawBy h0 h0_0 h0_f1 h0_f2 h0_3 h0_3 h0_3k (upd w_12 (1 : Int32).toNatClampNeg p2) h0_0 h0_0k h0_0c h0_0_e0 h0_0_e0_0 h0_0_e0_f1 h0_0_e0_2 h0_0_e0_0 h0_0_e0_0k h0_0_e0_0c h0_0_e0_2 h0_0_e0_2k h0_0_e0_2c h0_0_e1 h0_0_e1_0 h0_0_e1_f1 h0_0_e1_2 h0_0_e1_0 h0_0_e1_0k h0_0_e1_0c h0_0_e1_2 h0_0_e1_2k h0_0_e1_2c h0_0_e2 h0_0_e2_0 h0_0_e2_f1 h0_0_e2_2 h0_0_e2_0 h0_0_e2_0k h0_0_e2_0c h0_0_e2_2 h0_0_e2_2k h0_0_e2_2c h0_0_e3 h0_0_e3_0 h0_0_e3_f1 h0_0_e3_2 h0_0_e3_0 h0_0_e3_0k h0_0_e3_0c h0_0_e3_2 h0_0_e3_2k h0_0_e3_2c) H := hP
      have hD : va_D A (wd_c_X5_drawBy h0 h0_0 h0_f1 h0_f2 h0_3 h0_3 h0_3k (upd w_12 (1 : Int32).toNatClampNeg p2) h0_0 h0_0k h0_0c h0_0_e0 h0_0_e0_0 h0_0_e0_f1 h0_0_e0_2 h0_0_e0_0 h0_0_e0_0k h0_0_e0_0c h0_0_e0_2 h0_0_e0_2k h0_0_e0_2c h0_0_e1 h0_0_e1_0 h0_0_e1_f1 h0_0_e1_2 h0_0_e1_0 h0_0_e1_0k h0_0_e1_0c h0_0_e1_2 h0_0_e1_2k h0_0_e1_2c h0_0_e2 h0_0_e2_0 h0_0_e2_f1 h0_0_e2_2 h0_0_e2_0 h0_0_e2_0k h0_0_e2_0c h0_0_e2_2 h0_0_e2_2k h0_0_e2_2c h0_0_e3 h0_0_e3_0 h0_0_e3_f1 h0_0_e3_2 h0_0_e3_0 h0_0_e3_0k h0_0_e3_0c h0_0_e3_2 h0_0_e3_2k h0_0_e3_2c) := hD
      have l_15 : (upd w_12 (1 : Int32).toNatClampNeg p2) (1 : Int32).toNatClampNeg = p2 := pk_us
      generalize (upd w_12 (1 : Int32).toNatClampNeg p2) = w_14 at hP hD l_15
      have hP : va_P (dC, dI) vwCl (wd_c_X5_drawBy h0 h0_0 h0_f1 h0_f2 h0_3 h0_3 h0_3k w_14 h0_0 h0_0k h0_0c h0_0_e0 h0_0_e0_0 h0_0_e0_f1 h0_0_e0_2 h0_0_e0_0 h0_0_e0_0k h0_0_e0_0c h0_0_e0_2 h0_0_e0_2k h0_0_e0_2c h0_0_e1 h0_0_e1_0 h0_0_e1_f1 h0_0_e1_2 h0_0_e1_0 h0_0_e1_0k h0_0_e1_0c h0_0_e1_2 h0_0_e1_2k h0_0_e1_2c h0_0_e2 h0_0_e2_0 h0_0_e2_f1 h0_0_e2_2 h0_0_e2_0 h0_0_e2_0k h0_0_e2_0c h0_0_e2_2 h0_0_e2_2k h0_0_e2_2c h0_0_e3 h0_0_e3_0 h0_0_e3_f1 h0_0_e3_2 h0_0_e3_0 h0_0_e3_0k h0_0_e3_0c h0_0_e3_2 h0_0_e3_2k h0_0_e3_2c) H := hP
      have hD : va_D A (wd_c_X5_drawBy h0 h0_0 h0_f1 h0_f2 h0_3 h0_3 h0_3k w_14 h0_0 h0_0k h0_0c h0_0_e0 h0_0_e0_0 h0_0_e0_f1 h0_0_e0_2 h0_0_e0_0 h0_0_e0_0k h0_0_e0_0c h0_0_e0_2 h0_0_e0_2k h0_0_e0_2c h0_0_e1 h0_0_e1_0 h0_0_e1_f1 h0_0_e1_2 h0_0_e1_0 h0_0_e1_0k h0_0_e1_0c h0_0_e1_2 h0_0_e1_2k h0_0_e1_2c h0_0_e2 h0_0_e2_0 h0_0_e2_f1 h0_0_e2_2 h0_0_e2_0 h0_0_e2_0k h0_0_e2_0c h0_0_e2_2 h0_0_e2_2k h0_0_e2_2c h0_0_e3 h0_0_e3_0 h0_0_e3_f1 h0_0_e3_2 h0_0_e3_0 h0_0_e3_0k h0_0_e3_0c h0_0_e3_2 h0_0_e3_2k h0_0_e3_2c) := hD
      refine lv_aload_n hx hb dX5_drawBy_44 rfl (lv_at hl 0 rfl) ?_
      refine va_get (D := (dC, dI)) (ci := 5) (v := .ref h0_3) (C := RX5) (T := TX5) (N := 4) hx hb hts iw_c_X5_drawBy_X5 hown hK hP 0 rfl rfl 3 (by decide +kernel) (hts (.fieldLink RX5 22 "BuoyVote$LawBook" "letters" "[I") (List.mem_of_getElem? (i := 3) rfl)) (fun _ h9 => h9) rfl dX5_drawBy_45 ?_
      refine lv_iconst (v := 2) hx hb dX5_drawBy_48 kc_iconst_2 ?_
      refine lv_iload_n hx hb dX5_drawBy_49 rfl (lv_at hl 3 rfl) ?_
      as_aux_lemma =>
      refine va_iast hx hb hK hP hD hS 1 0 rfl rfl (RG_in (RG_k 2 2 rfl) (by decide +kernel)) dX5_drawBy_50 (fun H locs hP hD hS => ?_)
      have hP : va_P (dC, dI) vwCl (wd_c_X5_drawBy h0 h0_0 h0_f1 h0_f2 h0_3 h0_3 h0_3k (upd w_14 (2 : Int32).toNatClampNeg p3) h0_0 h0_0k h0_0c h0_0_e0 h0_0_e0_0 h0_0_e0_f1 h0_0_e0_2 h0_0_e0_0 h0_0_e0_0k h0_0_e0_0c h0_0_e0_2 h0_0_e0_2k h0_0_e0_2c h0_0_e1 h0_0_e1_0 h0_0_e1_f1 h0_0_e1_2 h0_0_e1_0 h0_0_e1_0k h0_0_e1_0c h0_0_e1_2 h0_0_e1_2k h0_0_e1_2c h0_0_e2 h0_0_e2_0 h0_0_e2_f1 h0_0_e2_2 h0_0_e2_0 h0_0_e2_0k h0_0_e2_0c h0_0_e2_2 h0_0_e2_2k h0_0_e2_2c h0_0_e3 h0_0_e3_0 h0_0_e3_f1 h0_0_e3_2 h0_0_e3_0 h0_0_e3_0k h0_0_e3_0c h0_0_e3_2 h0_0_e3_2k h0_0_e3_2c) H := hP
      have hD : va_D A (wd_c_X5_drawBy h0 h0_0 h0_f1 h0_f2 h0_3 h0_3 h0_3k (upd w_14 (2 : Int32).toNatClampNeg p3) h0_0 h0_0k h0_0c h0_0_e0 h0_0_e0_0 h0_0_e0_f1 h0_0_e0_2 h0_0_e0_0 h0_0_e0_0k h0_0_e0_0c h0_0_e0_2 h0_0_e0_2k h0_0_e0_2c h0_0_e1 h0_0_e1_0 h0_0_e1_f1 h0_0_e1_2 h0_0_e1_0 h0_0_e1_0k h0_0_e1_0c h0_0_e1_2 h0_0_e1_2k h0_0_e1_2c h0_0_e2 h0_0_e2_0 h0_0_e2_f1 h0_0_e2_2 h0_0_e2_0 h0_0_e2_0k h0_0_e2_0c h0_0_e2_2 h0_0_e2_2k h0_0_e2_2c h0_0_e3 h0_0_e3_0 h0_0_e3_f1 h0_0_e3_2 h0_0_e3_0 h0_0_e3_0k h0_0_e3_0c h0_0_e3_2 h0_0_e3_2k h0_0_e3_2c) := hD
      have l_17 : (upd w_14 (2 : Int32).toNatClampNeg p3) (2 : Int32).toNatClampNeg = p3 := pk_us
      generalize (upd w_14 (2 : Int32).toNatClampNeg p3) = w_16 at hP hD l_17
      have hP : va_P (dC, dI) vwCl (wd_c_X5_drawBy h0 h0_0 h0_f1 h0_f2 h0_3 h0_3 h0_3k w_16 h0_0 h0_0k h0_0c h0_0_e0 h0_0_e0_0 h0_0_e0_f1 h0_0_e0_2 h0_0_e0_0 h0_0_e0_0k h0_0_e0_0c h0_0_e0_2 h0_0_e0_2k h0_0_e0_2c h0_0_e1 h0_0_e1_0 h0_0_e1_f1 h0_0_e1_2 h0_0_e1_0 h0_0_e1_0k h0_0_e1_0c h0_0_e1_2 h0_0_e1_2k h0_0_e1_2c h0_0_e2 h0_0_e2_0 h0_0_e2_f1 h0_0_e2_2 h0_0_e2_0 h0_0_e2_0k h0_0_e2_0c h0_0_e2_2 h0_0_e2_2k h0_0_e2_2c h0_0_e3 h0_0_e3_0 h0_0_e3_f1 h0_0_e3_2 h0_0_e3_0 h0_0_e3_0k h0_0_e3_0c h0_0_e3_2 h0_0_e3_2k h0_0_e3_2c) H := hP
      have hD : va_D A (wd_c_X5_drawBy h0 h0_0 h0_f1 h0_f2 h0_3 h0_3 h0_3k w_16 h0_0 h0_0k h0_0c h0_0_e0 h0_0_e0_0 h0_0_e0_f1 h0_0_e0_2 h0_0_e0_0 h0_0_e0_0k h0_0_e0_0c h0_0_e0_2 h0_0_e0_2k h0_0_e0_2c h0_0_e1 h0_0_e1_0 h0_0_e1_f1 h0_0_e1_2 h0_0_e1_0 h0_0_e1_0k h0_0_e1_0c h0_0_e1_2 h0_0_e1_2k h0_0_e1_2c h0_0_e2 h0_0_e2_0 h0_0_e2_f1 h0_0_e2_2 h0_0_e2_0 h0_0_e2_0k h0_0_e2_0c h0_0_e2_2 h0_0_e2_2k h0_0_e2_2c h0_0_e3 h0_0_e3_0 h0_0_e3_f1 h0_0_e3_2 h0_0_e3_0 h0_0_e3_0k h0_0_e3_0c h0_0_e3_2 h0_0_e3_2k h0_0_e3_2c) := hD
      refine lv_aload_n hx hb dX5_drawBy_51 rfl (lv_at hl 0 rfl) ?_
      refine va_get (D := (dC, dI)) (ci := 5) (v := .ref h0_3) (C := RX5) (T := TX5) (N := 4) hx hb hts iw_c_X5_drawBy_X5 hown hK hP 0 rfl rfl 3 (by decide +kernel) (hts (.fieldLink RX5 22 "BuoyVote$LawBook" "letters" "[I") (List.mem_of_getElem? (i := 3) rfl)) (fun _ h9 => h9) rfl dX5_drawBy_52 ?_
      refine lv_iconst (v := 3) hx hb dX5_drawBy_55 kc_iconst_3 ?_
      refine lv_iload hx hb dX5_drawBy_56 (lv_at hl 4 rfl) ?_
      refine va_iast hx hb hK hP hD hS 1 0 rfl rfl (RG_in (RG_k 3 3 rfl) (by decide +kernel)) dX5_drawBy_58 (fun H locs hP hD hS => ?_)
      have hP : va_P (dC, dI) vwCl (wd_c_X5_drawBy h0 h0_0 h0_f1 h0_f2 h0_3 h0_3 h0_3k (upd w_16 (3 : Int32).toNatClampNeg p4) h0_0 h0_0k h0_0c h0_0_e0 h0_0_e0_0 h0_0_e0_f1 h0_0_e0_2 h0_0_e0_0 h0_0_e0_0k h0_0_e0_0c h0_0_e0_2 h0_0_e0_2k h0_0_e0_2c h0_0_e1 h0_0_e1_0 h0_0_e1_f1 h0_0_e1_2 h0_0_e1_0 h0_0_e1_0k h0_0_e1_0c h0_0_e1_2 h0_0_e1_2k h0_0_e1_2c h0_0_e2 h0_0_e2_0 h0_0_e2_f1 h0_0_e2_2 h0_0_e2_0 h0_0_e2_0k h0_0_e2_0c h0_0_e2_2 h0_0_e2_2k h0_0_e2_2c h0_0_e3 h0_0_e3_0 h0_0_e3_f1 h0_0_e3_2 h0_0_e3_0 h0_0_e3_0k h0_0_e3_0c h0_0_e3_2 h0_0_e3_2k h0_0_e3_2c) H := hP
      have hD : va_D A (wd_c_X5_drawBy h0 h0_0 h0_f1 h0_f2 h0_3 h0_3 h0_3k (upd w_16 (3 : Int32).toNatClampNeg p4) h0_0 h0_0k h0_0c h0_0_e0 h0_0_e0_0 h0_0_e0_f1 h0_0_e0_2 h0_0_e0_0 h0_0_e0_0k h0_0_e0_0c h0_0_e0_2 h0_0_e0_2k h0_0_e0_2c h0_0_e1 h0_0_e1_0 h0_0_e1_f1 h0_0_e1_2 h0_0_e1_0 h0_0_e1_0k h0_0_e1_0c h0_0_e1_2 h0_0_e1_2k h0_0_e1_2c h0_0_e2 h0_0_e2_0 h0_0_e2_f1 h0_0_e2_2 h0_0_e2_0 h0_0_e2_0k h0_0_e2_0c h0_0_e2_2 h0_0_e2_2k h0_0_e2_2c h0_0_e3 h0_0_e3_0 h0_0_e3_f1 h0_0_e3_2 h0_0_e3_0 h0_0_e3_0k h0_0_e3_0c h0_0_e3_2 h0_0_e3_2k h0_0_e3_2c) := hD
      have l_19 : (upd w_16 (3 : Int32).toNatClampNeg p4) (3 : Int32).toNatClampNeg = p4 := pk_us
      generalize (upd w_16 (3 : Int32).toNatClampNeg p4) = w_18 at hP hD l_19
      have hP : va_P (dC, dI) vwCl (wd_c_X5_drawBy h0 h0_0 h0_f1 h0_f2 h0_3 h0_3 h0_3k w_18 h0_0 h0_0k h0_0c h0_0_e0 h0_0_e0_0 h0_0_e0_f1 h0_0_e0_2 h0_0_e0_0 h0_0_e0_0k h0_0_e0_0c h0_0_e0_2 h0_0_e0_2k h0_0_e0_2c h0_0_e1 h0_0_e1_0 h0_0_e1_f1 h0_0_e1_2 h0_0_e1_0 h0_0_e1_0k h0_0_e1_0c h0_0_e1_2 h0_0_e1_2k h0_0_e1_2c h0_0_e2 h0_0_e2_0 h0_0_e2_f1 h0_0_e2_2 h0_0_e2_0 h0_0_e2_0k h0_0_e2_0c h0_0_e2_2 h0_0_e2_2k h0_0_e2_2c h0_0_e3 h0_0_e3_0 h0_0_e3_f1 h0_0_e3_2 h0_0_e3_0 h0_0_e3_0k h0_0_e3_0c h0_0_e3_2 h0_0_e3_2k h0_0_e3_2c) H := hP
      have hD : va_D A (wd_c_X5_drawBy h0 h0_0 h0_f1 h0_f2 h0_3 h0_3 h0_3k w_18 h0_0 h0_0k h0_0c h0_0_e0 h0_0_e0_0 h0_0_e0_f1 h0_0_e0_2 h0_0_e0_0 h0_0_e0_0k h0_0_e0_0c h0_0_e0_2 h0_0_e0_2k h0_0_e0_2c h0_0_e1 h0_0_e1_0 h0_0_e1_f1 h0_0_e1_2 h0_0_e1_0 h0_0_e1_0k h0_0_e1_0c h0_0_e1_2 h0_0_e1_2k h0_0_e1_2c h0_0_e2 h0_0_e2_0 h0_0_e2_f1 h0_0_e2_2 h0_0_e2_0 h0_0_e2_0k h0_0_e2_0c h0_0_e2_2 h0_0_e2_2k h0_0_e2_2c h0_0_e3 h0_0_e3_0 h0_0_e3_f1 h0_0_e3_2 h0_0_e3_0 h0_0_e3_0k h0_0_e3_0c h0_0_e3_2 h0_0_e3_2k h0_0_e3_2c) := hD
      refine lv_aload_n hx hb dX5_drawBy_59 rfl (lv_at hl 0 rfl) ?_
      as_aux_lemma =>
      refine va_get (D := (dC, dI)) (ci := 5) (v := .ref h0_3) (C := RX5) (T := TX5) (N := 4) hx hb hts iw_c_X5_drawBy_X5 hown hK hP 0 rfl rfl 3 (by decide +kernel) (hts (.fieldLink RX5 22 "BuoyVote$LawBook" "letters" "[I") (List.mem_of_getElem? (i := 3) rfl)) (fun _ h9 => h9) rfl dX5_drawBy_60 ?_
      refine lv_iconst (v := 4) hx hb dX5_drawBy_63 kc_iconst_4 ?_
      refine lv_iload hx hb dX5_drawBy_64 (lv_at hl 5 rfl) ?_
      refine va_iast hx hb hK hP hD hS 1 0 rfl rfl (RG_in (RG_k 4 4 rfl) (by decide +kernel)) dX5_drawBy_66 (fun H locs hP hD hS => ?_)
      have hP : va_P (dC, dI) vwCl (wd_c_X5_drawBy h0 h0_0 h0_f1 h0_f2 h0_3 h0_3 h0_3k (upd w_18 (4 : Int32).toNatClampNeg p5) h0_0 h0_0k h0_0c h0_0_e0 h0_0_e0_0 h0_0_e0_f1 h0_0_e0_2 h0_0_e0_0 h0_0_e0_0k h0_0_e0_0c h0_0_e0_2 h0_0_e0_2k h0_0_e0_2c h0_0_e1 h0_0_e1_0 h0_0_e1_f1 h0_0_e1_2 h0_0_e1_0 h0_0_e1_0k h0_0_e1_0c h0_0_e1_2 h0_0_e1_2k h0_0_e1_2c h0_0_e2 h0_0_e2_0 h0_0_e2_f1 h0_0_e2_2 h0_0_e2_0 h0_0_e2_0k h0_0_e2_0c h0_0_e2_2 h0_0_e2_2k h0_0_e2_2c h0_0_e3 h0_0_e3_0 h0_0_e3_f1 h0_0_e3_2 h0_0_e3_0 h0_0_e3_0k h0_0_e3_0c h0_0_e3_2 h0_0_e3_2k h0_0_e3_2c) H := hP
      have hD : va_D A (wd_c_X5_drawBy h0 h0_0 h0_f1 h0_f2 h0_3 h0_3 h0_3k (upd w_18 (4 : Int32).toNatClampNeg p5) h0_0 h0_0k h0_0c h0_0_e0 h0_0_e0_0 h0_0_e0_f1 h0_0_e0_2 h0_0_e0_0 h0_0_e0_0k h0_0_e0_0c h0_0_e0_2 h0_0_e0_2k h0_0_e0_2c h0_0_e1 h0_0_e1_0 h0_0_e1_f1 h0_0_e1_2 h0_0_e1_0 h0_0_e1_0k h0_0_e1_0c h0_0_e1_2 h0_0_e1_2k h0_0_e1_2c h0_0_e2 h0_0_e2_0 h0_0_e2_f1 h0_0_e2_2 h0_0_e2_0 h0_0_e2_0k h0_0_e2_0c h0_0_e2_2 h0_0_e2_2k h0_0_e2_2c h0_0_e3 h0_0_e3_0 h0_0_e3_f1 h0_0_e3_2 h0_0_e3_0 h0_0_e3_0k h0_0_e3_0c h0_0_e3_2 h0_0_e3_2k h0_0_e3_2c) := hD
      have l_21 : (upd w_18 (4 : Int32).toNatClampNeg p5) (4 : Int32).toNatClampNeg = p5 := pk_us
      generalize (upd w_18 (4 : Int32).toNatClampNeg p5) = w_20 at hP hD l_21
      have hP : va_P (dC, dI) vwCl (wd_c_X5_drawBy h0 h0_0 h0_f1 h0_f2 h0_3 h0_3 h0_3k w_20 h0_0 h0_0k h0_0c h0_0_e0 h0_0_e0_0 h0_0_e0_f1 h0_0_e0_2 h0_0_e0_0 h0_0_e0_0k h0_0_e0_0c h0_0_e0_2 h0_0_e0_2k h0_0_e0_2c h0_0_e1 h0_0_e1_0 h0_0_e1_f1 h0_0_e1_2 h0_0_e1_0 h0_0_e1_0k h0_0_e1_0c h0_0_e1_2 h0_0_e1_2k h0_0_e1_2c h0_0_e2 h0_0_e2_0 h0_0_e2_f1 h0_0_e2_2 h0_0_e2_0 h0_0_e2_0k h0_0_e2_0c h0_0_e2_2 h0_0_e2_2k h0_0_e2_2c h0_0_e3 h0_0_e3_0 h0_0_e3_f1 h0_0_e3_2 h0_0_e3_0 h0_0_e3_0k h0_0_e3_0c h0_0_e3_2 h0_0_e3_2k h0_0_e3_2c) H := hP
      have hD : va_D A (wd_c_X5_drawBy h0 h0_0 h0_f1 h0_f2 h0_3 h0_3 h0_3k w_20 h0_0 h0_0k h0_0c h0_0_e0 h0_0_e0_0 h0_0_e0_f1 h0_0_e0_2 h0_0_e0_0 h0_0_e0_0k h0_0_e0_0c h0_0_e0_2 h0_0_e0_2k h0_0_e0_2c h0_0_e1 h0_0_e1_0 h0_0_e1_f1 h0_0_e1_2 h0_0_e1_0 h0_0_e1_0k h0_0_e1_0c h0_0_e1_2 h0_0_e1_2k h0_0_e1_2c h0_0_e2 h0_0_e2_0 h0_0_e2_f1 h0_0_e2_2 h0_0_e2_0 h0_0_e2_0k h0_0_e2_0c h0_0_e2_2 h0_0_e2_2k h0_0_e2_2c h0_0_e3 h0_0_e3_0 h0_0_e3_f1 h0_0_e3_2 h0_0_e3_0 h0_0_e3_0k h0_0_e3_0c h0_0_e3_2 h0_0_e3_2k h0_0_e3_2c) := hD
      refine lv_aload_n hx hb dX5_drawBy_67 rfl (lv_at hl 0 rfl) ?_
      refine va_get (D := (dC, dI)) (ci := 5) (v := .ref h0_3) (C := RX5) (T := TX5) (N := 4) hx hb hts iw_c_X5_drawBy_X5 hown hK hP 0 rfl rfl 3 (by decide +kernel) (hts (.fieldLink RX5 22 "BuoyVote$LawBook" "letters" "[I") (List.mem_of_getElem? (i := 3) rfl)) (fun _ h9 => h9) rfl dX5_drawBy_68 ?_
      refine lv_iconst (v := 5) hx hb dX5_drawBy_71 kc_iconst_5 ?_
      refine lv_iload hx hb dX5_drawBy_72 (lv_at hl 6 rfl) ?_
      as_aux_lemma =>
      refine va_iast hx hb hK hP hD hS 1 0 rfl rfl (RG_in (RG_k 5 5 rfl) (by decide +kernel)) dX5_drawBy_74 (fun H locs hP hD hS => ?_)
      have hP : va_P (dC, dI) vwCl (wd_c_X5_drawBy h0 h0_0 h0_f1 h0_f2 h0_3 h0_3 h0_3k (upd w_20 (5 : Int32).toNatClampNeg p6) h0_0 h0_0k h0_0c h0_0_e0 h0_0_e0_0 h0_0_e0_f1 h0_0_e0_2 h0_0_e0_0 h0_0_e0_0k h0_0_e0_0c h0_0_e0_2 h0_0_e0_2k h0_0_e0_2c h0_0_e1 h0_0_e1_0 h0_0_e1_f1 h0_0_e1_2 h0_0_e1_0 h0_0_e1_0k h0_0_e1_0c h0_0_e1_2 h0_0_e1_2k h0_0_e1_2c h0_0_e2 h0_0_e2_0 h0_0_e2_f1 h0_0_e2_2 h0_0_e2_0 h0_0_e2_0k h0_0_e2_0c h0_0_e2_2 h0_0_e2_2k h0_0_e2_2c h0_0_e3 h0_0_e3_0 h0_0_e3_f1 h0_0_e3_2 h0_0_e3_0 h0_0_e3_0k h0_0_e3_0c h0_0_e3_2 h0_0_e3_2k h0_0_e3_2c) H := hP
      have hD : va_D A (wd_c_X5_drawBy h0 h0_0 h0_f1 h0_f2 h0_3 h0_3 h0_3k (upd w_20 (5 : Int32).toNatClampNeg p6) h0_0 h0_0k h0_0c h0_0_e0 h0_0_e0_0 h0_0_e0_f1 h0_0_e0_2 h0_0_e0_0 h0_0_e0_0k h0_0_e0_0c h0_0_e0_2 h0_0_e0_2k h0_0_e0_2c h0_0_e1 h0_0_e1_0 h0_0_e1_f1 h0_0_e1_2 h0_0_e1_0 h0_0_e1_0k h0_0_e1_0c h0_0_e1_2 h0_0_e1_2k h0_0_e1_2c h0_0_e2 h0_0_e2_0 h0_0_e2_f1 h0_0_e2_2 h0_0_e2_0 h0_0_e2_0k h0_0_e2_0c h0_0_e2_2 h0_0_e2_2k h0_0_e2_2c h0_0_e3 h0_0_e3_0 h0_0_e3_f1 h0_0_e3_2 h0_0_e3_0 h0_0_e3_0k h0_0_e3_0c h0_0_e3_2 h0_0_e3_2k h0_0_e3_2c) := hD
      have l_23 : (upd w_20 (5 : Int32).toNatClampNeg p6) (5 : Int32).toNatClampNeg = p6 := pk_us
      generalize (upd w_20 (5 : Int32).toNatClampNeg p6) = w_22 at hP hD l_23
      have hP : va_P (dC, dI) vwCl (wd_c_X5_drawBy h0 h0_0 h0_f1 h0_f2 h0_3 h0_3 h0_3k w_22 h0_0 h0_0k h0_0c h0_0_e0 h0_0_e0_0 h0_0_e0_f1 h0_0_e0_2 h0_0_e0_0 h0_0_e0_0k h0_0_e0_0c h0_0_e0_2 h0_0_e0_2k h0_0_e0_2c h0_0_e1 h0_0_e1_0 h0_0_e1_f1 h0_0_e1_2 h0_0_e1_0 h0_0_e1_0k h0_0_e1_0c h0_0_e1_2 h0_0_e1_2k h0_0_e1_2c h0_0_e2 h0_0_e2_0 h0_0_e2_f1 h0_0_e2_2 h0_0_e2_0 h0_0_e2_0k h0_0_e2_0c h0_0_e2_2 h0_0_e2_2k h0_0_e2_2c h0_0_e3 h0_0_e3_0 h0_0_e3_f1 h0_0_e3_2 h0_0_e3_0 h0_0_e3_0k h0_0_e3_0c h0_0_e3_2 h0_0_e3_2k h0_0_e3_2c) H := hP
      have hD : va_D A (wd_c_X5_drawBy h0 h0_0 h0_f1 h0_f2 h0_3 h0_3 h0_3k w_22 h0_0 h0_0k h0_0c h0_0_e0 h0_0_e0_0 h0_0_e0_f1 h0_0_e0_2 h0_0_e0_0 h0_0_e0_0k h0_0_e0_0c h0_0_e0_2 h0_0_e0_2k h0_0_e0_2c h0_0_e1 h0_0_e1_0 h0_0_e1_f1 h0_0_e1_2 h0_0_e1_0 h0_0_e1_0k h0_0_e1_0c h0_0_e1_2 h0_0_e1_2k h0_0_e1_2c h0_0_e2 h0_0_e2_0 h0_0_e2_f1 h0_0_e2_2 h0_0_e2_0 h0_0_e2_0k h0_0_e2_0c h0_0_e2_2 h0_0_e2_2k h0_0_e2_2c h0_0_e3 h0_0_e3_0 h0_0_e3_f1 h0_0_e3_2 h0_0_e3_0 h0_0_e3_0k h0_0_e3_0c h0_0_e3_2 h0_0_e3_2k h0_0_e3_2c) := hD
      refine lv_aload_n hx hb dX5_drawBy_75 rfl (lv_at hl 0 rfl) ?_
      refine va_get (D := (dC, dI)) (ci := 5) (v := .ref h0_0) (C := RX5) (T := TX5) (N := 4) hx hb hts iw_c_X5_drawBy_X5 hown hK hP 0 rfl rfl 0 (by decide +kernel) (hts (.fieldLink RX5 11 "BuoyVote$LawBook" "laws" "[LBuoyVote$Law;") (List.mem_of_getElem? (i := 4) rfl)) (fun _ h9 => h9) rfl dX5_drawBy_76 ?_
      refine lv_aload_n hx hb dX5_drawBy_79 rfl (lv_at hl 0 rfl) ?_
      refine va_get (D := (dC, dI)) (ci := 5) (v := .int h0_f2) (C := RX5) (T := TX5) (N := 4) hx hb hts iw_c_X5_drawBy_X5 hown hK hP 0 rfl rfl 2 (by decide +kernel) (hts (.fieldLink RX5 18 "BuoyVote$LawBook" "holding" "I") (List.mem_of_getElem? (i := 1) rfl)) (fun _ h9 => h9) rfl dX5_drawBy_80 ?_
      by_cases c_24 : h0_f2 = 0
      · refine W.eq (g2 := F0 m 83 ls [.int 0, .ref h0_0]) (by rw [c_24]) ?_
        have g_25 : RG h0_f2 0 0 := RG_k _ _ (by rw [c_24]; rfl)
        refine va_aldq hx hb hK hP 2 1 rfl rfl (by unfold vp_in; decide) dX5_drawBy_83 ?_
        as_aux_lemma =>
        rw [show h0_0c (0 : Int32).toNatClampNeg = some h0_0_e0 from e_h0_0_e0]
        refine W.eq (g2 := F0 m 84 ls [.ref h0_0_e0]) rfl ?_
        refine lv_aload_n hx hb dX5_drawBy_84 rfl (lv_at hl 0 rfl) ?_
        refine va_get (D := (dC, dI)) (ci := 5) (v := .ref h0_3) (C := RX5) (T := TX5) (N := 4) hx hb hts iw_c_X5_drawBy_X5 hown hK hP 0 rfl rfl 3 (by decide +kernel) (hts (.fieldLink RX5 22 "BuoyVote$LawBook" "letters" "[I") (List.mem_of_getElem? (i := 3) rfl)) (fun _ h9 => h9) rfl dX5_drawBy_85 ?_
        obtain ⟨hPc, hDc, hFc, hqc⟩ := cl_cut (wc := (wd_c_X4_worth h0_0_e0 h0_0_e0_0 h0_0_e0_f1 h0_0_e0_2 h0_0_e0_0 h0_0_e0_0k h0_0_e0_0c h0_3 h0_3k w_22 h0_0_e0_2 h0_0_e0_2k h0_0_e0_2c)) hP hD hS hA [3, 4, 1, 5] (by decide +kernel) rfl
        have hKc := hK.sub (tys' := [(h0_0_e0_0k, .int), (h0_3k, .int), (h0_0_e0_2k, .int)]) [2, 0, 3] rfl
        have hrv := va_recv hKc hPc (ci := 4) (q0 := 0) rfl rfl
        refine va_calli (va_runV (As := [.ref h0_3]) (rest := []) ⟨hx, hb, hml, hown, hts⟩ (c_X4_worth l dC dI H.size h0_0_e0 h0_3 h0_0_e0_0 h0_0_e0_f1 h0_0_e0_2 h0_0_e0_0k h0_0_e0_0c h0_3k w_22 h0_0_e0_2k h0_0_e0_2c g_h0_0_e0_f1) (cwV 1 hts gf_c_X5_drawBy_c_X4_worth rfl rfl rfl mdV_X4_worth ⟨Nat.le_of_ble_eq_true rfl, Nat.le_of_ble_eq_true rfl⟩) ⟨fun a U g mk q => by obtain ⟨q0, q1, qP, qK, qD⟩ := q; exact ⟨q0, q1, qP, va_K.moved (u := U) (U := U.calling g mk a) (Vm.Alike.refl U.vm) qK, qD⟩, hrv, fun U hU hW => ⟨rfl, by rw [hU], by rw [hU]; exact hPc, va_K.moved hW.alike hKc, hDc.weaken (fun _ _ _ _ => trivial)⟩⟩ rfl rfl hl.1 rfl (lv_room (Nat.le_of_ble_eq_true rfl)) dX5_drawBy_88 ⟨Nat.le_of_ble_eq_true rfl, Nat.le_of_ble_eq_true rfl⟩) hS (fun q _ h => hFc q h) hFc (fun r_26 w_27 t H1 locs ht hvm hw hB hz1 hk1 hS => ?_)
        obtain ⟨hP1, hK1, hD1⟩ := hB
        rw [ht] at hP1
        obtain ⟨hP, hD⟩ := cl_put (w1 := (wd_c_X4_worth h0_0_e0 h0_0_e0_0 h0_0_e0_f1 h0_0_e0_2 h0_0_e0_0 h0_0_e0_0k h0_0_e0_0c h0_3 h0_3k w_22 h0_0_e0_2 h0_0_e0_2k w_27)) (nw := (wd_c_X5_drawBy h0 h0_0 h0_f1 h0_f2 h0_3 h0_3 h0_3k w_22 h0_0 h0_0k h0_0c h0_0_e0 h0_0_e0_0 h0_0_e0_f1 h0_0_e0_2 h0_0_e0_0 h0_0_e0_0k h0_0_e0_0c h0_0_e0_2 h0_0_e0_2k w_27 h0_0_e1 h0_0_e1_0 h0_0_e1_f1 h0_0_e1_2 h0_0_e1_0 h0_0_e1_0k h0_0_e1_0c h0_0_e1_2 h0_0_e1_2k h0_0_e1_2c h0_0_e2 h0_0_e2_0 h0_0_e2_f1 h0_0_e2_2 h0_0_e2_0 h0_0_e2_0k h0_0_e2_0c h0_0_e2_2 h0_0_e2_2k h0_0_e2_2c h0_0_e3 h0_0_e3_0 h0_0_e3_f1 h0_0_e3_2 h0_0_e3_0 h0_0_e3_0k h0_0_e3_0c h0_0_e3_2 h0_0_e3_2k h0_0_e3_2c)) hP hD [3, 4, 1, 5] [0, 17, 2, 15, 16, 18, 6, 7, 8, 9, 10, 11, 12, 13, 14] 15 rfl hqc (by decide +kernel) rfl hk1 hFc hP1 hD1
        generalize H1 = H at hP hS ⊢
        as_aux_lemma =>
        rcases hw with h_28 | ⟨h_29, h_30⟩
        · rw [h_28]
          refine lv_istore (lv' := [(7, .int 0), (0, .ref h0), (1, .int p1), (2, .int p2), (3, .int p3), (4, .int p4), (5, .int p5), (6, .int p6)]) hx hb dX5_drawBy_91 hl (Nat.le_of_ble_eq_true rfl) rfl (fun ls hl => ?_)
          refine lv_iload hx hb dX5_drawBy_93 (lv_at hl 0 rfl) ?_
          refine lv_bipush (v := 99) hx hb dX5_drawBy_95 kc_bipush_99 ?_
          refine lv_icmp_le (tgt := 105) hx hb dX5_drawBy_97 rfl (fun c_31 => ?_) (fun c_31 => absurd c_31 (by decide +kernel))
          refine lv_iload hx hb dX5_drawBy_105 (lv_at hl 0 rfl) ?_
          refine lv_bipush (v := (-99)) hx hb dX5_drawBy_107 kc_bipush_m99 ?_
          refine lv_icmp_ge (tgt := 117) hx hb dX5_drawBy_109 rfl (fun c_32 => ?_) (fun c_32 => absurd c_32 (by decide +kernel))
          refine lv_iload hx hb dX5_drawBy_117 (lv_at hl 0 rfl) ?_
          have hK9 := hK.sub (tys' := []) [] rfl
          exact W.iret (v := 0) hx hb hr (fun t ht hW => ⟨⟨0, (w_22, w_27, h0_0_e1_2c, h0_0_e2_2c, h0_0_e3_2c), rfl, (Or.inl ⟨rfl, g_11, (RG_w g_25 (by decide +kernel))⟩), by rw [ht]; exact hP, va_K.moved hW.alike hK9, hD⟩, hS.F ht⟩) hS.2.2 dX5_drawBy_119
        · refine lv_istore (lv' := [(7, .int r_26), (0, .ref h0), (1, .int p1), (2, .int p2), (3, .int p3), (4, .int p4), (5, .int p5), (6, .int p6)]) hx hb dX5_drawBy_91 hl (Nat.le_of_ble_eq_true rfl) rfl (fun ls hl => ?_)
          refine lv_iload hx hb dX5_drawBy_93 (lv_at hl 0 rfl) ?_
          as_aux_lemma =>
          refine lv_bipush (v := 99) hx hb dX5_drawBy_95 kc_bipush_99 ?_
          refine lv_icmp_le (tgt := 105) hx hb dX5_drawBy_97 rfl (fun c_33 => ?_) (fun c_33 => ?_)
          · have g_34 : RG r_26 (-2147483648) 99 := RG_le1 h_29 (RG_k 99 99 rfl) c_33 (by decide +kernel)
            refine lv_iload hx hb dX5_drawBy_105 (lv_at hl 0 rfl) ?_
            refine lv_bipush (v := (-99)) hx hb dX5_drawBy_107 kc_bipush_m99 ?_
            refine lv_icmp_ge (tgt := 117) hx hb dX5_drawBy_109 rfl (fun c_35 => ?_) (fun c_35 => ?_)
            · have g_36 : RG r_26 (-99) 99 := RG_le2 (RG_k (-99) (-99) rfl) g_34 c_35 (by decide +kernel)
              refine lv_iload hx hb dX5_drawBy_117 (lv_at hl 0 rfl) ?_
              have hK9 := hK.sub (tys' := []) [] rfl
              exact W.iret (v := r_26) hx hb hr (fun t ht hW => ⟨⟨r_26, (w_22, w_27, h0_0_e1_2c, h0_0_e2_2c, h0_0_e3_2c), rfl, (Or.inr (Or.inl ⟨(RG_w g_36 (by decide +kernel)), (RG_w g_25 (by decide +kernel))⟩)), by rw [ht]; exact hP, va_K.moved hW.alike hK9, hD⟩, hS.F ht⟩) hS.2.2 dX5_drawBy_119
            · have d_37 := Int32.not_le.mp c_35
              have g_38 : RG r_26 (-2147483648) (-100) := RG_lt1 g_34 (RG_k (-99) (-99) rfl) d_37 (by decide +kernel)
              refine lv_bipush (v := (-99)) hx hb dX5_drawBy_112 kc_bipush_m99 ?_
              refine lv_goto (tgt := 119) hx hb dX5_drawBy_114 rfl ?_
              as_aux_lemma =>
              have hK9 := hK.sub (tys' := []) [] rfl
              exact W.iret (v := (-99)) hx hb hr (fun t ht hW => ⟨⟨(-99), (w_22, w_27, h0_0_e1_2c, h0_0_e2_2c, h0_0_e3_2c), rfl, (Or.inr (Or.inr (Or.inl ⟨rfl, g_11, (RG_w g_25 (by decide +kernel))⟩))), by rw [ht]; exact hP, va_K.moved hW.alike hK9, hD⟩, hS.F ht⟩) hS.2.2 dX5_drawBy_119
          · have d_39 := Int32.not_le.mp c_33
            have g_40 : RG r_26 100 2147483647 := RG_lt2 (RG_k 99 99 rfl) h_29 d_39 (by decide +kernel)
            refine lv_bipush (v := 99) hx hb dX5_drawBy_100 kc_bipush_99 ?_
            refine lv_goto (tgt := 119) hx hb dX5_drawBy_102 rfl ?_
            have hK9 := hK.sub (tys' := []) [] rfl
            exact W.iret (v := 99) hx hb hr (fun t ht hW => ⟨⟨99, (w_22, w_27, h0_0_e1_2c, h0_0_e2_2c, h0_0_e3_2c), rfl, (Or.inr (Or.inr (Or.inr ⟨rfl, g_11, (RG_w g_25 (by decide +kernel))⟩))), by rw [ht]; exact hP, va_K.moved hW.alike hK9, hD⟩, hS.F ht⟩) hS.2.2 dX5_drawBy_119
      by_cases c_41 : h0_f2 = 1
      · refine W.eq (g2 := F0 m 83 ls [.int 1, .ref h0_0]) (by rw [c_41]) ?_
        have g_42 : RG h0_f2 1 1 := RG_k _ _ (by rw [c_41]; rfl)
        refine va_aldq hx hb hK hP 2 1 rfl rfl (by unfold vp_in; decide) dX5_drawBy_83 ?_
        rw [show h0_0c (1 : Int32).toNatClampNeg = some h0_0_e1 from e_h0_0_e1]
        refine W.eq (g2 := F0 m 84 ls [.ref h0_0_e1]) rfl ?_
        as_aux_lemma =>
        refine lv_aload_n hx hb dX5_drawBy_84 rfl (lv_at hl 0 rfl) ?_
        refine va_get (D := (dC, dI)) (ci := 5) (v := .ref h0_3) (C := RX5) (T := TX5) (N := 4) hx hb hts iw_c_X5_drawBy_X5 hown hK hP 0 rfl rfl 3 (by decide +kernel) (hts (.fieldLink RX5 22 "BuoyVote$LawBook" "letters" "[I") (List.mem_of_getElem? (i := 3) rfl)) (fun _ h9 => h9) rfl dX5_drawBy_85 ?_
        obtain ⟨hPc, hDc, hFc, hqc⟩ := cl_cut (wc := (wd_c_X4_worth h0_0_e1 h0_0_e1_0 h0_0_e1_f1 h0_0_e1_2 h0_0_e1_0 h0_0_e1_0k h0_0_e1_0c h0_3 h0_3k w_22 h0_0_e1_2 h0_0_e1_2k h0_0_e1_2c)) hP hD hS hA [6, 7, 1, 8] (by decide +kernel) rfl
        have hKc := hK.sub (tys' := [(h0_0_e1_0k, .int), (h0_3k, .int), (h0_0_e1_2k, .int)]) [4, 0, 5] rfl
        have hrv := va_recv hKc hPc (ci := 4) (q0 := 0) rfl rfl
        refine va_calli (va_runV (As := [.ref h0_3]) (rest := []) ⟨hx, hb, hml, hown, hts⟩ (c_X4_worth l dC dI H.size h0_0_e1 h0_3 h0_0_e1_0 h0_0_e1_f1 h0_0_e1_2 h0_0_e1_0k h0_0_e1_0c h0_3k w_22 h0_0_e1_2k h0_0_e1_2c g_h0_0_e1_f1) (cwV 1 hts gf_c_X5_drawBy_c_X4_worth rfl rfl rfl mdV_X4_worth ⟨Nat.le_of_ble_eq_true rfl, Nat.le_of_ble_eq_true rfl⟩) ⟨fun a U g mk q => by obtain ⟨q0, q1, qP, qK, qD⟩ := q; exact ⟨q0, q1, qP, va_K.moved (u := U) (U := U.calling g mk a) (Vm.Alike.refl U.vm) qK, qD⟩, hrv, fun U hU hW => ⟨rfl, by rw [hU], by rw [hU]; exact hPc, va_K.moved hW.alike hKc, hDc.weaken (fun _ _ _ _ => trivial)⟩⟩ rfl rfl hl.1 rfl (lv_room (Nat.le_of_ble_eq_true rfl)) dX5_drawBy_88 ⟨Nat.le_of_ble_eq_true rfl, Nat.le_of_ble_eq_true rfl⟩) hS (fun q _ h => hFc q h) hFc (fun r_43 w_44 t H1 locs ht hvm hw hB hz1 hk1 hS => ?_)
        obtain ⟨hP1, hK1, hD1⟩ := hB
        rw [ht] at hP1
        obtain ⟨hP, hD⟩ := cl_put (w1 := (wd_c_X4_worth h0_0_e1 h0_0_e1_0 h0_0_e1_f1 h0_0_e1_2 h0_0_e1_0 h0_0_e1_0k h0_0_e1_0c h0_3 h0_3k w_22 h0_0_e1_2 h0_0_e1_2k w_44)) (nw := (wd_c_X5_drawBy h0 h0_0 h0_f1 h0_f2 h0_3 h0_3 h0_3k w_22 h0_0 h0_0k h0_0c h0_0_e0 h0_0_e0_0 h0_0_e0_f1 h0_0_e0_2 h0_0_e0_0 h0_0_e0_0k h0_0_e0_0c h0_0_e0_2 h0_0_e0_2k h0_0_e0_2c h0_0_e1 h0_0_e1_0 h0_0_e1_f1 h0_0_e1_2 h0_0_e1_0 h0_0_e1_0k h0_0_e1_0c h0_0_e1_2 h0_0_e1_2k w_44 h0_0_e2 h0_0_e2_0 h0_0_e2_f1 h0_0_e2_2 h0_0_e2_0 h0_0_e2_0k h0_0_e2_0c h0_0_e2_2 h0_0_e2_2k h0_0_e2_2c h0_0_e3 h0_0_e3_0 h0_0_e3_f1 h0_0_e3_2 h0_0_e3_0 h0_0_e3_0k h0_0_e3_0c h0_0_e3_2 h0_0_e3_2k h0_0_e3_2c)) hP hD [6, 7, 1, 8] [0, 17, 2, 3, 4, 5, 15, 16, 18, 9, 10, 11, 12, 13, 14] 15 rfl hqc (by decide +kernel) rfl hk1 hFc hP1 hD1
        generalize H1 = H at hP hS ⊢
        as_aux_lemma =>
        rcases hw with h_45 | ⟨h_46, h_47⟩
        · rw [h_45]
          refine lv_istore (lv' := [(7, .int 0), (0, .ref h0), (1, .int p1), (2, .int p2), (3, .int p3), (4, .int p4), (5, .int p5), (6, .int p6)]) hx hb dX5_drawBy_91 hl (Nat.le_of_ble_eq_true rfl) rfl (fun ls hl => ?_)
          refine lv_iload hx hb dX5_drawBy_93 (lv_at hl 0 rfl) ?_
          refine lv_bipush (v := 99) hx hb dX5_drawBy_95 kc_bipush_99 ?_
          refine lv_icmp_le (tgt := 105) hx hb dX5_drawBy_97 rfl (fun c_48 => ?_) (fun c_48 => absurd c_48 (by decide +kernel))
          refine lv_iload hx hb dX5_drawBy_105 (lv_at hl 0 rfl) ?_
          refine lv_bipush (v := (-99)) hx hb dX5_drawBy_107 kc_bipush_m99 ?_
          refine lv_icmp_ge (tgt := 117) hx hb dX5_drawBy_109 rfl (fun c_49 => ?_) (fun c_49 => absurd c_49 (by decide +kernel))
          refine lv_iload hx hb dX5_drawBy_117 (lv_at hl 0 rfl) ?_
          have hK9 := hK.sub (tys' := []) [] rfl
          exact W.iret (v := 0) hx hb hr (fun t ht hW => ⟨⟨0, (w_22, h0_0_e0_2c, w_44, h0_0_e2_2c, h0_0_e3_2c), rfl, (Or.inl ⟨rfl, g_11, (RG_w g_42 (by decide +kernel))⟩), by rw [ht]; exact hP, va_K.moved hW.alike hK9, hD⟩, hS.F ht⟩) hS.2.2 dX5_drawBy_119
        · refine lv_istore (lv' := [(7, .int r_43), (0, .ref h0), (1, .int p1), (2, .int p2), (3, .int p3), (4, .int p4), (5, .int p5), (6, .int p6)]) hx hb dX5_drawBy_91 hl (Nat.le_of_ble_eq_true rfl) rfl (fun ls hl => ?_)
          refine lv_iload hx hb dX5_drawBy_93 (lv_at hl 0 rfl) ?_
          as_aux_lemma =>
          refine lv_bipush (v := 99) hx hb dX5_drawBy_95 kc_bipush_99 ?_
          refine lv_icmp_le (tgt := 105) hx hb dX5_drawBy_97 rfl (fun c_50 => ?_) (fun c_50 => ?_)
          · have g_51 : RG r_43 (-2147483648) 99 := RG_le1 h_46 (RG_k 99 99 rfl) c_50 (by decide +kernel)
            refine lv_iload hx hb dX5_drawBy_105 (lv_at hl 0 rfl) ?_
            refine lv_bipush (v := (-99)) hx hb dX5_drawBy_107 kc_bipush_m99 ?_
            refine lv_icmp_ge (tgt := 117) hx hb dX5_drawBy_109 rfl (fun c_52 => ?_) (fun c_52 => ?_)
            · have g_53 : RG r_43 (-99) 99 := RG_le2 (RG_k (-99) (-99) rfl) g_51 c_52 (by decide +kernel)
              refine lv_iload hx hb dX5_drawBy_117 (lv_at hl 0 rfl) ?_
              have hK9 := hK.sub (tys' := []) [] rfl
              exact W.iret (v := r_43) hx hb hr (fun t ht hW => ⟨⟨r_43, (w_22, h0_0_e0_2c, w_44, h0_0_e2_2c, h0_0_e3_2c), rfl, (Or.inr (Or.inl ⟨(RG_w g_53 (by decide +kernel)), (RG_w g_42 (by decide +kernel))⟩)), by rw [ht]; exact hP, va_K.moved hW.alike hK9, hD⟩, hS.F ht⟩) hS.2.2 dX5_drawBy_119
            · have d_54 := Int32.not_le.mp c_52
              have g_55 : RG r_43 (-2147483648) (-100) := RG_lt1 g_51 (RG_k (-99) (-99) rfl) d_54 (by decide +kernel)
              refine lv_bipush (v := (-99)) hx hb dX5_drawBy_112 kc_bipush_m99 ?_
              refine lv_goto (tgt := 119) hx hb dX5_drawBy_114 rfl ?_
              as_aux_lemma =>
              have hK9 := hK.sub (tys' := []) [] rfl
              exact W.iret (v := (-99)) hx hb hr (fun t ht hW => ⟨⟨(-99), (w_22, h0_0_e0_2c, w_44, h0_0_e2_2c, h0_0_e3_2c), rfl, (Or.inr (Or.inr (Or.inl ⟨rfl, g_11, (RG_w g_42 (by decide +kernel))⟩))), by rw [ht]; exact hP, va_K.moved hW.alike hK9, hD⟩, hS.F ht⟩) hS.2.2 dX5_drawBy_119
          · have d_56 := Int32.not_le.mp c_50
            have g_57 : RG r_43 100 2147483647 := RG_lt2 (RG_k 99 99 rfl) h_46 d_56 (by decide +kernel)
            refine lv_bipush (v := 99) hx hb dX5_drawBy_100 kc_bipush_99 ?_
            refine lv_goto (tgt := 119) hx hb dX5_drawBy_102 rfl ?_
            have hK9 := hK.sub (tys' := []) [] rfl
            exact W.iret (v := 99) hx hb hr (fun t ht hW => ⟨⟨99, (w_22, h0_0_e0_2c, w_44, h0_0_e2_2c, h0_0_e3_2c), rfl, (Or.inr (Or.inr (Or.inr ⟨rfl, g_11, (RG_w g_42 (by decide +kernel))⟩))), by rw [ht]; exact hP, va_K.moved hW.alike hK9, hD⟩, hS.F ht⟩) hS.2.2 dX5_drawBy_119
      by_cases c_58 : h0_f2 = 2
      · refine W.eq (g2 := F0 m 83 ls [.int 2, .ref h0_0]) (by rw [c_58]) ?_
        have g_59 : RG h0_f2 2 2 := RG_k _ _ (by rw [c_58]; rfl)
        refine va_aldq hx hb hK hP 2 1 rfl rfl (by unfold vp_in; decide) dX5_drawBy_83 ?_
        rw [show h0_0c (2 : Int32).toNatClampNeg = some h0_0_e2 from e_h0_0_e2]
        refine W.eq (g2 := F0 m 84 ls [.ref h0_0_e2]) rfl ?_
        as_aux_lemma =>
        refine lv_aload_n hx hb dX5_drawBy_84 rfl (lv_at hl 0 rfl) ?_
        refine va_get (D := (dC, dI)) (ci := 5) (v := .ref h0_3) (C := RX5) (T := TX5) (N := 4) hx hb hts iw_c_X5_drawBy_X5 hown hK hP 0 rfl rfl 3 (by decide +kernel) (hts (.fieldLink RX5 22 "BuoyVote$LawBook" "letters" "[I") (List.mem_of_getElem? (i := 3) rfl)) (fun _ h9 => h9) rfl dX5_drawBy_85 ?_
        obtain ⟨hPc, hDc, hFc, hqc⟩ := cl_cut (wc := (wd_c_X4_worth h0_0_e2 h0_0_e2_0 h0_0_e2_f1 h0_0_e2_2 h0_0_e2_0 h0_0_e2_0k h0_0_e2_0c h0_3 h0_3k w_22 h0_0_e2_2 h0_0_e2_2k h0_0_e2_2c)) hP hD hS hA [9, 10, 1, 11] (by decide +kernel) rfl
        have hKc := hK.sub (tys' := [(h0_0_e2_0k, .int), (h0_3k, .int), (h0_0_e2_2k, .int)]) [6, 0, 7] rfl
        have hrv := va_recv hKc hPc (ci := 4) (q0 := 0) rfl rfl
        refine va_calli (va_runV (As := [.ref h0_3]) (rest := []) ⟨hx, hb, hml, hown, hts⟩ (c_X4_worth l dC dI H.size h0_0_e2 h0_3 h0_0_e2_0 h0_0_e2_f1 h0_0_e2_2 h0_0_e2_0k h0_0_e2_0c h0_3k w_22 h0_0_e2_2k h0_0_e2_2c g_h0_0_e2_f1) (cwV 1 hts gf_c_X5_drawBy_c_X4_worth rfl rfl rfl mdV_X4_worth ⟨Nat.le_of_ble_eq_true rfl, Nat.le_of_ble_eq_true rfl⟩) ⟨fun a U g mk q => by obtain ⟨q0, q1, qP, qK, qD⟩ := q; exact ⟨q0, q1, qP, va_K.moved (u := U) (U := U.calling g mk a) (Vm.Alike.refl U.vm) qK, qD⟩, hrv, fun U hU hW => ⟨rfl, by rw [hU], by rw [hU]; exact hPc, va_K.moved hW.alike hKc, hDc.weaken (fun _ _ _ _ => trivial)⟩⟩ rfl rfl hl.1 rfl (lv_room (Nat.le_of_ble_eq_true rfl)) dX5_drawBy_88 ⟨Nat.le_of_ble_eq_true rfl, Nat.le_of_ble_eq_true rfl⟩) hS (fun q _ h => hFc q h) hFc (fun r_60 w_61 t H1 locs ht hvm hw hB hz1 hk1 hS => ?_)
        obtain ⟨hP1, hK1, hD1⟩ := hB
        rw [ht] at hP1
        obtain ⟨hP, hD⟩ := cl_put (w1 := (wd_c_X4_worth h0_0_e2 h0_0_e2_0 h0_0_e2_f1 h0_0_e2_2 h0_0_e2_0 h0_0_e2_0k h0_0_e2_0c h0_3 h0_3k w_22 h0_0_e2_2 h0_0_e2_2k w_61)) (nw := (wd_c_X5_drawBy h0 h0_0 h0_f1 h0_f2 h0_3 h0_3 h0_3k w_22 h0_0 h0_0k h0_0c h0_0_e0 h0_0_e0_0 h0_0_e0_f1 h0_0_e0_2 h0_0_e0_0 h0_0_e0_0k h0_0_e0_0c h0_0_e0_2 h0_0_e0_2k h0_0_e0_2c h0_0_e1 h0_0_e1_0 h0_0_e1_f1 h0_0_e1_2 h0_0_e1_0 h0_0_e1_0k h0_0_e1_0c h0_0_e1_2 h0_0_e1_2k h0_0_e1_2c h0_0_e2 h0_0_e2_0 h0_0_e2_f1 h0_0_e2_2 h0_0_e2_0 h0_0_e2_0k h0_0_e2_0c h0_0_e2_2 h0_0_e2_2k w_61 h0_0_e3 h0_0_e3_0 h0_0_e3_f1 h0_0_e3_2 h0_0_e3_0 h0_0_e3_0k h0_0_e3_0c h0_0_e3_2 h0_0_e3_2k h0_0_e3_2c)) hP hD [9, 10, 1, 11] [0, 17, 2, 3, 4, 5, 6, 7, 8, 15, 16, 18, 12, 13, 14] 15 rfl hqc (by decide +kernel) rfl hk1 hFc hP1 hD1
        generalize H1 = H at hP hS ⊢
        as_aux_lemma =>
        rcases hw with h_62 | ⟨h_63, h_64⟩
        · rw [h_62]
          refine lv_istore (lv' := [(7, .int 0), (0, .ref h0), (1, .int p1), (2, .int p2), (3, .int p3), (4, .int p4), (5, .int p5), (6, .int p6)]) hx hb dX5_drawBy_91 hl (Nat.le_of_ble_eq_true rfl) rfl (fun ls hl => ?_)
          refine lv_iload hx hb dX5_drawBy_93 (lv_at hl 0 rfl) ?_
          refine lv_bipush (v := 99) hx hb dX5_drawBy_95 kc_bipush_99 ?_
          refine lv_icmp_le (tgt := 105) hx hb dX5_drawBy_97 rfl (fun c_65 => ?_) (fun c_65 => absurd c_65 (by decide +kernel))
          refine lv_iload hx hb dX5_drawBy_105 (lv_at hl 0 rfl) ?_
          refine lv_bipush (v := (-99)) hx hb dX5_drawBy_107 kc_bipush_m99 ?_
          refine lv_icmp_ge (tgt := 117) hx hb dX5_drawBy_109 rfl (fun c_66 => ?_) (fun c_66 => absurd c_66 (by decide +kernel))
          refine lv_iload hx hb dX5_drawBy_117 (lv_at hl 0 rfl) ?_
          have hK9 := hK.sub (tys' := []) [] rfl
          exact W.iret (v := 0) hx hb hr (fun t ht hW => ⟨⟨0, (w_22, h0_0_e0_2c, h0_0_e1_2c, w_61, h0_0_e3_2c), rfl, (Or.inl ⟨rfl, g_11, (RG_w g_59 (by decide +kernel))⟩), by rw [ht]; exact hP, va_K.moved hW.alike hK9, hD⟩, hS.F ht⟩) hS.2.2 dX5_drawBy_119
        · refine lv_istore (lv' := [(7, .int r_60), (0, .ref h0), (1, .int p1), (2, .int p2), (3, .int p3), (4, .int p4), (5, .int p5), (6, .int p6)]) hx hb dX5_drawBy_91 hl (Nat.le_of_ble_eq_true rfl) rfl (fun ls hl => ?_)
          refine lv_iload hx hb dX5_drawBy_93 (lv_at hl 0 rfl) ?_
          as_aux_lemma =>
          refine lv_bipush (v := 99) hx hb dX5_drawBy_95 kc_bipush_99 ?_
          refine lv_icmp_le (tgt := 105) hx hb dX5_drawBy_97 rfl (fun c_67 => ?_) (fun c_67 => ?_)
          · have g_68 : RG r_60 (-2147483648) 99 := RG_le1 h_63 (RG_k 99 99 rfl) c_67 (by decide +kernel)
            refine lv_iload hx hb dX5_drawBy_105 (lv_at hl 0 rfl) ?_
            refine lv_bipush (v := (-99)) hx hb dX5_drawBy_107 kc_bipush_m99 ?_
            refine lv_icmp_ge (tgt := 117) hx hb dX5_drawBy_109 rfl (fun c_69 => ?_) (fun c_69 => ?_)
            · have g_70 : RG r_60 (-99) 99 := RG_le2 (RG_k (-99) (-99) rfl) g_68 c_69 (by decide +kernel)
              refine lv_iload hx hb dX5_drawBy_117 (lv_at hl 0 rfl) ?_
              have hK9 := hK.sub (tys' := []) [] rfl
              exact W.iret (v := r_60) hx hb hr (fun t ht hW => ⟨⟨r_60, (w_22, h0_0_e0_2c, h0_0_e1_2c, w_61, h0_0_e3_2c), rfl, (Or.inr (Or.inl ⟨(RG_w g_70 (by decide +kernel)), (RG_w g_59 (by decide +kernel))⟩)), by rw [ht]; exact hP, va_K.moved hW.alike hK9, hD⟩, hS.F ht⟩) hS.2.2 dX5_drawBy_119
            · have d_71 := Int32.not_le.mp c_69
              have g_72 : RG r_60 (-2147483648) (-100) := RG_lt1 g_68 (RG_k (-99) (-99) rfl) d_71 (by decide +kernel)
              refine lv_bipush (v := (-99)) hx hb dX5_drawBy_112 kc_bipush_m99 ?_
              refine lv_goto (tgt := 119) hx hb dX5_drawBy_114 rfl ?_
              as_aux_lemma =>
              have hK9 := hK.sub (tys' := []) [] rfl
              exact W.iret (v := (-99)) hx hb hr (fun t ht hW => ⟨⟨(-99), (w_22, h0_0_e0_2c, h0_0_e1_2c, w_61, h0_0_e3_2c), rfl, (Or.inr (Or.inr (Or.inl ⟨rfl, g_11, (RG_w g_59 (by decide +kernel))⟩))), by rw [ht]; exact hP, va_K.moved hW.alike hK9, hD⟩, hS.F ht⟩) hS.2.2 dX5_drawBy_119
          · have d_73 := Int32.not_le.mp c_67
            have g_74 : RG r_60 100 2147483647 := RG_lt2 (RG_k 99 99 rfl) h_63 d_73 (by decide +kernel)
            refine lv_bipush (v := 99) hx hb dX5_drawBy_100 kc_bipush_99 ?_
            refine lv_goto (tgt := 119) hx hb dX5_drawBy_102 rfl ?_
            have hK9 := hK.sub (tys' := []) [] rfl
            exact W.iret (v := 99) hx hb hr (fun t ht hW => ⟨⟨99, (w_22, h0_0_e0_2c, h0_0_e1_2c, w_61, h0_0_e3_2c), rfl, (Or.inr (Or.inr (Or.inr ⟨rfl, g_11, (RG_w g_59 (by decide +kernel))⟩))), by rw [ht]; exact hP, va_K.moved hW.alike hK9, hD⟩, hS.F ht⟩) hS.2.2 dX5_drawBy_119
      by_cases c_75 : h0_f2 = 3
      · refine W.eq (g2 := F0 m 83 ls [.int 3, .ref h0_0]) (by rw [c_75]) ?_
        have g_76 : RG h0_f2 3 3 := RG_k _ _ (by rw [c_75]; rfl)
        refine va_aldq hx hb hK hP 2 1 rfl rfl (by unfold vp_in; decide) dX5_drawBy_83 ?_
        rw [show h0_0c (3 : Int32).toNatClampNeg = some h0_0_e3 from e_h0_0_e3]
        refine W.eq (g2 := F0 m 84 ls [.ref h0_0_e3]) rfl ?_
        as_aux_lemma =>
        refine lv_aload_n hx hb dX5_drawBy_84 rfl (lv_at hl 0 rfl) ?_
        refine va_get (D := (dC, dI)) (ci := 5) (v := .ref h0_3) (C := RX5) (T := TX5) (N := 4) hx hb hts iw_c_X5_drawBy_X5 hown hK hP 0 rfl rfl 3 (by decide +kernel) (hts (.fieldLink RX5 22 "BuoyVote$LawBook" "letters" "[I") (List.mem_of_getElem? (i := 3) rfl)) (fun _ h9 => h9) rfl dX5_drawBy_85 ?_
        obtain ⟨hPc, hDc, hFc, hqc⟩ := cl_cut (wc := (wd_c_X4_worth h0_0_e3 h0_0_e3_0 h0_0_e3_f1 h0_0_e3_2 h0_0_e3_0 h0_0_e3_0k h0_0_e3_0c h0_3 h0_3k w_22 h0_0_e3_2 h0_0_e3_2k h0_0_e3_2c)) hP hD hS hA [12, 13, 1, 14] (by decide +kernel) rfl
        have hKc := hK.sub (tys' := [(h0_0_e3_0k, .int), (h0_3k, .int), (h0_0_e3_2k, .int)]) [8, 0, 9] rfl
        have hrv := va_recv hKc hPc (ci := 4) (q0 := 0) rfl rfl
        refine va_calli (va_runV (As := [.ref h0_3]) (rest := []) ⟨hx, hb, hml, hown, hts⟩ (c_X4_worth l dC dI H.size h0_0_e3 h0_3 h0_0_e3_0 h0_0_e3_f1 h0_0_e3_2 h0_0_e3_0k h0_0_e3_0c h0_3k w_22 h0_0_e3_2k h0_0_e3_2c g_h0_0_e3_f1) (cwV 1 hts gf_c_X5_drawBy_c_X4_worth rfl rfl rfl mdV_X4_worth ⟨Nat.le_of_ble_eq_true rfl, Nat.le_of_ble_eq_true rfl⟩) ⟨fun a U g mk q => by obtain ⟨q0, q1, qP, qK, qD⟩ := q; exact ⟨q0, q1, qP, va_K.moved (u := U) (U := U.calling g mk a) (Vm.Alike.refl U.vm) qK, qD⟩, hrv, fun U hU hW => ⟨rfl, by rw [hU], by rw [hU]; exact hPc, va_K.moved hW.alike hKc, hDc.weaken (fun _ _ _ _ => trivial)⟩⟩ rfl rfl hl.1 rfl (lv_room (Nat.le_of_ble_eq_true rfl)) dX5_drawBy_88 ⟨Nat.le_of_ble_eq_true rfl, Nat.le_of_ble_eq_true rfl⟩) hS (fun q _ h => hFc q h) hFc (fun r_77 w_78 t H1 locs ht hvm hw hB hz1 hk1 hS => ?_)
        obtain ⟨hP1, hK1, hD1⟩ := hB
        rw [ht] at hP1
        obtain ⟨hP, hD⟩ := cl_put (w1 := (wd_c_X4_worth h0_0_e3 h0_0_e3_0 h0_0_e3_f1 h0_0_e3_2 h0_0_e3_0 h0_0_e3_0k h0_0_e3_0c h0_3 h0_3k w_22 h0_0_e3_2 h0_0_e3_2k w_78)) (nw := (wd_c_X5_drawBy h0 h0_0 h0_f1 h0_f2 h0_3 h0_3 h0_3k w_22 h0_0 h0_0k h0_0c h0_0_e0 h0_0_e0_0 h0_0_e0_f1 h0_0_e0_2 h0_0_e0_0 h0_0_e0_0k h0_0_e0_0c h0_0_e0_2 h0_0_e0_2k h0_0_e0_2c h0_0_e1 h0_0_e1_0 h0_0_e1_f1 h0_0_e1_2 h0_0_e1_0 h0_0_e1_0k h0_0_e1_0c h0_0_e1_2 h0_0_e1_2k h0_0_e1_2c h0_0_e2 h0_0_e2_0 h0_0_e2_f1 h0_0_e2_2 h0_0_e2_0 h0_0_e2_0k h0_0_e2_0c h0_0_e2_2 h0_0_e2_2k h0_0_e2_2c h0_0_e3 h0_0_e3_0 h0_0_e3_f1 h0_0_e3_2 h0_0_e3_0 h0_0_e3_0k h0_0_e3_0c h0_0_e3_2 h0_0_e3_2k w_78)) hP hD [12, 13, 1, 14] [0, 17, 2, 3, 4, 5, 6, 7, 8, 9, 10, 11, 15, 16, 18] 15 rfl hqc (by decide +kernel) rfl hk1 hFc hP1 hD1
        generalize H1 = H at hP hS ⊢
        as_aux_lemma =>
        rcases hw with h_79 | ⟨h_80, h_81⟩
        · rw [h_79]
          refine lv_istore (lv' := [(7, .int 0), (0, .ref h0), (1, .int p1), (2, .int p2), (3, .int p3), (4, .int p4), (5, .int p5), (6, .int p6)]) hx hb dX5_drawBy_91 hl (Nat.le_of_ble_eq_true rfl) rfl (fun ls hl => ?_)
          refine lv_iload hx hb dX5_drawBy_93 (lv_at hl 0 rfl) ?_
          refine lv_bipush (v := 99) hx hb dX5_drawBy_95 kc_bipush_99 ?_
          refine lv_icmp_le (tgt := 105) hx hb dX5_drawBy_97 rfl (fun c_82 => ?_) (fun c_82 => absurd c_82 (by decide +kernel))
          refine lv_iload hx hb dX5_drawBy_105 (lv_at hl 0 rfl) ?_
          refine lv_bipush (v := (-99)) hx hb dX5_drawBy_107 kc_bipush_m99 ?_
          refine lv_icmp_ge (tgt := 117) hx hb dX5_drawBy_109 rfl (fun c_83 => ?_) (fun c_83 => absurd c_83 (by decide +kernel))
          refine lv_iload hx hb dX5_drawBy_117 (lv_at hl 0 rfl) ?_
          have hK9 := hK.sub (tys' := []) [] rfl
          exact W.iret (v := 0) hx hb hr (fun t ht hW => ⟨⟨0, (w_22, h0_0_e0_2c, h0_0_e1_2c, h0_0_e2_2c, w_78), rfl, (Or.inl ⟨rfl, g_11, (RG_w g_76 (by decide +kernel))⟩), by rw [ht]; exact hP, va_K.moved hW.alike hK9, hD⟩, hS.F ht⟩) hS.2.2 dX5_drawBy_119
        · refine lv_istore (lv' := [(7, .int r_77), (0, .ref h0), (1, .int p1), (2, .int p2), (3, .int p3), (4, .int p4), (5, .int p5), (6, .int p6)]) hx hb dX5_drawBy_91 hl (Nat.le_of_ble_eq_true rfl) rfl (fun ls hl => ?_)
          refine lv_iload hx hb dX5_drawBy_93 (lv_at hl 0 rfl) ?_
          as_aux_lemma =>
          refine lv_bipush (v := 99) hx hb dX5_drawBy_95 kc_bipush_99 ?_
          refine lv_icmp_le (tgt := 105) hx hb dX5_drawBy_97 rfl (fun c_84 => ?_) (fun c_84 => ?_)
          · have g_85 : RG r_77 (-2147483648) 99 := RG_le1 h_80 (RG_k 99 99 rfl) c_84 (by decide +kernel)
            refine lv_iload hx hb dX5_drawBy_105 (lv_at hl 0 rfl) ?_
            refine lv_bipush (v := (-99)) hx hb dX5_drawBy_107 kc_bipush_m99 ?_
            refine lv_icmp_ge (tgt := 117) hx hb dX5_drawBy_109 rfl (fun c_86 => ?_) (fun c_86 => ?_)
            · have g_87 : RG r_77 (-99) 99 := RG_le2 (RG_k (-99) (-99) rfl) g_85 c_86 (by decide +kernel)
              refine lv_iload hx hb dX5_drawBy_117 (lv_at hl 0 rfl) ?_
              have hK9 := hK.sub (tys' := []) [] rfl
              exact W.iret (v := r_77) hx hb hr (fun t ht hW => ⟨⟨r_77, (w_22, h0_0_e0_2c, h0_0_e1_2c, h0_0_e2_2c, w_78), rfl, (Or.inr (Or.inl ⟨(RG_w g_87 (by decide +kernel)), (RG_w g_76 (by decide +kernel))⟩)), by rw [ht]; exact hP, va_K.moved hW.alike hK9, hD⟩, hS.F ht⟩) hS.2.2 dX5_drawBy_119
            · have d_88 := Int32.not_le.mp c_86
              have g_89 : RG r_77 (-2147483648) (-100) := RG_lt1 g_85 (RG_k (-99) (-99) rfl) d_88 (by decide +kernel)
              refine lv_bipush (v := (-99)) hx hb dX5_drawBy_112 kc_bipush_m99 ?_
              refine lv_goto (tgt := 119) hx hb dX5_drawBy_114 rfl ?_
              as_aux_lemma =>
              have hK9 := hK.sub (tys' := []) [] rfl
              exact W.iret (v := (-99)) hx hb hr (fun t ht hW => ⟨⟨(-99), (w_22, h0_0_e0_2c, h0_0_e1_2c, h0_0_e2_2c, w_78), rfl, (Or.inr (Or.inr (Or.inl ⟨rfl, g_11, (RG_w g_76 (by decide +kernel))⟩))), by rw [ht]; exact hP, va_K.moved hW.alike hK9, hD⟩, hS.F ht⟩) hS.2.2 dX5_drawBy_119
          · have d_90 := Int32.not_le.mp c_84
            have g_91 : RG r_77 100 2147483647 := RG_lt2 (RG_k 99 99 rfl) h_80 d_90 (by decide +kernel)
            refine lv_bipush (v := 99) hx hb dX5_drawBy_100 kc_bipush_99 ?_
            refine lv_goto (tgt := 119) hx hb dX5_drawBy_102 rfl ?_
            have hK9 := hK.sub (tys' := []) [] rfl
            exact W.iret (v := 99) hx hb hr (fun t ht hW => ⟨⟨99, (w_22, h0_0_e0_2c, h0_0_e1_2c, h0_0_e2_2c, w_78), rfl, (Or.inr (Or.inr (Or.inr ⟨rfl, g_11, (RG_w g_76 (by decide +kernel))⟩))), by rw [ht]; exact hP, va_K.moved hW.alike hK9, hD⟩, hS.F ht⟩) hS.2.2 dX5_drawBy_119
      exfalso
      have zc_24 := lv_neT c_24 (a := 0) (by decide +kernel)
      have zc_41 := lv_neT c_41 (a := 1) (by decide +kernel)
      have zc_58 := lv_neT c_58 (a := 2) (by decide +kernel)
      have zc_75 := lv_neT c_75 (a := 3) (by decide +kernel)
      have zg1 := (g_10).1
      have zg2 := (g_10).2
      omega
    · have d_92 := Int32.not_lt.mp c_9
      exact hU _ _ _ (J18 g_h0_0_e0_f1 g_h0_0_e1_f1 g_h0_0_e2_f1 g_h0_0_e3_f1 g_h0_f1 (RG_w g_8 (by decide +kernel)) g_p1 g_p3 _ _ _ hP hD hS (lv_sub hl [1, 2, 3, 4, 5] rfl))
noncomputable def wd_c_X5_drawBy_1 (a0 : Nat) (a1 : Nat) (a2 : Int32) (a3 : Int32) (a4 : Nat) (a5 : Nat) (a6 : ClassId) (a7 : Nat → Int32) (a8 : Nat) (a9 : ClassId) (a10 : Nat → Option Nat) (a11 : Nat) (a12 : Nat) (a13 : Int32) (a14 : Nat) (a15 : Nat) (a16 : ClassId) (a17 : Nat → Int32) (a18 : Nat) (a19 : ClassId) (a20 : Nat → Int32) (a21 : Nat) (a22 : Nat) (a23 : Int32) (a24 : Nat) (a25 : Nat) (a26 : ClassId) (a27 : Nat → Int32) (a28 : Nat) (a29 : ClassId) (a30 : Nat → Int32) (a31 : Nat) (a32 : Nat) (a33 : Int32) (a34 : Nat) (a35 : Nat) (a36 : ClassId) (a37 : Nat → Int32) (a38 : Nat) (a39 : ClassId) (a40 : Nat → Int32) (a41 : Nat) (a42 : Nat) (a43 : Int32) (a44 : Nat) (a45 : Nat) (a46 : ClassId) (a47 : Nat → Int32) (a48 : Nat) (a49 : ClassId) (a50 : Nat → Int32) : va_W := [(a0, .inr (5, [.ref a1, .int a2, .int a3, .ref a4])), (a5, .inl (a6, 6, .inl a7)), (a8, .inl (a9, 5, .inr (.inr (.inr (.inr a10))))), (a11, .inr (4, [.ref a12, .int a13, .ref a14])), (a15, .inl (a16, 240, .inl a17)), (a18, .inl (a19, 64, .inl a20)), (a21, .inr (4, [.ref a22, .int a23, .ref a24])), (a25, .inl (a26, 240, .inl a27)), (a28, .inl (a29, 64, .inl a30)), (a31, .inr (4, [.ref a32, .int a33, .ref a34])), (a35, .inl (a36, 240, .inl a37)), (a38, .inl (a39, 64, .inl a40)), (a41, .inr (4, [.ref a42, .int a43, .ref a44])), (a45, .inl (a46, 240, .inl a47)), (a48, .inl (a49, 64, .inl a50))]
noncomputable def wf_c_X5_drawBy_1 : List Cond := List.cons (.code yX5_drawBy cX5_drawBy 8 (some .int)) (@HAppend.hAppend (List Cond) (List Cond) (List Cond) _ (@HAppend.hAppend (List Cond) (List Cond) (List Cond) _ [.fieldLink RX5 18 "BuoyVote$LawBook" "holding" "I", .fieldLink RX5 26 "BuoyVote$LawBook" "size" "I", .fieldLink RX5 22 "BuoyVote$LawBook" "letters" "[I", .fieldLink RX5 11 "BuoyVote$LawBook" "laws" "[LBuoyVote$Law;", .methodLink RX5 29 yX4_worth, .instanceMethod yX4_worth, .selects RX4 yX4_worth yX4_worth, .initialized RX4, .code yX4_worth cX4_worth 6 (some .int), .fieldLink RX4 20 "BuoyVote$Law" "length" "I", .fieldLink RX4 11 "BuoyVote$Law" "code" "[I", .fieldLink RX4 17 "BuoyVote$Law" "stack" "[I", .methodLink RX4 24 yX4_joinedAt, .instanceMethod yX4_joinedAt, .selects RX4 yX4_joinedAt yX4_joinedAt, .code yX4_joinedAt cX4_joinedAt 7 (some .int), .constantLong RX4 28 (1000000), .constantLong RX4 31 (-1000000), .constant RX4 33 (-1000000), .constant RX4 30 (1000000)] wsX50) wsX40)
theorem iw_c_X5_drawBy_1_X5 : ∀ w ∈ wsX50, w ∈ wf_c_X5_drawBy_1 := fun w h => List.mem_cons_of_mem _ (List.mem_append_left _ (List.mem_append_right _ h))
theorem iw_c_X5_drawBy_1_X4 : ∀ w ∈ wsX40, w ∈ wf_c_X5_drawBy_1 := fun w h => List.mem_cons_of_mem _ (List.mem_append_right _ h)
set_option maxRecDepth 20000 in
theorem gf_c_X5_drawBy_1_c_X4_worth : GoodIn wf_c_X5_drawBy_1 (wsV RX5 29 RX4 yX4_worth wf_c_X4_worth) := goodIn_app (gi_l [5, 6, 7, 8] rfl rfl) (gi_cons (j := 9) rfl rfl (goodIn_app (gi_l [10, 11, 12, 13, 14, 15, 8, 16, 17, 18, 19, 20] rfl rfl) (goodIn_sub iw_c_X5_drawBy_1_X4 gw_X4)))
set_option maxHeartbeats 4000000 in
set_option maxRecDepth 100000 in
theorem c_X5_drawBy_1 (l : Launch) (dC : Nat → ClassId) (dI : Nat → Nat → Nat) (sz : Nat) (h0 : Nat) (p1 : Int32) (p2 : Int32) (p3 : Int32) (p4 : Int32) (p5 : Int32) (p6 : Int32) (h0_0 : Nat) (h0_f1 : Int32) (h0_f2 : Int32) (h0_3 : Nat) (h0_3k : ClassId) (h0_3c : Nat → Int32) (h0_0k : ClassId) (h0_0c : Nat → Option Nat) (h0_0_e0 : Nat) (h0_0_e1 : Nat) (h0_0_e2 : Nat) (h0_0_e3 : Nat) (h0_0_e4 : Nat) (h0_0_e0_0 : Nat) (h0_0_e0_f1 : Int32) (h0_0_e0_2 : Nat) (h0_0_e0_0k : ClassId) (h0_0_e0_0c : Nat → Int32) (h0_0_e0_2k : ClassId) (h0_0_e0_2c : Nat → Int32) (h0_0_e1_0 : Nat) (h0_0_e1_f1 : Int32) (h0_0_e1_2 : Nat) (h0_0_e1_0k : ClassId) (h0_0_e1_0c : Nat → Int32) (h0_0_e1_2k : ClassId) (h0_0_e1_2c : Nat → Int32) (h0_0_e2_0 : Nat) (h0_0_e2_f1 : Int32) (h0_0_e2_2 : Nat) (h0_0_e2_0k : ClassId) (h0_0_e2_0c : Nat → Int32) (h0_0_e2_2k : ClassId) (h0_0_e2_2c : Nat → Int32) (h0_0_e3_0 : Nat) (h0_0_e3_f1 : Int32) (h0_0_e3_2 : Nat) (h0_0_e3_0k : ClassId) (h0_0_e3_0c : Nat → Int32) (h0_0_e3_2k : ClassId) (h0_0_e3_2c : Nat → Int32) (g_p1 : RG p1 (-1) 99) (g_h0_f1 : RG h0_f1 0 4) (e_h0_0_e0 : h0_0c 0 = some h0_0_e0) (e_h0_0_e1 : h0_0c 1 = some h0_0_e1) (e_h0_0_e2 : h0_0c 2 = some h0_0_e2) (e_h0_0_e3 : h0_0c 3 = some h0_0_e3) (e_h0_0_e4 : h0_0c 4 = some h0_0_e4) (g_h0_0_e0_f1 : RG h0_0_e0_f1 0 240) (g_h0_0_e1_f1 : RG h0_0_e1_f1 0 240) (g_h0_0_e2_f1 : RG h0_0_e2_f1 0 240) (g_h0_0_e3_f1 : RG h0_0_e3_f1 0 240) : Met l yX5_drawBy wf_c_X5_drawBy_1 ({ frames := 2, cells := 0, slots := 0, locals := 51 }) (va_Pc [.ref h0, .int p1, .int p2, .int p3, .int p4, .int p5, .int p6] (fun U => U.heap.size = sz ∧ va_P (dC, dI) vwCl (wd_c_X5_drawBy_1 h0 h0_0 h0_f1 h0_f2 h0_3 h0_3 h0_3k h0_3c h0_0 h0_0k h0_0c h0_0_e0 h0_0_e0_0 h0_0_e0_f1 h0_0_e0_2 h0_0_e0_0 h0_0_e0_0k h0_0_e0_0c h0_0_e0_2 h0_0_e0_2k h0_0_e0_2c h0_0_e1 h0_0_e1_0 h0_0_e1_f1 h0_0_e1_2 h0_0_e1_0 h0_0_e1_0k h0_0_e1_0c h0_0_e1_2 h0_0_e1_2k h0_0_e1_2c h0_0_e2 h0_0_e2_0 h0_0_e2_f1 h0_0_e2_2 h0_0_e2_0 h0_0_e2_0k h0_0_e2_0c h0_0_e2_2 h0_0_e2_2k h0_0_e2_2c h0_0_e3 h0_0_e3_0 h0_0_e3_f1 h0_0_e3_2 h0_0_e3_0 h0_0_e3_0k h0_0_e3_0c h0_0_e3_2 h0_0_e3_2k h0_0_e3_2c) U.heap ∧ va_K (dC, dI) vwCl [(h0_3k, .int), (h0_0k, .object RX4), (h0_0_e0_0k, .int), (h0_0_e0_2k, .int), (h0_0_e1_0k, .int), (h0_0_e1_2k, .int), (h0_0_e2_0k, .int), (h0_0_e2_2k, .int), (h0_0_e3_0k, .int), (h0_0_e3_2k, .int)] U ∧ va_D (fun _ => True) (wd_c_X5_drawBy_1 h0 h0_0 h0_f1 h0_f2 h0_3 h0_3 h0_3k h0_3c h0_0 h0_0k h0_0c h0_0_e0 h0_0_e0_0 h0_0_e0_f1 h0_0_e0_2 h0_0_e0_0 h0_0_e0_0k h0_0_e0_0c h0_0_e0_2 h0_0_e0_2k h0_0_e0_2c h0_0_e1 h0_0_e1_0 h0_0_e1_f1 h0_0_e1_2 h0_0_e1_0 h0_0_e1_0k h0_0_e1_0c h0_0_e1_2 h0_0_e1_2k h0_0_e1_2c h0_0_e2 h0_0_e2_0 h0_0_e2_f1 h0_0_e2_2 h0_0_e2_0 h0_0_e2_0k h0_0_e2_0c h0_0_e2_2 h0_0_e2_2k h0_0_e2_2c h0_0_e3 h0_0_e3_0 h0_0_e3_f1 h0_0_e3_2 h0_0_e3_0 h0_0_e3_0k h0_0_e3_0c h0_0_e3_2 h0_0_e3_2k h0_0_e3_2c))) (va_Qi (fun (r : Int32) (u : (Nat → Int32) × (Nat → Int32) × (Nat → Int32) × (Nat → Int32) × (Nat → Int32)) => (r = 0 ∧ RG h0_f1 1 4 ∧ RG h0_f2 0 3) ∨ (RG r (-2147483648) 2147483647 ∧ RG h0_f2 (-2147483648) 2147483647) ∨ (r = (-99) ∧ RG h0_f1 1 4 ∧ RG h0_f2 0 3) ∨ (r = 99 ∧ RG h0_f1 1 4 ∧ RG h0_f2 0 3)) (fun (u : (Nat → Int32) × (Nat → Int32) × (Nat → Int32) × (Nat → Int32) × (Nat → Int32)) t => va_P (dC, dI) vwCl (wd_c_X5_drawBy_1 h0 h0_0 h0_f1 h0_f2 h0_3 h0_3 h0_3k (u.1) h0_0 h0_0k h0_0c h0_0_e0 h0_0_e0_0 h0_0_e0_f1 h0_0_e0_2 h0_0_e0_0 h0_0_e0_0k h0_0_e0_0c h0_0_e0_2 h0_0_e0_2k (u.2.1) h0_0_e1 h0_0_e1_0 h0_0_e1_f1 h0_0_e1_2 h0_0_e1_0 h0_0_e1_0k h0_0_e1_0c h0_0_e1_2 h0_0_e1_2k (u.2.2.1) h0_0_e2 h0_0_e2_0 h0_0_e2_f1 h0_0_e2_2 h0_0_e2_0 h0_0_e2_0k h0_0_e2_0c h0_0_e2_2 h0_0_e2_2k (u.2.2.2.1) h0_0_e3 h0_0_e3_0 h0_0_e3_f1 h0_0_e3_2 h0_0_e3_0 h0_0_e3_0k h0_0_e3_0c h0_0_e3_2 h0_0_e3_2k (u.2.2.2.2)) t.heap ∧ va_K (dC, dI) vwCl [] t ∧ va_D (va_A (wd_c_X5_drawBy_1 h0 h0_0 h0_f1 h0_f2 h0_3 h0_3 h0_3k h0_3c h0_0 h0_0k h0_0c h0_0_e0 h0_0_e0_0 h0_0_e0_f1 h0_0_e0_2 h0_0_e0_0 h0_0_e0_0k h0_0_e0_0c h0_0_e0_2 h0_0_e0_2k h0_0_e0_2c h0_0_e1 h0_0_e1_0 h0_0_e1_f1 h0_0_e1_2 h0_0_e1_0 h0_0_e1_0k h0_0_e1_0c h0_0_e1_2 h0_0_e1_2k h0_0_e1_2c h0_0_e2 h0_0_e2_0 h0_0_e2_f1 h0_0_e2_2 h0_0_e2_0 h0_0_e2_0k h0_0_e2_0c h0_0_e2_2 h0_0_e2_2k h0_0_e2_2c h0_0_e3 h0_0_e3_0 h0_0_e3_f1 h0_0_e3_2 h0_0_e3_0 h0_0_e3_0k h0_0_e3_0c h0_0_e3_2 h0_0_e3_2k h0_0_e3_2c) sz) (wd_c_X5_drawBy_1 h0 h0_0 h0_f1 h0_f2 h0_3 h0_3 h0_3k (u.1) h0_0 h0_0k h0_0c h0_0_e0 h0_0_e0_0 h0_0_e0_f1 h0_0_e0_2 h0_0_e0_0 h0_0_e0_0k h0_0_e0_0c h0_0_e0_2 h0_0_e0_2k (u.2.1) h0_0_e1 h0_0_e1_0 h0_0_e1_f1 h0_0_e1_2 h0_0_e1_0 h0_0_e1_0k h0_0_e1_0c h0_0_e1_2 h0_0_e1_2k (u.2.2.1) h0_0_e2 h0_0_e2_0 h0_0_e2_f1 h0_0_e2_2 h0_0_e2_0 h0_0_e2_0k h0_0_e2_0c h0_0_e2_2 h0_0_e2_2k (u.2.2.2.1) h0_0_e3 h0_0_e3_0 h0_0_e3_f1 h0_0_e3_2 h0_0_e3_0 h0_0_e3_0k h0_0_e3_0c h0_0_e3_2 h0_0_e3_2k (u.2.2.2.2))) (va_A (wd_c_X5_drawBy_1 h0 h0_0 h0_f1 h0_f2 h0_3 h0_3 h0_3k h0_3c h0_0 h0_0k h0_0c h0_0_e0 h0_0_e0_0 h0_0_e0_f1 h0_0_e0_2 h0_0_e0_0 h0_0_e0_0k h0_0_e0_0c h0_0_e0_2 h0_0_e0_2k h0_0_e0_2c h0_0_e1 h0_0_e1_0 h0_0_e1_f1 h0_0_e1_2 h0_0_e1_0 h0_0_e1_0k h0_0_e1_0c h0_0_e1_2 h0_0_e1_2k h0_0_e1_2c h0_0_e2 h0_0_e2_0 h0_0_e2_f1 h0_0_e2_2 h0_0_e2_0 h0_0_e2_0k h0_0_e2_0c h0_0_e2_2 h0_0_e2_2k h0_0_e2_2c h0_0_e3 h0_0_e3_0 h0_0_e3_f1 h0_0_e3_2 h0_0_e3_0 h0_0_e3_0k h0_0_e3_0c h0_0_e3_2 h0_0_e3_2k h0_0_e3_2c) sz)) 0 0 (va_A (wd_c_X5_drawBy_1 h0 h0_0 h0_f1 h0_f2 h0_3 h0_3 h0_3k h0_3c h0_0 h0_0k h0_0c h0_0_e0 h0_0_e0_0 h0_0_e0_f1 h0_0_e0_2 h0_0_e0_0 h0_0_e0_0k h0_0_e0_0c h0_0_e0_2 h0_0_e0_2k h0_0_e0_2c h0_0_e1 h0_0_e1_0 h0_0_e1_f1 h0_0_e1_2 h0_0_e1_0 h0_0_e1_0k h0_0_e1_0c h0_0_e1_2 h0_0_e1_2k h0_0_e1_2c h0_0_e2 h0_0_e2_0 h0_0_e2_f1 h0_0_e2_2 h0_0_e2_0 h0_0_e2_0k h0_0_e2_0c h0_0_e2_2 h0_0_e2_2k h0_0_e2_2c h0_0_e3 h0_0_e3_0 h0_0_e3_f1 h0_0_e3_2 h0_0_e3_0 h0_0_e3_0k h0_0_e3_0c h0_0_e3_2 h0_0_e3_2k h0_0_e3_2c) sz) := by
  refine Met.ofW (cc := cX5_drawBy) (maxL := 8) (ret := (some .int)) (by decide +kernel) rfl ?_
  intro p e s m args below meth c s₁ B hml hv
  obtain ⟨rfl, hsz, hP, hK, hD0⟩ := hv
  have hx := B.exec
  have hb := B.bytes
  have hr := B.returns
  have hts := atoms_spec (ws := wf_c_X5_drawBy_1) B.pre
  have hown : s.vm.findClass RX5 = some m.cls := findClass_of_methodNamed B.named
  have hlocks := B.notSynchronized
  subst hsz
  have hD := hD0.self (sz := s.heap.size)
  generalize hAe : va_A (wd_c_X5_drawBy_1 h0 h0_0 h0_f1 h0_f2 h0_3 h0_3 h0_3k h0_3c h0_0 h0_0k h0_0c h0_0_e0 h0_0_e0_0 h0_0_e0_f1 h0_0_e0_2 h0_0_e0_0 h0_0_e0_0k h0_0_e0_0c h0_0_e0_2 h0_0_e0_2k h0_0_e0_2c h0_0_e1 h0_0_e1_0 h0_0_e1_f1 h0_0_e1_2 h0_0_e1_0 h0_0_e1_0k h0_0_e1_0c h0_0_e1_2 h0_0_e1_2k h0_0_e1_2c h0_0_e2 h0_0_e2_0 h0_0_e2_f1 h0_0_e2_2 h0_0_e2_0 h0_0_e2_0k h0_0_e2_0c h0_0_e2_2 h0_0_e2_2k h0_0_e2_2c h0_0_e3 h0_0_e3_0 h0_0_e3_f1 h0_0_e3_2 h0_0_e3_0 h0_0_e3_0k h0_0_e3_0c h0_0_e3_2 h0_0_e3_2k h0_0_e3_2c) s.heap.size = A at hD ⊢
  have hA : ∀ q : Nat, s.heap.size ≤ q → A q := fun q h => by rw [← hAe]; exact Or.inr h
  have hP : va_P (dC, dI) vwCl (wd_c_X5_drawBy_1 h0 h0_0 h0_f1 h0_f2 h0_3 h0_3 h0_3k h0_3c h0_0 h0_0k h0_0c h0_0_e0 h0_0_e0_0 h0_0_e0_f1 h0_0_e0_2 h0_0_e0_0 h0_0_e0_0k h0_0_e0_0c h0_0_e0_2 h0_0_e0_2k h0_0_e0_2c h0_0_e1 h0_0_e1_0 h0_0_e1_f1 h0_0_e1_2 h0_0_e1_0 h0_0_e1_0k h0_0_e1_0c h0_0_e1_2 h0_0_e1_2k h0_0_e1_2c h0_0_e2 h0_0_e2_0 h0_0_e2_f1 h0_0_e2_2 h0_0_e2_0 h0_0_e2_0k h0_0_e2_0c h0_0_e2_2 h0_0_e2_2k h0_0_e2_2c h0_0_e3 h0_0_e3_0 h0_0_e3_f1 h0_0_e3_2 h0_0_e3_0 h0_0_e3_0k h0_0_e3_0c h0_0_e3_2 h0_0_e3_2k h0_0_e3_2c) s.heap := hP
  have hl := lv_entry ([.ref h0, .int p1, .int p2, .int p3, .int p4, .int p5, .int p6]) (n := 8) (Nat.le_of_ble_eq_true rfl)
  rw [lg_entry_eq]
  generalize (lg_sl ([.ref h0, .int p1, .int p2, .int p3, .int p4, .int p5, .int p6]) ++ List.replicate (8 - (lg_sl ([.ref h0, .int p1, .int p2, .int p3, .int p4, .int p5, .int p6])).length) Slot.unset).toArray = ls at hl ⊢
  have hl : lv_has ls 8 [(0, .ref h0), (1, .int p1), (2, .int p2), (3, .int p3), (4, .int p4), (5, .int p5), (6, .int p6)] := hl
  obtain ⟨H, hHe⟩ : ∃ H : Heap, s.heap = H := ⟨_, rfl⟩
  have hS : va_S A s.heap H [] := by rw [hHe]; exact va_S.rf
  have hP : va_P (dC, dI) vwCl (wd_c_X5_drawBy_1 h0 h0_0 h0_f1 h0_f2 h0_3 h0_3 h0_3k h0_3c h0_0 h0_0k h0_0c h0_0_e0 h0_0_e0_0 h0_0_e0_f1 h0_0_e0_2 h0_0_e0_0 h0_0_e0_0k h0_0_e0_0c h0_0_e0_2 h0_0_e0_2k h0_0_e0_2c h0_0_e1 h0_0_e1_0 h0_0_e1_f1 h0_0_e1_2 h0_0_e1_0 h0_0_e1_0k h0_0_e1_0c h0_0_e1_2 h0_0_e1_2k h0_0_e1_2c h0_0_e2 h0_0_e2_0 h0_0_e2_f1 h0_0_e2_2 h0_0_e2_0 h0_0_e2_0k h0_0_e2_0c h0_0_e2_2 h0_0_e2_2k h0_0_e2_2c h0_0_e3 h0_0_e3_0 h0_0_e3_f1 h0_0_e3_2 h0_0_e3_0 h0_0_e3_0k h0_0_e3_0c h0_0_e3_2 h0_0_e3_2k h0_0_e3_2c) H := by rw [← hHe]; exact hP
  rw [hHe]
  refine wj (fun G hG hU => ?_)
  as_aux_lemma =>
  have J18 : ∀ (g_h0_0_e0_f1 : RG h0_0_e0_f1 0 240) (g_h0_0_e1_f1 : RG h0_0_e1_f1 0 240) (g_h0_0_e2_f1 : RG h0_0_e2_f1 0 240) (g_h0_0_e3_f1 : RG h0_0_e3_f1 0 240) (g_h0_f1 : RG h0_f1 0 4) (g_h0_f2 : RG h0_f2 (-2147483648) 2147483647) (g_p1 : RG p1 (-1) 99) (H : Heap) (locs : List Loc) (ls : Array Slot) (hP : va_P (dC, dI) vwCl (wd_c_X5_drawBy_1 h0 h0_0 h0_f1 h0_f2 h0_3 h0_3 h0_3k h0_3c h0_0 h0_0k h0_0c h0_0_e0 h0_0_e0_0 h0_0_e0_f1 h0_0_e0_2 h0_0_e0_0 h0_0_e0_0k h0_0_e0_0c h0_0_e0_2 h0_0_e0_2k h0_0_e0_2c h0_0_e1 h0_0_e1_0 h0_0_e1_f1 h0_0_e1_2 h0_0_e1_0 h0_0_e1_0k h0_0_e1_0c h0_0_e1_2 h0_0_e1_2k h0_0_e1_2c h0_0_e2 h0_0_e2_0 h0_0_e2_f1 h0_0_e2_2 h0_0_e2_0 h0_0_e2_0k h0_0_e2_0c h0_0_e2_2 h0_0_e2_2k h0_0_e2_2c h0_0_e3 h0_0_e3_0 h0_0_e3_f1 h0_0_e3_2 h0_0_e3_0 h0_0_e3_0k h0_0_e3_0c h0_0_e3_2 h0_0_e3_2k h0_0_e3_2c) H) (hD : va_D A (wd_c_X5_drawBy_1 h0 h0_0 h0_f1 h0_f2 h0_3 h0_3 h0_3k h0_3c h0_0 h0_0k h0_0c h0_0_e0 h0_0_e0_0 h0_0_e0_f1 h0_0_e0_2 h0_0_e0_0 h0_0_e0_0k h0_0_e0_0c h0_0_e0_2 h0_0_e0_2k h0_0_e0_2c h0_0_e1 h0_0_e1_0 h0_0_e1_f1 h0_0_e1_2 h0_0_e1_0 h0_0_e1_0k h0_0_e1_0c h0_0_e1_2 h0_0_e1_2k h0_0_e1_2c h0_0_e2 h0_0_e2_0 h0_0_e2_f1 h0_0_e2_2 h0_0_e2_0 h0_0_e2_0k h0_0_e2_0c h0_0_e2_2 h0_0_e2_2k h0_0_e2_2c h0_0_e3 h0_0_e3_0 h0_0_e3_f1 h0_0_e3_2 h0_0_e3_0 h0_0_e3_0k h0_0_e3_0c h0_0_e3_2 h0_0_e3_2k h0_0_e3_2c)) (hS : va_S A s.heap H locs) (hl : lv_has ls 8 [(1, .int p1), (2, .int p2), (3, .int p3), (4, .int p4), (5, .int p5)]), G H locs (F0 m 18 ls []) := by
    as_aux_lemma =>
    intro g_h0_0_e0_f1 g_h0_0_e1_f1 g_h0_0_e2_f1 g_h0_0_e3_f1 g_h0_f1 g_h0_f2 g_p1 H locs ls hP hD hS hl
    refine hG _ _ _ ?_
    refine lv_iload_n hx hb dX5_drawBy_18 rfl (lv_at hl 0 rfl) ?_
    refine lv_iload_n hx hb dX5_drawBy_19 rfl (lv_at hl 1 rfl) ?_
    refine lv_iadd hx hb dX5_drawBy_20 ?_
    refine lv_topi (fun x_1 ex_1 => ?_)
    refine lv_iload_n hx hb dX5_drawBy_21 rfl (lv_at hl 2 rfl) ?_
    refine lv_iadd hx hb dX5_drawBy_22 ?_
    refine lv_topi (fun x_2 ex_2 => ?_)
    refine lv_iload hx hb dX5_drawBy_23 (lv_at hl 4 rfl) ?_
    refine lv_iadd hx hb dX5_drawBy_25 ?_
    refine lv_topi (fun x_3 ex_3 => ?_)
    refine lv_iload hx hb dX5_drawBy_26 (lv_at hl 3 rfl) ?_
    refine lv_isub hx hb dX5_drawBy_28 ?_
    as_aux_lemma =>
    refine lv_topi (fun x_4 ex_4 => ?_)
    have hK9 := hK.sub (tys' := []) [] rfl
    exact W.iret (v := x_4) hx hb hr (fun t ht hW => ⟨⟨x_4, (h0_3c, h0_0_e0_2c, h0_0_e1_2c, h0_0_e2_2c, h0_0_e3_2c), rfl, (Or.inr (Or.inl ⟨(RG_any x_4), g_h0_f2⟩)), by rw [ht]; exact hP, va_K.moved hW.alike hK9, hD⟩, hS.F ht⟩) hS.2.2 dX5_drawBy_29
  refine hG _ _ _ ?_
  refine lv_aload_n hx hb dX5_drawBy_0 rfl (lv_at hl 0 rfl) ?_
  refine va_get (D := (dC, dI)) (ci := 5) (v := .int h0_f2) (C := RX5) (T := TX5) (N := 4) hx hb hts iw_c_X5_drawBy_1_X5 hown hK hP 0 rfl rfl 2 (by decide +kernel) (hts (.fieldLink RX5 18 "BuoyVote$LawBook" "holding" "I") (List.mem_of_getElem? (i := 1) rfl)) (fun _ h9 => h9) rfl dX5_drawBy_1 ?_
  refine lv_if_lt (tgt := 18) hx hb dX5_drawBy_4 rfl (fun c_5 => ?_) (fun c_5 => ?_)
  · have g_6 : RG h0_f2 (-2147483648) (-1) := RG_lt1 (RG_any h0_f2) (RG_k 0 0 rfl) c_5 (by decide +kernel)
    exact hU _ _ _ (J18 g_h0_0_e0_f1 g_h0_0_e1_f1 g_h0_0_e2_f1 g_h0_0_e3_f1 g_h0_f1 (RG_w g_6 (by decide +kernel)) g_p1 _ _ _ hP hD hS (lv_sub hl [1, 2, 3, 4, 5] rfl))
  · have d_7 := Int32.not_lt.mp c_5
    have g_8 : RG h0_f2 0 2147483647 := RG_le2 (RG_k 0 0 rfl) (RG_any h0_f2) d_7 (by decide +kernel)
    refine lv_aload_n hx hb dX5_drawBy_7 rfl (lv_at hl 0 rfl) ?_
    refine va_get (D := (dC, dI)) (ci := 5) (v := .int h0_f2) (C := RX5) (T := TX5) (N := 4) hx hb hts iw_c_X5_drawBy_1_X5 hown hK hP 0 rfl rfl 2 (by decide +kernel) (hts (.fieldLink RX5 18 "BuoyVote$LawBook" "holding" "I") (List.mem_of_getElem? (i := 1) rfl)) (fun _ h9 => h9) rfl dX5_drawBy_8 ?_
    refine lv_aload_n hx hb dX5_drawBy_11 rfl (lv_at hl 0 rfl) ?_
    as_aux_lemma =>
    refine va_get (D := (dC, dI)) (ci := 5) (v := .int h0_f1) (C := RX5) (T := TX5) (N := 4) hx hb hts iw_c_X5_drawBy_1_X5 hown hK hP 0 rfl rfl 1 (by decide +kernel) (hts (.fieldLink RX5 26 "BuoyVote$LawBook" "size" "I") (List.mem_of_getElem? (i := 2) rfl)) (fun _ h9 => h9) rfl dX5_drawBy_12 ?_
    refine lv_icmp_lt (tgt := 30) hx hb dX5_drawBy_15 rfl (fun c_9 => ?_) (fun c_9 => ?_)
    · have g_10 : RG h0_f2 0 3 := RG_lt1 g_8 g_h0_f1 c_9 (by decide +kernel)
      have g_11 : RG h0_f1 1 4 := RG_lt2 g_8 g_h0_f1 c_9 (by decide +kernel)
      refine lv_aload_n hx hb dX5_drawBy_30 rfl (lv_at hl 0 rfl) ?_
      refine va_get (D := (dC, dI)) (ci := 5) (v := .ref h0_3) (C := RX5) (T := TX5) (N := 4) hx hb hts iw_c_X5_drawBy_1_X5 hown hK hP 0 rfl rfl 3 (by decide +kernel) (hts (.fieldLink RX5 22 "BuoyVote$LawBook" "letters" "[I") (List.mem_of_getElem? (i := 3) rfl)) (fun _ h9 => h9) rfl dX5_drawBy_31 ?_
      refine lv_iconst (v := 0) hx hb dX5_drawBy_34 kc_iconst_0 ?_
      refine lv_iload_n hx hb dX5_drawBy_35 rfl (lv_at hl 1 rfl) ?_
      refine va_iast hx hb hK hP hD hS 1 0 rfl rfl (RG_in (RG_k 0 0 rfl) (by decide +kernel)) dX5_drawBy_36 (fun H locs hP hD hS => ?_)
      have hP : va_P (dC, dI) vwCl (wd_c_X5_drawBy_1 h0 h0_0 h0_f1 h0_f2 h0_3 h0_3 h0_3k (upd h0_3c (0 : Int32).toNatClampNeg p1) h0_0 h0_0k h0_0c h0_0_e0 h0_0_e0_0 h0_0_e0_f1 h0_0_e0_2 h0_0_e0_0 h0_0_e0_0k h0_0_e0_0c h0_0_e0_2 h0_0_e0_2k h0_0_e0_2c h0_0_e1 h0_0_e1_0 h0_0_e1_f1 h0_0_e1_2 h0_0_e1_0 h0_0_e1_0k h0_0_e1_0c h0_0_e1_2 h0_0_e1_2k h0_0_e1_2c h0_0_e2 h0_0_e2_0 h0_0_e2_f1 h0_0_e2_2 h0_0_e2_0 h0_0_e2_0k h0_0_e2_0c h0_0_e2_2 h0_0_e2_2k h0_0_e2_2c h0_0_e3 h0_0_e3_0 h0_0_e3_f1 h0_0_e3_2 h0_0_e3_0 h0_0_e3_0k h0_0_e3_0c h0_0_e3_2 h0_0_e3_2k h0_0_e3_2c) H := hP
      have hD : va_D A (wd_c_X5_drawBy_1 h0 h0_0 h0_f1 h0_f2 h0_3 h0_3 h0_3k (upd h0_3c (0 : Int32).toNatClampNeg p1) h0_0 h0_0k h0_0c h0_0_e0 h0_0_e0_0 h0_0_e0_f1 h0_0_e0_2 h0_0_e0_0 h0_0_e0_0k h0_0_e0_0c h0_0_e0_2 h0_0_e0_2k h0_0_e0_2c h0_0_e1 h0_0_e1_0 h0_0_e1_f1 h0_0_e1_2 h0_0_e1_0 h0_0_e1_0k h0_0_e1_0c h0_0_e1_2 h0_0_e1_2k h0_0_e1_2c h0_0_e2 h0_0_e2_0 h0_0_e2_f1 h0_0_e2_2 h0_0_e2_0 h0_0_e2_0k h0_0_e2_0c h0_0_e2_2 h0_0_e2_2k h0_0_e2_2c h0_0_e3 h0_0_e3_0 h0_0_e3_f1 h0_0_e3_2 h0_0_e3_0 h0_0_e3_0k h0_0_e3_0c h0_0_e3_2 h0_0_e3_2k h0_0_e3_2c) := hD
      have l_13 : (upd h0_3c (0 : Int32).toNatClampNeg p1) (0 : Int32).toNatClampNeg = p1 := pk_us
      generalize (upd h0_3c (0 : Int32).toNatClampNeg p1) = w_12 at hP hD l_13
      have hP : va_P (dC, dI) vwCl (wd_c_X5_drawBy_1 h0 h0_0 h0_f1 h0_f2 h0_3 h0_3 h0_3k w_12 h0_0 h0_0k h0_0c h0_0_e0 h0_0_e0_0 h0_0_e0_f1 h0_0_e0_2 h0_0_e0_0 h0_0_e0_0k h0_0_e0_0c h0_0_e0_2 h0_0_e0_2k h0_0_e0_2c h0_0_e1 h0_0_e1_0 h0_0_e1_f1 h0_0_e1_2 h0_0_e1_0 h0_0_e1_0k h0_0_e1_0c h0_0_e1_2 h0_0_e1_2k h0_0_e1_2c h0_0_e2 h0_0_e2_0 h0_0_e2_f1 h0_0_e2_2 h0_0_e2_0 h0_0_e2_0k h0_0_e2_0c h0_0_e2_2 h0_0_e2_2k h0_0_e2_2c h0_0_e3 h0_0_e3_0 h0_0_e3_f1 h0_0_e3_2 h0_0_e3_0 h0_0_e3_0k h0_0_e3_0c h0_0_e3_2 h0_0_e3_2k h0_0_e3_2c) H := hP
      have hD : va_D A (wd_c_X5_drawBy_1 h0 h0_0 h0_f1 h0_f2 h0_3 h0_3 h0_3k w_12 h0_0 h0_0k h0_0c h0_0_e0 h0_0_e0_0 h0_0_e0_f1 h0_0_e0_2 h0_0_e0_0 h0_0_e0_0k h0_0_e0_0c h0_0_e0_2 h0_0_e0_2k h0_0_e0_2c h0_0_e1 h0_0_e1_0 h0_0_e1_f1 h0_0_e1_2 h0_0_e1_0 h0_0_e1_0k h0_0_e1_0c h0_0_e1_2 h0_0_e1_2k h0_0_e1_2c h0_0_e2 h0_0_e2_0 h0_0_e2_f1 h0_0_e2_2 h0_0_e2_0 h0_0_e2_0k h0_0_e2_0c h0_0_e2_2 h0_0_e2_2k h0_0_e2_2c h0_0_e3 h0_0_e3_0 h0_0_e3_f1 h0_0_e3_2 h0_0_e3_0 h0_0_e3_0k h0_0_e3_0c h0_0_e3_2 h0_0_e3_2k h0_0_e3_2c) := hD
      refine lv_aload_n hx hb dX5_drawBy_37 rfl (lv_at hl 0 rfl) ?_
      as_aux_lemma =>
      refine va_get (D := (dC, dI)) (ci := 5) (v := .ref h0_3) (C := RX5) (T := TX5) (N := 4) hx hb hts iw_c_X5_drawBy_1_X5 hown hK hP 0 rfl rfl 3 (by decide +kernel) (hts (.fieldLink RX5 22 "BuoyVote$LawBook" "letters" "[I") (List.mem_of_getElem? (i := 3) rfl)) (fun _ h9 => h9) rfl dX5_drawBy_38 ?_
      refine lv_iconst (v := 1) hx hb dX5_drawBy_41 kc_iconst_1 ?_
      refine lv_iload_n hx hb dX5_drawBy_42 rfl (lv_at hl 2 rfl) ?_
      refine va_iast hx hb hK hP hD hS 1 0 rfl rfl (RG_in (RG_k 1 1 rfl) (by decide +kernel)) dX5_drawBy_43 (fun H locs hP hD hS => ?_)
      have hP : va_P (dC, dI) vwCl (wd_c_X5_drawBy_1 h0 h0_0 h0_f1 h0_f2 h0_3 h0_3 h0_3k (upd w_12 (1 : Int32).toNatClampNeg p2) h0_0 h0_0k h0_0c h0_0_e0 h0_0_e0_0 h0_0_e0_f1 h0_0_e0_2 h0_0_e0_0 h0_0_e0_0k h0_0_e0_0c h0_0_e0_2 h0_0_e0_2k h0_0_e0_2c h0_0_e1 h0_0_e1_0 h0_0_e1_f1 h0_0_e1_2 h0_0_e1_0 h0_0_e1_0k h0_0_e1_0c h0_0_e1_2 h0_0_e1_2k h0_0_e1_2c h0_0_e2 h0_0_e2_0 h0_0_e2_f1 h0_0_e2_2 h0_0_e2_0 h0_0_e2_0k h0_0_e2_0c h0_0_e2_2 h0_0_e2_2k h0_0_e2_2c h0_0_e3 h0_0_e3_0 h0_0_e3_f1 h0_0_e3_2 h0_0_e3_0 h0_0_e3_0k h0_0_e3_0c h0_0_e3_2 h0_0_e3_2k h0_0_e3_2c) H := hP
      have hD : va_D A (wd_c_X5_drawBy_1 h0 h0_0 h0_f1 h0_f2 h0_3 h0_3 h0_3k (upd w_12 (1 : Int32).toNatClampNeg p2) h0_0 h0_0k h0_0c h0_0_e0 h0_0_e0_0 h0_0_e0_f1 h0_0_e0_2 h0_0_e0_0 h0_0_e0_0k h0_0_e0_0c h0_0_e0_2 h0_0_e0_2k h0_0_e0_2c h0_0_e1 h0_0_e1_0 h0_0_e1_f1 h0_0_e1_2 h0_0_e1_0 h0_0_e1_0k h0_0_e1_0c h0_0_e1_2 h0_0_e1_2k h0_0_e1_2c h0_0_e2 h0_0_e2_0 h0_0_e2_f1 h0_0_e2_2 h0_0_e2_0 h0_0_e2_0k h0_0_e2_0c h0_0_e2_2 h0_0_e2_2k h0_0_e2_2c h0_0_e3 h0_0_e3_0 h0_0_e3_f1 h0_0_e3_2 h0_0_e3_0 h0_0_e3_0k h0_0_e3_0c h0_0_e3_2 h0_0_e3_2k h0_0_e3_2c) := hD
      have l_15 : (upd w_12 (1 : Int32).toNatClampNeg p2) (1 : Int32).toNatClampNeg = p2 := pk_us
      generalize (upd w_12 (1 : Int32).toNatClampNeg p2) = w_14 at hP hD l_15
      have hP : va_P (dC, dI) vwCl (wd_c_X5_drawBy_1 h0 h0_0 h0_f1 h0_f2 h0_3 h0_3 h0_3k w_14 h0_0 h0_0k h0_0c h0_0_e0 h0_0_e0_0 h0_0_e0_f1 h0_0_e0_2 h0_0_e0_0 h0_0_e0_0k h0_0_e0_0c h0_0_e0_2 h0_0_e0_2k h0_0_e0_2c h0_0_e1 h0_0_e1_0 h0_0_e1_f1 h0_0_e1_2 h0_0_e1_0 h0_0_e1_0k h0_0_e1_0c h0_0_e1_2 h0_0_e1_2k h0_0_e1_2c h0_0_e2 h0_0_e2_0 h0_0_e2_f1 h0_0_e2_2 h0_0_e2_0 h0_0_e2_0k h0_0_e2_0c h0_0_e2_2 h0_0_e2_2k h0_0_e2_2c h0_0_e3 h0_0_e3_0 h0_0_e3_f1 h0_0_e3_2 h0_0_e3_0 h0_0_e3_0k h0_0_e3_0c h0_0_e3_2 h0_0_e3_2k h0_0_e3_2c) H := hP
      have hD : va_D A (wd_c_X5_drawBy_1 h0 h0_0 h0_f1 h0_f2 h0_3 h0_3 h0_3k w_14 h0_0 h0_0k h0_0c h0_0_e0 h0_0_e0_0 h0_0_e0_f1 h0_0_e0_2 h0_0_e0_0 h0_0_e0_0k h0_0_e0_0c h0_0_e0_2 h0_0_e0_2k h0_0_e0_2c h0_0_e1 h0_0_e1_0 h0_0_e1_f1 h0_0_e1_2 h0_0_e1_0 h0_0_e1_0k h0_0_e1_0c h0_0_e1_2 h0_0_e1_2k h0_0_e1_2c h0_0_e2 h0_0_e2_0 h0_0_e2_f1 h0_0_e2_2 h0_0_e2_0 h0_0_e2_0k h0_0_e2_0c h0_0_e2_2 h0_0_e2_2k h0_0_e2_2c h0_0_e3 h0_0_e3_0 h0_0_e3_f1 h0_0_e3_2 h0_0_e3_0 h0_0_e3_0k h0_0_e3_0c h0_0_e3_2 h0_0_e3_2k h0_0_e3_2c) := hD
      refine lv_aload_n hx hb dX5_drawBy_44 rfl (lv_at hl 0 rfl) ?_
      refine va_get (D := (dC, dI)) (ci := 5) (v := .ref h0_3) (C := RX5) (T := TX5) (N := 4) hx hb hts iw_c_X5_drawBy_1_X5 hown hK hP 0 rfl rfl 3 (by decide +kernel) (hts (.fieldLink RX5 22 "BuoyVote$LawBook" "letters" "[I") (List.mem_of_getElem? (i := 3) rfl)) (fun _ h9 => h9) rfl dX5_drawBy_45 ?_
      refine lv_iconst (v := 2) hx hb dX5_drawBy_48 kc_iconst_2 ?_
      refine lv_iload_n hx hb dX5_drawBy_49 rfl (lv_at hl 3 rfl) ?_
      as_aux_lemma =>
      refine va_iast hx hb hK hP hD hS 1 0 rfl rfl (RG_in (RG_k 2 2 rfl) (by decide +kernel)) dX5_drawBy_50 (fun H locs hP hD hS => ?_)
      have hP : va_P (dC, dI) vwCl (wd_c_X5_drawBy_1 h0 h0_0 h0_f1 h0_f2 h0_3 h0_3 h0_3k (upd w_14 (2 : Int32).toNatClampNeg p3) h0_0 h0_0k h0_0c h0_0_e0 h0_0_e0_0 h0_0_e0_f1 h0_0_e0_2 h0_0_e0_0 h0_0_e0_0k h0_0_e0_0c h0_0_e0_2 h0_0_e0_2k h0_0_e0_2c h0_0_e1 h0_0_e1_0 h0_0_e1_f1 h0_0_e1_2 h0_0_e1_0 h0_0_e1_0k h0_0_e1_0c h0_0_e1_2 h0_0_e1_2k h0_0_e1_2c h0_0_e2 h0_0_e2_0 h0_0_e2_f1 h0_0_e2_2 h0_0_e2_0 h0_0_e2_0k h0_0_e2_0c h0_0_e2_2 h0_0_e2_2k h0_0_e2_2c h0_0_e3 h0_0_e3_0 h0_0_e3_f1 h0_0_e3_2 h0_0_e3_0 h0_0_e3_0k h0_0_e3_0c h0_0_e3_2 h0_0_e3_2k h0_0_e3_2c) H := hP
      have hD : va_D A (wd_c_X5_drawBy_1 h0 h0_0 h0_f1 h0_f2 h0_3 h0_3 h0_3k (upd w_14 (2 : Int32).toNatClampNeg p3) h0_0 h0_0k h0_0c h0_0_e0 h0_0_e0_0 h0_0_e0_f1 h0_0_e0_2 h0_0_e0_0 h0_0_e0_0k h0_0_e0_0c h0_0_e0_2 h0_0_e0_2k h0_0_e0_2c h0_0_e1 h0_0_e1_0 h0_0_e1_f1 h0_0_e1_2 h0_0_e1_0 h0_0_e1_0k h0_0_e1_0c h0_0_e1_2 h0_0_e1_2k h0_0_e1_2c h0_0_e2 h0_0_e2_0 h0_0_e2_f1 h0_0_e2_2 h0_0_e2_0 h0_0_e2_0k h0_0_e2_0c h0_0_e2_2 h0_0_e2_2k h0_0_e2_2c h0_0_e3 h0_0_e3_0 h0_0_e3_f1 h0_0_e3_2 h0_0_e3_0 h0_0_e3_0k h0_0_e3_0c h0_0_e3_2 h0_0_e3_2k h0_0_e3_2c) := hD
      have l_17 : (upd w_14 (2 : Int32).toNatClampNeg p3) (2 : Int32).toNatClampNeg = p3 := pk_us
      generalize (upd w_14 (2 : Int32).toNatClampNeg p3) = w_16 at hP hD l_17
      have hP : va_P (dC, dI) vwCl (wd_c_X5_drawBy_1 h0 h0_0 h0_f1 h0_f2 h0_3 h0_3 h0_3k w_16 h0_0 h0_0k h0_0c h0_0_e0 h0_0_e0_0 h0_0_e0_f1 h0_0_e0_2 h0_0_e0_0 h0_0_e0_0k h0_0_e0_0c h0_0_e0_2 h0_0_e0_2k h0_0_e0_2c h0_0_e1 h0_0_e1_0 h0_0_e1_f1 h0_0_e1_2 h0_0_e1_0 h0_0_e1_0k h0_0_e1_0c h0_0_e1_2 h0_0_e1_2k h0_0_e1_2c h0_0_e2 h0_0_e2_0 h0_0_e2_f1 h0_0_e2_2 h0_0_e2_0 h0_0_e2_0k h0_0_e2_0c h0_0_e2_2 h0_0_e2_2k h0_0_e2_2c h0_0_e3 h0_0_e3_0 h0_0_e3_f1 h0_0_e3_2 h0_0_e3_0 h0_0_e3_0k h0_0_e3_0c h0_0_e3_2 h0_0_e3_2k h0_0_e3_2c) H := hP
      have hD : va_D A (wd_c_X5_drawBy_1 h0 h0_0 h0_f1 h0_f2 h0_3 h0_3 h0_3k w_16 h0_0 h0_0k h0_0c h0_0_e0 h0_0_e0_0 h0_0_e0_f1 h0_0_e0_2 h0_0_e0_0 h0_0_e0_0k h0_0_e0_0c h0_0_e0_2 h0_0_e0_2k h0_0_e0_2c h0_0_e1 h0_0_e1_0 h0_0_e1_f1 h0_0_e1_2 h0_0_e1_0 h0_0_e1_0k h0_0_e1_0c h0_0_e1_2 h0_0_e1_2k h0_0_e1_2c h0_0_e2 h0_0_e2_0 h0_0_e2_f1 h0_0_e2_2 h0_0_e2_0 h0_0_e2_0k h0_0_e2_0c h0_0_e2_2 h0_0_e2_2k h0_0_e2_2c h0_0_e3 h0_0_e3_0 h0_0_e3_f1 h0_0_e3_2 h0_0_e3_0 h0_0_e3_0k h0_0_e3_0c h0_0_e3_2 h0_0_e3_2k h0_0_e3_2c) := hD
      refine lv_aload_n hx hb dX5_drawBy_51 rfl (lv_at hl 0 rfl) ?_
      refine va_get (D := (dC, dI)) (ci := 5) (v := .ref h0_3) (C := RX5) (T := TX5) (N := 4) hx hb hts iw_c_X5_drawBy_1_X5 hown hK hP 0 rfl rfl 3 (by decide +kernel) (hts (.fieldLink RX5 22 "BuoyVote$LawBook" "letters" "[I") (List.mem_of_getElem? (i := 3) rfl)) (fun _ h9 => h9) rfl dX5_drawBy_52 ?_
      refine lv_iconst (v := 3) hx hb dX5_drawBy_55 kc_iconst_3 ?_
      refine lv_iload hx hb dX5_drawBy_56 (lv_at hl 4 rfl) ?_
      refine va_iast hx hb hK hP hD hS 1 0 rfl rfl (RG_in (RG_k 3 3 rfl) (by decide +kernel)) dX5_drawBy_58 (fun H locs hP hD hS => ?_)
      have hP : va_P (dC, dI) vwCl (wd_c_X5_drawBy_1 h0 h0_0 h0_f1 h0_f2 h0_3 h0_3 h0_3k (upd w_16 (3 : Int32).toNatClampNeg p4) h0_0 h0_0k h0_0c h0_0_e0 h0_0_e0_0 h0_0_e0_f1 h0_0_e0_2 h0_0_e0_0 h0_0_e0_0k h0_0_e0_0c h0_0_e0_2 h0_0_e0_2k h0_0_e0_2c h0_0_e1 h0_0_e1_0 h0_0_e1_f1 h0_0_e1_2 h0_0_e1_0 h0_0_e1_0k h0_0_e1_0c h0_0_e1_2 h0_0_e1_2k h0_0_e1_2c h0_0_e2 h0_0_e2_0 h0_0_e2_f1 h0_0_e2_2 h0_0_e2_0 h0_0_e2_0k h0_0_e2_0c h0_0_e2_2 h0_0_e2_2k h0_0_e2_2c h0_0_e3 h0_0_e3_0 h0_0_e3_f1 h0_0_e3_2 h0_0_e3_0 h0_0_e3_0k h0_0_e3_0c h0_0_e3_2 h0_0_e3_2k h0_0_e3_2c) H := hP
      have hD : va_D A (wd_c_X5_drawBy_1 h0 h0_0 h0_f1 h0_f2 h0_3 h0_3 h0_3k (upd w_16 (3 : Int32).toNatClampNeg p4) h0_0 h0_0k h0_0c h0_0_e0 h0_0_e0_0 h0_0_e0_f1 h0_0_e0_2 h0_0_e0_0 h0_0_e0_0k h0_0_e0_0c h0_0_e0_2 h0_0_e0_2k h0_0_e0_2c h0_0_e1 h0_0_e1_0 h0_0_e1_f1 h0_0_e1_2 h0_0_e1_0 h0_0_e1_0k h0_0_e1_0c h0_0_e1_2 h0_0_e1_2k h0_0_e1_2c h0_0_e2 h0_0_e2_0 h0_0_e2_f1 h0_0_e2_2 h0_0_e2_0 h0_0_e2_0k h0_0_e2_0c h0_0_e2_2 h0_0_e2_2k h0_0_e2_2c h0_0_e3 h0_0_e3_0 h0_0_e3_f1 h0_0_e3_2 h0_0_e3_0 h0_0_e3_0k h0_0_e3_0c h0_0_e3_2 h0_0_e3_2k h0_0_e3_2c) := hD
      have l_19 : (upd w_16 (3 : Int32).toNatClampNeg p4) (3 : Int32).toNatClampNeg = p4 := pk_us
      generalize (upd w_16 (3 : Int32).toNatClampNeg p4) = w_18 at hP hD l_19
      have hP : va_P (dC, dI) vwCl (wd_c_X5_drawBy_1 h0 h0_0 h0_f1 h0_f2 h0_3 h0_3 h0_3k w_18 h0_0 h0_0k h0_0c h0_0_e0 h0_0_e0_0 h0_0_e0_f1 h0_0_e0_2 h0_0_e0_0 h0_0_e0_0k h0_0_e0_0c h0_0_e0_2 h0_0_e0_2k h0_0_e0_2c h0_0_e1 h0_0_e1_0 h0_0_e1_f1 h0_0_e1_2 h0_0_e1_0 h0_0_e1_0k h0_0_e1_0c h0_0_e1_2 h0_0_e1_2k h0_0_e1_2c h0_0_e2 h0_0_e2_0 h0_0_e2_f1 h0_0_e2_2 h0_0_e2_0 h0_0_e2_0k h0_0_e2_0c h0_0_e2_2 h0_0_e2_2k h0_0_e2_2c h0_0_e3 h0_0_e3_0 h0_0_e3_f1 h0_0_e3_2 h0_0_e3_0 h0_0_e3_0k h0_0_e3_0c h0_0_e3_2 h0_0_e3_2k h0_0_e3_2c) H := hP
      have hD : va_D A (wd_c_X5_drawBy_1 h0 h0_0 h0_f1 h0_f2 h0_3 h0_3 h0_3k w_18 h0_0 h0_0k h0_0c h0_0_e0 h0_0_e0_0 h0_0_e0_f1 h0_0_e0_2 h0_0_e0_0 h0_0_e0_0k h0_0_e0_0c h0_0_e0_2 h0_0_e0_2k h0_0_e0_2c h0_0_e1 h0_0_e1_0 h0_0_e1_f1 h0_0_e1_2 h0_0_e1_0 h0_0_e1_0k h0_0_e1_0c h0_0_e1_2 h0_0_e1_2k h0_0_e1_2c h0_0_e2 h0_0_e2_0 h0_0_e2_f1 h0_0_e2_2 h0_0_e2_0 h0_0_e2_0k h0_0_e2_0c h0_0_e2_2 h0_0_e2_2k h0_0_e2_2c h0_0_e3 h0_0_e3_0 h0_0_e3_f1 h0_0_e3_2 h0_0_e3_0 h0_0_e3_0k h0_0_e3_0c h0_0_e3_2 h0_0_e3_2k h0_0_e3_2c) := hD
      refine lv_aload_n hx hb dX5_drawBy_59 rfl (lv_at hl 0 rfl) ?_
      as_aux_lemma =>
      refine va_get (D := (dC, dI)) (ci := 5) (v := .ref h0_3) (C := RX5) (T := TX5) (N := 4) hx hb hts iw_c_X5_drawBy_1_X5 hown hK hP 0 rfl rfl 3 (by decide +kernel) (hts (.fieldLink RX5 22 "BuoyVote$LawBook" "letters" "[I") (List.mem_of_getElem? (i := 3) rfl)) (fun _ h9 => h9) rfl dX5_drawBy_60 ?_
      refine lv_iconst (v := 4) hx hb dX5_drawBy_63 kc_iconst_4 ?_
      refine lv_iload hx hb dX5_drawBy_64 (lv_at hl 5 rfl) ?_
      refine va_iast hx hb hK hP hD hS 1 0 rfl rfl (RG_in (RG_k 4 4 rfl) (by decide +kernel)) dX5_drawBy_66 (fun H locs hP hD hS => ?_)
      have hP : va_P (dC, dI) vwCl (wd_c_X5_drawBy_1 h0 h0_0 h0_f1 h0_f2 h0_3 h0_3 h0_3k (upd w_18 (4 : Int32).toNatClampNeg p5) h0_0 h0_0k h0_0c h0_0_e0 h0_0_e0_0 h0_0_e0_f1 h0_0_e0_2 h0_0_e0_0 h0_0_e0_0k h0_0_e0_0c h0_0_e0_2 h0_0_e0_2k h0_0_e0_2c h0_0_e1 h0_0_e1_0 h0_0_e1_f1 h0_0_e1_2 h0_0_e1_0 h0_0_e1_0k h0_0_e1_0c h0_0_e1_2 h0_0_e1_2k h0_0_e1_2c h0_0_e2 h0_0_e2_0 h0_0_e2_f1 h0_0_e2_2 h0_0_e2_0 h0_0_e2_0k h0_0_e2_0c h0_0_e2_2 h0_0_e2_2k h0_0_e2_2c h0_0_e3 h0_0_e3_0 h0_0_e3_f1 h0_0_e3_2 h0_0_e3_0 h0_0_e3_0k h0_0_e3_0c h0_0_e3_2 h0_0_e3_2k h0_0_e3_2c) H := hP
      have hD : va_D A (wd_c_X5_drawBy_1 h0 h0_0 h0_f1 h0_f2 h0_3 h0_3 h0_3k (upd w_18 (4 : Int32).toNatClampNeg p5) h0_0 h0_0k h0_0c h0_0_e0 h0_0_e0_0 h0_0_e0_f1 h0_0_e0_2 h0_0_e0_0 h0_0_e0_0k h0_0_e0_0c h0_0_e0_2 h0_0_e0_2k h0_0_e0_2c h0_0_e1 h0_0_e1_0 h0_0_e1_f1 h0_0_e1_2 h0_0_e1_0 h0_0_e1_0k h0_0_e1_0c h0_0_e1_2 h0_0_e1_2k h0_0_e1_2c h0_0_e2 h0_0_e2_0 h0_0_e2_f1 h0_0_e2_2 h0_0_e2_0 h0_0_e2_0k h0_0_e2_0c h0_0_e2_2 h0_0_e2_2k h0_0_e2_2c h0_0_e3 h0_0_e3_0 h0_0_e3_f1 h0_0_e3_2 h0_0_e3_0 h0_0_e3_0k h0_0_e3_0c h0_0_e3_2 h0_0_e3_2k h0_0_e3_2c) := hD
      have l_21 : (upd w_18 (4 : Int32).toNatClampNeg p5) (4 : Int32).toNatClampNeg = p5 := pk_us
      generalize (upd w_18 (4 : Int32).toNatClampNeg p5) = w_20 at hP hD l_21
      have hP : va_P (dC, dI) vwCl (wd_c_X5_drawBy_1 h0 h0_0 h0_f1 h0_f2 h0_3 h0_3 h0_3k w_20 h0_0 h0_0k h0_0c h0_0_e0 h0_0_e0_0 h0_0_e0_f1 h0_0_e0_2 h0_0_e0_0 h0_0_e0_0k h0_0_e0_0c h0_0_e0_2 h0_0_e0_2k h0_0_e0_2c h0_0_e1 h0_0_e1_0 h0_0_e1_f1 h0_0_e1_2 h0_0_e1_0 h0_0_e1_0k h0_0_e1_0c h0_0_e1_2 h0_0_e1_2k h0_0_e1_2c h0_0_e2 h0_0_e2_0 h0_0_e2_f1 h0_0_e2_2 h0_0_e2_0 h0_0_e2_0k h0_0_e2_0c h0_0_e2_2 h0_0_e2_2k h0_0_e2_2c h0_0_e3 h0_0_e3_0 h0_0_e3_f1 h0_0_e3_2 h0_0_e3_0 h0_0_e3_0k h0_0_e3_0c h0_0_e3_2 h0_0_e3_2k h0_0_e3_2c) H := hP
      have hD : va_D A (wd_c_X5_drawBy_1 h0 h0_0 h0_f1 h0_f2 h0_3 h0_3 h0_3k w_20 h0_0 h0_0k h0_0c h0_0_e0 h0_0_e0_0 h0_0_e0_f1 h0_0_e0_2 h0_0_e0_0 h0_0_e0_0k h0_0_e0_0c h0_0_e0_2 h0_0_e0_2k h0_0_e0_2c h0_0_e1 h0_0_e1_0 h0_0_e1_f1 h0_0_e1_2 h0_0_e1_0 h0_0_e1_0k h0_0_e1_0c h0_0_e1_2 h0_0_e1_2k h0_0_e1_2c h0_0_e2 h0_0_e2_0 h0_0_e2_f1 h0_0_e2_2 h0_0_e2_0 h0_0_e2_0k h0_0_e2_0c h0_0_e2_2 h0_0_e2_2k h0_0_e2_2c h0_0_e3 h0_0_e3_0 h0_0_e3_f1 h0_0_e3_2 h0_0_e3_0 h0_0_e3_0k h0_0_e3_0c h0_0_e3_2 h0_0_e3_2k h0_0_e3_2c) := hD
      refine lv_aload_n hx hb dX5_drawBy_67 rfl (lv_at hl 0 rfl) ?_
      refine va_get (D := (dC, dI)) (ci := 5) (v := .ref h0_3) (C := RX5) (T := TX5) (N := 4) hx hb hts iw_c_X5_drawBy_1_X5 hown hK hP 0 rfl rfl 3 (by decide +kernel) (hts (.fieldLink RX5 22 "BuoyVote$LawBook" "letters" "[I") (List.mem_of_getElem? (i := 3) rfl)) (fun _ h9 => h9) rfl dX5_drawBy_68 ?_
      refine lv_iconst (v := 5) hx hb dX5_drawBy_71 kc_iconst_5 ?_
      refine lv_iload hx hb dX5_drawBy_72 (lv_at hl 6 rfl) ?_
      as_aux_lemma =>
      refine va_iast hx hb hK hP hD hS 1 0 rfl rfl (RG_in (RG_k 5 5 rfl) (by decide +kernel)) dX5_drawBy_74 (fun H locs hP hD hS => ?_)
      have hP : va_P (dC, dI) vwCl (wd_c_X5_drawBy_1 h0 h0_0 h0_f1 h0_f2 h0_3 h0_3 h0_3k (upd w_20 (5 : Int32).toNatClampNeg p6) h0_0 h0_0k h0_0c h0_0_e0 h0_0_e0_0 h0_0_e0_f1 h0_0_e0_2 h0_0_e0_0 h0_0_e0_0k h0_0_e0_0c h0_0_e0_2 h0_0_e0_2k h0_0_e0_2c h0_0_e1 h0_0_e1_0 h0_0_e1_f1 h0_0_e1_2 h0_0_e1_0 h0_0_e1_0k h0_0_e1_0c h0_0_e1_2 h0_0_e1_2k h0_0_e1_2c h0_0_e2 h0_0_e2_0 h0_0_e2_f1 h0_0_e2_2 h0_0_e2_0 h0_0_e2_0k h0_0_e2_0c h0_0_e2_2 h0_0_e2_2k h0_0_e2_2c h0_0_e3 h0_0_e3_0 h0_0_e3_f1 h0_0_e3_2 h0_0_e3_0 h0_0_e3_0k h0_0_e3_0c h0_0_e3_2 h0_0_e3_2k h0_0_e3_2c) H := hP
      have hD : va_D A (wd_c_X5_drawBy_1 h0 h0_0 h0_f1 h0_f2 h0_3 h0_3 h0_3k (upd w_20 (5 : Int32).toNatClampNeg p6) h0_0 h0_0k h0_0c h0_0_e0 h0_0_e0_0 h0_0_e0_f1 h0_0_e0_2 h0_0_e0_0 h0_0_e0_0k h0_0_e0_0c h0_0_e0_2 h0_0_e0_2k h0_0_e0_2c h0_0_e1 h0_0_e1_0 h0_0_e1_f1 h0_0_e1_2 h0_0_e1_0 h0_0_e1_0k h0_0_e1_0c h0_0_e1_2 h0_0_e1_2k h0_0_e1_2c h0_0_e2 h0_0_e2_0 h0_0_e2_f1 h0_0_e2_2 h0_0_e2_0 h0_0_e2_0k h0_0_e2_0c h0_0_e2_2 h0_0_e2_2k h0_0_e2_2c h0_0_e3 h0_0_e3_0 h0_0_e3_f1 h0_0_e3_2 h0_0_e3_0 h0_0_e3_0k h0_0_e3_0c h0_0_e3_2 h0_0_e3_2k h0_0_e3_2c) := hD
      have l_23 : (upd w_20 (5 : Int32).toNatClampNeg p6) (5 : Int32).toNatClampNeg = p6 := pk_us
      generalize (upd w_20 (5 : Int32).toNatClampNeg p6) = w_22 at hP hD l_23
      have hP : va_P (dC, dI) vwCl (wd_c_X5_drawBy_1 h0 h0_0 h0_f1 h0_f2 h0_3 h0_3 h0_3k w_22 h0_0 h0_0k h0_0c h0_0_e0 h0_0_e0_0 h0_0_e0_f1 h0_0_e0_2 h0_0_e0_0 h0_0_e0_0k h0_0_e0_0c h0_0_e0_2 h0_0_e0_2k h0_0_e0_2c h0_0_e1 h0_0_e1_0 h0_0_e1_f1 h0_0_e1_2 h0_0_e1_0 h0_0_e1_0k h0_0_e1_0c h0_0_e1_2 h0_0_e1_2k h0_0_e1_2c h0_0_e2 h0_0_e2_0 h0_0_e2_f1 h0_0_e2_2 h0_0_e2_0 h0_0_e2_0k h0_0_e2_0c h0_0_e2_2 h0_0_e2_2k h0_0_e2_2c h0_0_e3 h0_0_e3_0 h0_0_e3_f1 h0_0_e3_2 h0_0_e3_0 h0_0_e3_0k h0_0_e3_0c h0_0_e3_2 h0_0_e3_2k h0_0_e3_2c) H := hP
      have hD : va_D A (wd_c_X5_drawBy_1 h0 h0_0 h0_f1 h0_f2 h0_3 h0_3 h0_3k w_22 h0_0 h0_0k h0_0c h0_0_e0 h0_0_e0_0 h0_0_e0_f1 h0_0_e0_2 h0_0_e0_0 h0_0_e0_0k h0_0_e0_0c h0_0_e0_2 h0_0_e0_2k h0_0_e0_2c h0_0_e1 h0_0_e1_0 h0_0_e1_f1 h0_0_e1_2 h0_0_e1_0 h0_0_e1_0k h0_0_e1_0c h0_0_e1_2 h0_0_e1_2k h0_0_e1_2c h0_0_e2 h0_0_e2_0 h0_0_e2_f1 h0_0_e2_2 h0_0_e2_0 h0_0_e2_0k h0_0_e2_0c h0_0_e2_2 h0_0_e2_2k h0_0_e2_2c h0_0_e3 h0_0_e3_0 h0_0_e3_f1 h0_0_e3_2 h0_0_e3_0 h0_0_e3_0k h0_0_e3_0c h0_0_e3_2 h0_0_e3_2k h0_0_e3_2c) := hD
      refine lv_aload_n hx hb dX5_drawBy_75 rfl (lv_at hl 0 rfl) ?_
      refine va_get (D := (dC, dI)) (ci := 5) (v := .ref h0_0) (C := RX5) (T := TX5) (N := 4) hx hb hts iw_c_X5_drawBy_1_X5 hown hK hP 0 rfl rfl 0 (by decide +kernel) (hts (.fieldLink RX5 11 "BuoyVote$LawBook" "laws" "[LBuoyVote$Law;") (List.mem_of_getElem? (i := 4) rfl)) (fun _ h9 => h9) rfl dX5_drawBy_76 ?_
      refine lv_aload_n hx hb dX5_drawBy_79 rfl (lv_at hl 0 rfl) ?_
      refine va_get (D := (dC, dI)) (ci := 5) (v := .int h0_f2) (C := RX5) (T := TX5) (N := 4) hx hb hts iw_c_X5_drawBy_1_X5 hown hK hP 0 rfl rfl 2 (by decide +kernel) (hts (.fieldLink RX5 18 "BuoyVote$LawBook" "holding" "I") (List.mem_of_getElem? (i := 1) rfl)) (fun _ h9 => h9) rfl dX5_drawBy_80 ?_
      by_cases c_24 : h0_f2 = 0
      · refine W.eq (g2 := F0 m 83 ls [.int 0, .ref h0_0]) (by rw [c_24]) ?_
        have g_25 : RG h0_f2 0 0 := RG_k _ _ (by rw [c_24]; rfl)
        refine va_aldq hx hb hK hP 2 1 rfl rfl (by unfold vp_in; decide) dX5_drawBy_83 ?_
        as_aux_lemma =>
        rw [show h0_0c (0 : Int32).toNatClampNeg = some h0_0_e0 from e_h0_0_e0]
        refine W.eq (g2 := F0 m 84 ls [.ref h0_0_e0]) rfl ?_
        refine lv_aload_n hx hb dX5_drawBy_84 rfl (lv_at hl 0 rfl) ?_
        refine va_get (D := (dC, dI)) (ci := 5) (v := .ref h0_3) (C := RX5) (T := TX5) (N := 4) hx hb hts iw_c_X5_drawBy_1_X5 hown hK hP 0 rfl rfl 3 (by decide +kernel) (hts (.fieldLink RX5 22 "BuoyVote$LawBook" "letters" "[I") (List.mem_of_getElem? (i := 3) rfl)) (fun _ h9 => h9) rfl dX5_drawBy_85 ?_
        obtain ⟨hPc, hDc, hFc, hqc⟩ := cl_cut (wc := (wd_c_X4_worth h0_0_e0 h0_0_e0_0 h0_0_e0_f1 h0_0_e0_2 h0_0_e0_0 h0_0_e0_0k h0_0_e0_0c h0_3 h0_3k w_22 h0_0_e0_2 h0_0_e0_2k h0_0_e0_2c)) hP hD hS hA [3, 4, 1, 5] (by decide +kernel) rfl
        have hKc := hK.sub (tys' := [(h0_0_e0_0k, .int), (h0_3k, .int), (h0_0_e0_2k, .int)]) [2, 0, 3] rfl
        have hrv := va_recv hKc hPc (ci := 4) (q0 := 0) rfl rfl
        refine va_calli (va_runV (As := [.ref h0_3]) (rest := []) ⟨hx, hb, hml, hown, hts⟩ (c_X4_worth l dC dI H.size h0_0_e0 h0_3 h0_0_e0_0 h0_0_e0_f1 h0_0_e0_2 h0_0_e0_0k h0_0_e0_0c h0_3k w_22 h0_0_e0_2k h0_0_e0_2c g_h0_0_e0_f1) (cwV 1 hts gf_c_X5_drawBy_1_c_X4_worth rfl rfl rfl mdV_X4_worth ⟨Nat.le_of_ble_eq_true rfl, Nat.le_of_ble_eq_true rfl⟩) ⟨fun a U g mk q => by obtain ⟨q0, q1, qP, qK, qD⟩ := q; exact ⟨q0, q1, qP, va_K.moved (u := U) (U := U.calling g mk a) (Vm.Alike.refl U.vm) qK, qD⟩, hrv, fun U hU hW => ⟨rfl, by rw [hU], by rw [hU]; exact hPc, va_K.moved hW.alike hKc, hDc.weaken (fun _ _ _ _ => trivial)⟩⟩ rfl rfl hl.1 rfl (lv_room (Nat.le_of_ble_eq_true rfl)) dX5_drawBy_88 ⟨Nat.le_of_ble_eq_true rfl, Nat.le_of_ble_eq_true rfl⟩) hS (fun q _ h => hFc q h) hFc (fun r_26 w_27 t H1 locs ht hvm hw hB hz1 hk1 hS => ?_)
        obtain ⟨hP1, hK1, hD1⟩ := hB
        rw [ht] at hP1
        obtain ⟨hP, hD⟩ := cl_put (w1 := (wd_c_X4_worth h0_0_e0 h0_0_e0_0 h0_0_e0_f1 h0_0_e0_2 h0_0_e0_0 h0_0_e0_0k h0_0_e0_0c h0_3 h0_3k w_22 h0_0_e0_2 h0_0_e0_2k w_27)) (nw := (wd_c_X5_drawBy_1 h0 h0_0 h0_f1 h0_f2 h0_3 h0_3 h0_3k w_22 h0_0 h0_0k h0_0c h0_0_e0 h0_0_e0_0 h0_0_e0_f1 h0_0_e0_2 h0_0_e0_0 h0_0_e0_0k h0_0_e0_0c h0_0_e0_2 h0_0_e0_2k w_27 h0_0_e1 h0_0_e1_0 h0_0_e1_f1 h0_0_e1_2 h0_0_e1_0 h0_0_e1_0k h0_0_e1_0c h0_0_e1_2 h0_0_e1_2k h0_0_e1_2c h0_0_e2 h0_0_e2_0 h0_0_e2_f1 h0_0_e2_2 h0_0_e2_0 h0_0_e2_0k h0_0_e2_0c h0_0_e2_2 h0_0_e2_2k h0_0_e2_2c h0_0_e3 h0_0_e3_0 h0_0_e3_f1 h0_0_e3_2 h0_0_e3_0 h0_0_e3_0k h0_0_e3_0c h0_0_e3_2 h0_0_e3_2k h0_0_e3_2c)) hP hD [3, 4, 1, 5] [0, 17, 2, 15, 16, 18, 6, 7, 8, 9, 10, 11, 12, 13, 14] 15 rfl hqc (by decide +kernel) rfl hk1 hFc hP1 hD1
        generalize H1 = H at hP hS ⊢
        as_aux_lemma =>
        rcases hw with h_28 | ⟨h_29, h_30⟩
        · rw [h_28]
          refine lv_istore (lv' := [(7, .int 0), (0, .ref h0), (1, .int p1), (2, .int p2), (3, .int p3), (4, .int p4), (5, .int p5), (6, .int p6)]) hx hb dX5_drawBy_91 hl (Nat.le_of_ble_eq_true rfl) rfl (fun ls hl => ?_)
          refine lv_iload hx hb dX5_drawBy_93 (lv_at hl 0 rfl) ?_
          refine lv_bipush (v := 99) hx hb dX5_drawBy_95 kc_bipush_99 ?_
          refine lv_icmp_le (tgt := 105) hx hb dX5_drawBy_97 rfl (fun c_31 => ?_) (fun c_31 => absurd c_31 (by decide +kernel))
          refine lv_iload hx hb dX5_drawBy_105 (lv_at hl 0 rfl) ?_
          refine lv_bipush (v := (-99)) hx hb dX5_drawBy_107 kc_bipush_m99 ?_
          refine lv_icmp_ge (tgt := 117) hx hb dX5_drawBy_109 rfl (fun c_32 => ?_) (fun c_32 => absurd c_32 (by decide +kernel))
          refine lv_iload hx hb dX5_drawBy_117 (lv_at hl 0 rfl) ?_
          have hK9 := hK.sub (tys' := []) [] rfl
          exact W.iret (v := 0) hx hb hr (fun t ht hW => ⟨⟨0, (w_22, w_27, h0_0_e1_2c, h0_0_e2_2c, h0_0_e3_2c), rfl, (Or.inl ⟨rfl, g_11, (RG_w g_25 (by decide +kernel))⟩), by rw [ht]; exact hP, va_K.moved hW.alike hK9, hD⟩, hS.F ht⟩) hS.2.2 dX5_drawBy_119
        · refine lv_istore (lv' := [(7, .int r_26), (0, .ref h0), (1, .int p1), (2, .int p2), (3, .int p3), (4, .int p4), (5, .int p5), (6, .int p6)]) hx hb dX5_drawBy_91 hl (Nat.le_of_ble_eq_true rfl) rfl (fun ls hl => ?_)
          refine lv_iload hx hb dX5_drawBy_93 (lv_at hl 0 rfl) ?_
          as_aux_lemma =>
          refine lv_bipush (v := 99) hx hb dX5_drawBy_95 kc_bipush_99 ?_
          refine lv_icmp_le (tgt := 105) hx hb dX5_drawBy_97 rfl (fun c_33 => ?_) (fun c_33 => ?_)
          · have g_34 : RG r_26 (-2147483648) 99 := RG_le1 h_29 (RG_k 99 99 rfl) c_33 (by decide +kernel)
            refine lv_iload hx hb dX5_drawBy_105 (lv_at hl 0 rfl) ?_
            refine lv_bipush (v := (-99)) hx hb dX5_drawBy_107 kc_bipush_m99 ?_
            refine lv_icmp_ge (tgt := 117) hx hb dX5_drawBy_109 rfl (fun c_35 => ?_) (fun c_35 => ?_)
            · have g_36 : RG r_26 (-99) 99 := RG_le2 (RG_k (-99) (-99) rfl) g_34 c_35 (by decide +kernel)
              refine lv_iload hx hb dX5_drawBy_117 (lv_at hl 0 rfl) ?_
              have hK9 := hK.sub (tys' := []) [] rfl
              exact W.iret (v := r_26) hx hb hr (fun t ht hW => ⟨⟨r_26, (w_22, w_27, h0_0_e1_2c, h0_0_e2_2c, h0_0_e3_2c), rfl, (Or.inr (Or.inl ⟨(RG_w g_36 (by decide +kernel)), (RG_w g_25 (by decide +kernel))⟩)), by rw [ht]; exact hP, va_K.moved hW.alike hK9, hD⟩, hS.F ht⟩) hS.2.2 dX5_drawBy_119
            · have d_37 := Int32.not_le.mp c_35
              have g_38 : RG r_26 (-2147483648) (-100) := RG_lt1 g_34 (RG_k (-99) (-99) rfl) d_37 (by decide +kernel)
              refine lv_bipush (v := (-99)) hx hb dX5_drawBy_112 kc_bipush_m99 ?_
              refine lv_goto (tgt := 119) hx hb dX5_drawBy_114 rfl ?_
              as_aux_lemma =>
              have hK9 := hK.sub (tys' := []) [] rfl
              exact W.iret (v := (-99)) hx hb hr (fun t ht hW => ⟨⟨(-99), (w_22, w_27, h0_0_e1_2c, h0_0_e2_2c, h0_0_e3_2c), rfl, (Or.inr (Or.inr (Or.inl ⟨rfl, g_11, (RG_w g_25 (by decide +kernel))⟩))), by rw [ht]; exact hP, va_K.moved hW.alike hK9, hD⟩, hS.F ht⟩) hS.2.2 dX5_drawBy_119
          · have d_39 := Int32.not_le.mp c_33
            have g_40 : RG r_26 100 2147483647 := RG_lt2 (RG_k 99 99 rfl) h_29 d_39 (by decide +kernel)
            refine lv_bipush (v := 99) hx hb dX5_drawBy_100 kc_bipush_99 ?_
            refine lv_goto (tgt := 119) hx hb dX5_drawBy_102 rfl ?_
            have hK9 := hK.sub (tys' := []) [] rfl
            exact W.iret (v := 99) hx hb hr (fun t ht hW => ⟨⟨99, (w_22, w_27, h0_0_e1_2c, h0_0_e2_2c, h0_0_e3_2c), rfl, (Or.inr (Or.inr (Or.inr ⟨rfl, g_11, (RG_w g_25 (by decide +kernel))⟩))), by rw [ht]; exact hP, va_K.moved hW.alike hK9, hD⟩, hS.F ht⟩) hS.2.2 dX5_drawBy_119
      by_cases c_41 : h0_f2 = 1
      · refine W.eq (g2 := F0 m 83 ls [.int 1, .ref h0_0]) (by rw [c_41]) ?_
        have g_42 : RG h0_f2 1 1 := RG_k _ _ (by rw [c_41]; rfl)
        refine va_aldq hx hb hK hP 2 1 rfl rfl (by unfold vp_in; decide) dX5_drawBy_83 ?_
        rw [show h0_0c (1 : Int32).toNatClampNeg = some h0_0_e1 from e_h0_0_e1]
        refine W.eq (g2 := F0 m 84 ls [.ref h0_0_e1]) rfl ?_
        as_aux_lemma =>
        refine lv_aload_n hx hb dX5_drawBy_84 rfl (lv_at hl 0 rfl) ?_
        refine va_get (D := (dC, dI)) (ci := 5) (v := .ref h0_3) (C := RX5) (T := TX5) (N := 4) hx hb hts iw_c_X5_drawBy_1_X5 hown hK hP 0 rfl rfl 3 (by decide +kernel) (hts (.fieldLink RX5 22 "BuoyVote$LawBook" "letters" "[I") (List.mem_of_getElem? (i := 3) rfl)) (fun _ h9 => h9) rfl dX5_drawBy_85 ?_
        obtain ⟨hPc, hDc, hFc, hqc⟩ := cl_cut (wc := (wd_c_X4_worth h0_0_e1 h0_0_e1_0 h0_0_e1_f1 h0_0_e1_2 h0_0_e1_0 h0_0_e1_0k h0_0_e1_0c h0_3 h0_3k w_22 h0_0_e1_2 h0_0_e1_2k h0_0_e1_2c)) hP hD hS hA [6, 7, 1, 8] (by decide +kernel) rfl
        have hKc := hK.sub (tys' := [(h0_0_e1_0k, .int), (h0_3k, .int), (h0_0_e1_2k, .int)]) [4, 0, 5] rfl
        have hrv := va_recv hKc hPc (ci := 4) (q0 := 0) rfl rfl
        refine va_calli (va_runV (As := [.ref h0_3]) (rest := []) ⟨hx, hb, hml, hown, hts⟩ (c_X4_worth l dC dI H.size h0_0_e1 h0_3 h0_0_e1_0 h0_0_e1_f1 h0_0_e1_2 h0_0_e1_0k h0_0_e1_0c h0_3k w_22 h0_0_e1_2k h0_0_e1_2c g_h0_0_e1_f1) (cwV 1 hts gf_c_X5_drawBy_1_c_X4_worth rfl rfl rfl mdV_X4_worth ⟨Nat.le_of_ble_eq_true rfl, Nat.le_of_ble_eq_true rfl⟩) ⟨fun a U g mk q => by obtain ⟨q0, q1, qP, qK, qD⟩ := q; exact ⟨q0, q1, qP, va_K.moved (u := U) (U := U.calling g mk a) (Vm.Alike.refl U.vm) qK, qD⟩, hrv, fun U hU hW => ⟨rfl, by rw [hU], by rw [hU]; exact hPc, va_K.moved hW.alike hKc, hDc.weaken (fun _ _ _ _ => trivial)⟩⟩ rfl rfl hl.1 rfl (lv_room (Nat.le_of_ble_eq_true rfl)) dX5_drawBy_88 ⟨Nat.le_of_ble_eq_true rfl, Nat.le_of_ble_eq_true rfl⟩) hS (fun q _ h => hFc q h) hFc (fun r_43 w_44 t H1 locs ht hvm hw hB hz1 hk1 hS => ?_)
        obtain ⟨hP1, hK1, hD1⟩ := hB
        rw [ht] at hP1
        obtain ⟨hP, hD⟩ := cl_put (w1 := (wd_c_X4_worth h0_0_e1 h0_0_e1_0 h0_0_e1_f1 h0_0_e1_2 h0_0_e1_0 h0_0_e1_0k h0_0_e1_0c h0_3 h0_3k w_22 h0_0_e1_2 h0_0_e1_2k w_44)) (nw := (wd_c_X5_drawBy_1 h0 h0_0 h0_f1 h0_f2 h0_3 h0_3 h0_3k w_22 h0_0 h0_0k h0_0c h0_0_e0 h0_0_e0_0 h0_0_e0_f1 h0_0_e0_2 h0_0_e0_0 h0_0_e0_0k h0_0_e0_0c h0_0_e0_2 h0_0_e0_2k h0_0_e0_2c h0_0_e1 h0_0_e1_0 h0_0_e1_f1 h0_0_e1_2 h0_0_e1_0 h0_0_e1_0k h0_0_e1_0c h0_0_e1_2 h0_0_e1_2k w_44 h0_0_e2 h0_0_e2_0 h0_0_e2_f1 h0_0_e2_2 h0_0_e2_0 h0_0_e2_0k h0_0_e2_0c h0_0_e2_2 h0_0_e2_2k h0_0_e2_2c h0_0_e3 h0_0_e3_0 h0_0_e3_f1 h0_0_e3_2 h0_0_e3_0 h0_0_e3_0k h0_0_e3_0c h0_0_e3_2 h0_0_e3_2k h0_0_e3_2c)) hP hD [6, 7, 1, 8] [0, 17, 2, 3, 4, 5, 15, 16, 18, 9, 10, 11, 12, 13, 14] 15 rfl hqc (by decide +kernel) rfl hk1 hFc hP1 hD1
        generalize H1 = H at hP hS ⊢
        as_aux_lemma =>
        rcases hw with h_45 | ⟨h_46, h_47⟩
        · rw [h_45]
          refine lv_istore (lv' := [(7, .int 0), (0, .ref h0), (1, .int p1), (2, .int p2), (3, .int p3), (4, .int p4), (5, .int p5), (6, .int p6)]) hx hb dX5_drawBy_91 hl (Nat.le_of_ble_eq_true rfl) rfl (fun ls hl => ?_)
          refine lv_iload hx hb dX5_drawBy_93 (lv_at hl 0 rfl) ?_
          refine lv_bipush (v := 99) hx hb dX5_drawBy_95 kc_bipush_99 ?_
          refine lv_icmp_le (tgt := 105) hx hb dX5_drawBy_97 rfl (fun c_48 => ?_) (fun c_48 => absurd c_48 (by decide +kernel))
          refine lv_iload hx hb dX5_drawBy_105 (lv_at hl 0 rfl) ?_
          refine lv_bipush (v := (-99)) hx hb dX5_drawBy_107 kc_bipush_m99 ?_
          refine lv_icmp_ge (tgt := 117) hx hb dX5_drawBy_109 rfl (fun c_49 => ?_) (fun c_49 => absurd c_49 (by decide +kernel))
          refine lv_iload hx hb dX5_drawBy_117 (lv_at hl 0 rfl) ?_
          have hK9 := hK.sub (tys' := []) [] rfl
          exact W.iret (v := 0) hx hb hr (fun t ht hW => ⟨⟨0, (w_22, h0_0_e0_2c, w_44, h0_0_e2_2c, h0_0_e3_2c), rfl, (Or.inl ⟨rfl, g_11, (RG_w g_42 (by decide +kernel))⟩), by rw [ht]; exact hP, va_K.moved hW.alike hK9, hD⟩, hS.F ht⟩) hS.2.2 dX5_drawBy_119
        · refine lv_istore (lv' := [(7, .int r_43), (0, .ref h0), (1, .int p1), (2, .int p2), (3, .int p3), (4, .int p4), (5, .int p5), (6, .int p6)]) hx hb dX5_drawBy_91 hl (Nat.le_of_ble_eq_true rfl) rfl (fun ls hl => ?_)
          refine lv_iload hx hb dX5_drawBy_93 (lv_at hl 0 rfl) ?_
          as_aux_lemma =>
          refine lv_bipush (v := 99) hx hb dX5_drawBy_95 kc_bipush_99 ?_
          refine lv_icmp_le (tgt := 105) hx hb dX5_drawBy_97 rfl (fun c_50 => ?_) (fun c_50 => ?_)
          · have g_51 : RG r_43 (-2147483648) 99 := RG_le1 h_46 (RG_k 99 99 rfl) c_50 (by decide +kernel)
            refine lv_iload hx hb dX5_drawBy_105 (lv_at hl 0 rfl) ?_
            refine lv_bipush (v := (-99)) hx hb dX5_drawBy_107 kc_bipush_m99 ?_
            refine lv_icmp_ge (tgt := 117) hx hb dX5_drawBy_109 rfl (fun c_52 => ?_) (fun c_52 => ?_)
            · have g_53 : RG r_43 (-99) 99 := RG_le2 (RG_k (-99) (-99) rfl) g_51 c_52 (by decide +kernel)
              refine lv_iload hx hb dX5_drawBy_117 (lv_at hl 0 rfl) ?_
              have hK9 := hK.sub (tys' := []) [] rfl
              exact W.iret (v := r_43) hx hb hr (fun t ht hW => ⟨⟨r_43, (w_22, h0_0_e0_2c, w_44, h0_0_e2_2c, h0_0_e3_2c), rfl, (Or.inr (Or.inl ⟨(RG_w g_53 (by decide +kernel)), (RG_w g_42 (by decide +kernel))⟩)), by rw [ht]; exact hP, va_K.moved hW.alike hK9, hD⟩, hS.F ht⟩) hS.2.2 dX5_drawBy_119
            · have d_54 := Int32.not_le.mp c_52
              have g_55 : RG r_43 (-2147483648) (-100) := RG_lt1 g_51 (RG_k (-99) (-99) rfl) d_54 (by decide +kernel)
              refine lv_bipush (v := (-99)) hx hb dX5_drawBy_112 kc_bipush_m99 ?_
              refine lv_goto (tgt := 119) hx hb dX5_drawBy_114 rfl ?_
              as_aux_lemma =>
              have hK9 := hK.sub (tys' := []) [] rfl
              exact W.iret (v := (-99)) hx hb hr (fun t ht hW => ⟨⟨(-99), (w_22, h0_0_e0_2c, w_44, h0_0_e2_2c, h0_0_e3_2c), rfl, (Or.inr (Or.inr (Or.inl ⟨rfl, g_11, (RG_w g_42 (by decide +kernel))⟩))), by rw [ht]; exact hP, va_K.moved hW.alike hK9, hD⟩, hS.F ht⟩) hS.2.2 dX5_drawBy_119
          · have d_56 := Int32.not_le.mp c_50
            have g_57 : RG r_43 100 2147483647 := RG_lt2 (RG_k 99 99 rfl) h_46 d_56 (by decide +kernel)
            refine lv_bipush (v := 99) hx hb dX5_drawBy_100 kc_bipush_99 ?_
            refine lv_goto (tgt := 119) hx hb dX5_drawBy_102 rfl ?_
            have hK9 := hK.sub (tys' := []) [] rfl
            exact W.iret (v := 99) hx hb hr (fun t ht hW => ⟨⟨99, (w_22, h0_0_e0_2c, w_44, h0_0_e2_2c, h0_0_e3_2c), rfl, (Or.inr (Or.inr (Or.inr ⟨rfl, g_11, (RG_w g_42 (by decide +kernel))⟩))), by rw [ht]; exact hP, va_K.moved hW.alike hK9, hD⟩, hS.F ht⟩) hS.2.2 dX5_drawBy_119
      by_cases c_58 : h0_f2 = 2
      · refine W.eq (g2 := F0 m 83 ls [.int 2, .ref h0_0]) (by rw [c_58]) ?_
        have g_59 : RG h0_f2 2 2 := RG_k _ _ (by rw [c_58]; rfl)
        refine va_aldq hx hb hK hP 2 1 rfl rfl (by unfold vp_in; decide) dX5_drawBy_83 ?_
        rw [show h0_0c (2 : Int32).toNatClampNeg = some h0_0_e2 from e_h0_0_e2]
        refine W.eq (g2 := F0 m 84 ls [.ref h0_0_e2]) rfl ?_
        as_aux_lemma =>
        refine lv_aload_n hx hb dX5_drawBy_84 rfl (lv_at hl 0 rfl) ?_
        refine va_get (D := (dC, dI)) (ci := 5) (v := .ref h0_3) (C := RX5) (T := TX5) (N := 4) hx hb hts iw_c_X5_drawBy_1_X5 hown hK hP 0 rfl rfl 3 (by decide +kernel) (hts (.fieldLink RX5 22 "BuoyVote$LawBook" "letters" "[I") (List.mem_of_getElem? (i := 3) rfl)) (fun _ h9 => h9) rfl dX5_drawBy_85 ?_
        obtain ⟨hPc, hDc, hFc, hqc⟩ := cl_cut (wc := (wd_c_X4_worth h0_0_e2 h0_0_e2_0 h0_0_e2_f1 h0_0_e2_2 h0_0_e2_0 h0_0_e2_0k h0_0_e2_0c h0_3 h0_3k w_22 h0_0_e2_2 h0_0_e2_2k h0_0_e2_2c)) hP hD hS hA [9, 10, 1, 11] (by decide +kernel) rfl
        have hKc := hK.sub (tys' := [(h0_0_e2_0k, .int), (h0_3k, .int), (h0_0_e2_2k, .int)]) [6, 0, 7] rfl
        have hrv := va_recv hKc hPc (ci := 4) (q0 := 0) rfl rfl
        refine va_calli (va_runV (As := [.ref h0_3]) (rest := []) ⟨hx, hb, hml, hown, hts⟩ (c_X4_worth l dC dI H.size h0_0_e2 h0_3 h0_0_e2_0 h0_0_e2_f1 h0_0_e2_2 h0_0_e2_0k h0_0_e2_0c h0_3k w_22 h0_0_e2_2k h0_0_e2_2c g_h0_0_e2_f1) (cwV 1 hts gf_c_X5_drawBy_1_c_X4_worth rfl rfl rfl mdV_X4_worth ⟨Nat.le_of_ble_eq_true rfl, Nat.le_of_ble_eq_true rfl⟩) ⟨fun a U g mk q => by obtain ⟨q0, q1, qP, qK, qD⟩ := q; exact ⟨q0, q1, qP, va_K.moved (u := U) (U := U.calling g mk a) (Vm.Alike.refl U.vm) qK, qD⟩, hrv, fun U hU hW => ⟨rfl, by rw [hU], by rw [hU]; exact hPc, va_K.moved hW.alike hKc, hDc.weaken (fun _ _ _ _ => trivial)⟩⟩ rfl rfl hl.1 rfl (lv_room (Nat.le_of_ble_eq_true rfl)) dX5_drawBy_88 ⟨Nat.le_of_ble_eq_true rfl, Nat.le_of_ble_eq_true rfl⟩) hS (fun q _ h => hFc q h) hFc (fun r_60 w_61 t H1 locs ht hvm hw hB hz1 hk1 hS => ?_)
        obtain ⟨hP1, hK1, hD1⟩ := hB
        rw [ht] at hP1
        obtain ⟨hP, hD⟩ := cl_put (w1 := (wd_c_X4_worth h0_0_e2 h0_0_e2_0 h0_0_e2_f1 h0_0_e2_2 h0_0_e2_0 h0_0_e2_0k h0_0_e2_0c h0_3 h0_3k w_22 h0_0_e2_2 h0_0_e2_2k w_61)) (nw := (wd_c_X5_drawBy_1 h0 h0_0 h0_f1 h0_f2 h0_3 h0_3 h0_3k w_22 h0_0 h0_0k h0_0c h0_0_e0 h0_0_e0_0 h0_0_e0_f1 h0_0_e0_2 h0_0_e0_0 h0_0_e0_0k h0_0_e0_0c h0_0_e0_2 h0_0_e0_2k h0_0_e0_2c h0_0_e1 h0_0_e1_0 h0_0_e1_f1 h0_0_e1_2 h0_0_e1_0 h0_0_e1_0k h0_0_e1_0c h0_0_e1_2 h0_0_e1_2k h0_0_e1_2c h0_0_e2 h0_0_e2_0 h0_0_e2_f1 h0_0_e2_2 h0_0_e2_0 h0_0_e2_0k h0_0_e2_0c h0_0_e2_2 h0_0_e2_2k w_61 h0_0_e3 h0_0_e3_0 h0_0_e3_f1 h0_0_e3_2 h0_0_e3_0 h0_0_e3_0k h0_0_e3_0c h0_0_e3_2 h0_0_e3_2k h0_0_e3_2c)) hP hD [9, 10, 1, 11] [0, 17, 2, 3, 4, 5, 6, 7, 8, 15, 16, 18, 12, 13, 14] 15 rfl hqc (by decide +kernel) rfl hk1 hFc hP1 hD1
        generalize H1 = H at hP hS ⊢
        as_aux_lemma =>
        rcases hw with h_62 | ⟨h_63, h_64⟩
        · rw [h_62]
          refine lv_istore (lv' := [(7, .int 0), (0, .ref h0), (1, .int p1), (2, .int p2), (3, .int p3), (4, .int p4), (5, .int p5), (6, .int p6)]) hx hb dX5_drawBy_91 hl (Nat.le_of_ble_eq_true rfl) rfl (fun ls hl => ?_)
          refine lv_iload hx hb dX5_drawBy_93 (lv_at hl 0 rfl) ?_
          refine lv_bipush (v := 99) hx hb dX5_drawBy_95 kc_bipush_99 ?_
          refine lv_icmp_le (tgt := 105) hx hb dX5_drawBy_97 rfl (fun c_65 => ?_) (fun c_65 => absurd c_65 (by decide +kernel))
          refine lv_iload hx hb dX5_drawBy_105 (lv_at hl 0 rfl) ?_
          refine lv_bipush (v := (-99)) hx hb dX5_drawBy_107 kc_bipush_m99 ?_
          refine lv_icmp_ge (tgt := 117) hx hb dX5_drawBy_109 rfl (fun c_66 => ?_) (fun c_66 => absurd c_66 (by decide +kernel))
          refine lv_iload hx hb dX5_drawBy_117 (lv_at hl 0 rfl) ?_
          have hK9 := hK.sub (tys' := []) [] rfl
          exact W.iret (v := 0) hx hb hr (fun t ht hW => ⟨⟨0, (w_22, h0_0_e0_2c, h0_0_e1_2c, w_61, h0_0_e3_2c), rfl, (Or.inl ⟨rfl, g_11, (RG_w g_59 (by decide +kernel))⟩), by rw [ht]; exact hP, va_K.moved hW.alike hK9, hD⟩, hS.F ht⟩) hS.2.2 dX5_drawBy_119
        · refine lv_istore (lv' := [(7, .int r_60), (0, .ref h0), (1, .int p1), (2, .int p2), (3, .int p3), (4, .int p4), (5, .int p5), (6, .int p6)]) hx hb dX5_drawBy_91 hl (Nat.le_of_ble_eq_true rfl) rfl (fun ls hl => ?_)
          refine lv_iload hx hb dX5_drawBy_93 (lv_at hl 0 rfl) ?_
          as_aux_lemma =>
          refine lv_bipush (v := 99) hx hb dX5_drawBy_95 kc_bipush_99 ?_
          refine lv_icmp_le (tgt := 105) hx hb dX5_drawBy_97 rfl (fun c_67 => ?_) (fun c_67 => ?_)
          · have g_68 : RG r_60 (-2147483648) 99 := RG_le1 h_63 (RG_k 99 99 rfl) c_67 (by decide +kernel)
            refine lv_iload hx hb dX5_drawBy_105 (lv_at hl 0 rfl) ?_
            refine lv_bipush (v := (-99)) hx hb dX5_drawBy_107 kc_bipush_m99 ?_
            refine lv_icmp_ge (tgt := 117) hx hb dX5_drawBy_109 rfl (fun c_69 => ?_) (fun c_69 => ?_)
            · have g_70 : RG r_60 (-99) 99 := RG_le2 (RG_k (-99) (-99) rfl) g_68 c_69 (by decide +kernel)
              refine lv_iload hx hb dX5_drawBy_117 (lv_at hl 0 rfl) ?_
              have hK9 := hK.sub (tys' := []) [] rfl
              exact W.iret (v := r_60) hx hb hr (fun t ht hW => ⟨⟨r_60, (w_22, h0_0_e0_2c, h0_0_e1_2c, w_61, h0_0_e3_2c), rfl, (Or.inr (Or.inl ⟨(RG_w g_70 (by decide +kernel)), (RG_w g_59 (by decide +kernel))⟩)), by rw [ht]; exact hP, va_K.moved hW.alike hK9, hD⟩, hS.F ht⟩) hS.2.2 dX5_drawBy_119
            · have d_71 := Int32.not_le.mp c_69
              have g_72 : RG r_60 (-2147483648) (-100) := RG_lt1 g_68 (RG_k (-99) (-99) rfl) d_71 (by decide +kernel)
              refine lv_bipush (v := (-99)) hx hb dX5_drawBy_112 kc_bipush_m99 ?_
              refine lv_goto (tgt := 119) hx hb dX5_drawBy_114 rfl ?_
              as_aux_lemma =>
              have hK9 := hK.sub (tys' := []) [] rfl
              exact W.iret (v := (-99)) hx hb hr (fun t ht hW => ⟨⟨(-99), (w_22, h0_0_e0_2c, h0_0_e1_2c, w_61, h0_0_e3_2c), rfl, (Or.inr (Or.inr (Or.inl ⟨rfl, g_11, (RG_w g_59 (by decide +kernel))⟩))), by rw [ht]; exact hP, va_K.moved hW.alike hK9, hD⟩, hS.F ht⟩) hS.2.2 dX5_drawBy_119
          · have d_73 := Int32.not_le.mp c_67
            have g_74 : RG r_60 100 2147483647 := RG_lt2 (RG_k 99 99 rfl) h_63 d_73 (by decide +kernel)
            refine lv_bipush (v := 99) hx hb dX5_drawBy_100 kc_bipush_99 ?_
            refine lv_goto (tgt := 119) hx hb dX5_drawBy_102 rfl ?_
            have hK9 := hK.sub (tys' := []) [] rfl
            exact W.iret (v := 99) hx hb hr (fun t ht hW => ⟨⟨99, (w_22, h0_0_e0_2c, h0_0_e1_2c, w_61, h0_0_e3_2c), rfl, (Or.inr (Or.inr (Or.inr ⟨rfl, g_11, (RG_w g_59 (by decide +kernel))⟩))), by rw [ht]; exact hP, va_K.moved hW.alike hK9, hD⟩, hS.F ht⟩) hS.2.2 dX5_drawBy_119
      by_cases c_75 : h0_f2 = 3
      · refine W.eq (g2 := F0 m 83 ls [.int 3, .ref h0_0]) (by rw [c_75]) ?_
        have g_76 : RG h0_f2 3 3 := RG_k _ _ (by rw [c_75]; rfl)
        refine va_aldq hx hb hK hP 2 1 rfl rfl (by unfold vp_in; decide) dX5_drawBy_83 ?_
        rw [show h0_0c (3 : Int32).toNatClampNeg = some h0_0_e3 from e_h0_0_e3]
        refine W.eq (g2 := F0 m 84 ls [.ref h0_0_e3]) rfl ?_
        as_aux_lemma =>
        refine lv_aload_n hx hb dX5_drawBy_84 rfl (lv_at hl 0 rfl) ?_
        refine va_get (D := (dC, dI)) (ci := 5) (v := .ref h0_3) (C := RX5) (T := TX5) (N := 4) hx hb hts iw_c_X5_drawBy_1_X5 hown hK hP 0 rfl rfl 3 (by decide +kernel) (hts (.fieldLink RX5 22 "BuoyVote$LawBook" "letters" "[I") (List.mem_of_getElem? (i := 3) rfl)) (fun _ h9 => h9) rfl dX5_drawBy_85 ?_
        obtain ⟨hPc, hDc, hFc, hqc⟩ := cl_cut (wc := (wd_c_X4_worth h0_0_e3 h0_0_e3_0 h0_0_e3_f1 h0_0_e3_2 h0_0_e3_0 h0_0_e3_0k h0_0_e3_0c h0_3 h0_3k w_22 h0_0_e3_2 h0_0_e3_2k h0_0_e3_2c)) hP hD hS hA [12, 13, 1, 14] (by decide +kernel) rfl
        have hKc := hK.sub (tys' := [(h0_0_e3_0k, .int), (h0_3k, .int), (h0_0_e3_2k, .int)]) [8, 0, 9] rfl
        have hrv := va_recv hKc hPc (ci := 4) (q0 := 0) rfl rfl
        refine va_calli (va_runV (As := [.ref h0_3]) (rest := []) ⟨hx, hb, hml, hown, hts⟩ (c_X4_worth l dC dI H.size h0_0_e3 h0_3 h0_0_e3_0 h0_0_e3_f1 h0_0_e3_2 h0_0_e3_0k h0_0_e3_0c h0_3k w_22 h0_0_e3_2k h0_0_e3_2c g_h0_0_e3_f1) (cwV 1 hts gf_c_X5_drawBy_1_c_X4_worth rfl rfl rfl mdV_X4_worth ⟨Nat.le_of_ble_eq_true rfl, Nat.le_of_ble_eq_true rfl⟩) ⟨fun a U g mk q => by obtain ⟨q0, q1, qP, qK, qD⟩ := q; exact ⟨q0, q1, qP, va_K.moved (u := U) (U := U.calling g mk a) (Vm.Alike.refl U.vm) qK, qD⟩, hrv, fun U hU hW => ⟨rfl, by rw [hU], by rw [hU]; exact hPc, va_K.moved hW.alike hKc, hDc.weaken (fun _ _ _ _ => trivial)⟩⟩ rfl rfl hl.1 rfl (lv_room (Nat.le_of_ble_eq_true rfl)) dX5_drawBy_88 ⟨Nat.le_of_ble_eq_true rfl, Nat.le_of_ble_eq_true rfl⟩) hS (fun q _ h => hFc q h) hFc (fun r_77 w_78 t H1 locs ht hvm hw hB hz1 hk1 hS => ?_)
        obtain ⟨hP1, hK1, hD1⟩ := hB
        rw [ht] at hP1
        obtain ⟨hP, hD⟩ := cl_put (w1 := (wd_c_X4_worth h0_0_e3 h0_0_e3_0 h0_0_e3_f1 h0_0_e3_2 h0_0_e3_0 h0_0_e3_0k h0_0_e3_0c h0_3 h0_3k w_22 h0_0_e3_2 h0_0_e3_2k w_78)) (nw := (wd_c_X5_drawBy_1 h0 h0_0 h0_f1 h0_f2 h0_3 h0_3 h0_3k w_22 h0_0 h0_0k h0_0c h0_0_e0 h0_0_e0_0 h0_0_e0_f1 h0_0_e0_2 h0_0_e0_0 h0_0_e0_0k h0_0_e0_0c h0_0_e0_2 h0_0_e0_2k h0_0_e0_2c h0_0_e1 h0_0_e1_0 h0_0_e1_f1 h0_0_e1_2 h0_0_e1_0 h0_0_e1_0k h0_0_e1_0c h0_0_e1_2 h0_0_e1_2k h0_0_e1_2c h0_0_e2 h0_0_e2_0 h0_0_e2_f1 h0_0_e2_2 h0_0_e2_0 h0_0_e2_0k h0_0_e2_0c h0_0_e2_2 h0_0_e2_2k h0_0_e2_2c h0_0_e3 h0_0_e3_0 h0_0_e3_f1 h0_0_e3_2 h0_0_e3_0 h0_0_e3_0k h0_0_e3_0c h0_0_e3_2 h0_0_e3_2k w_78)) hP hD [12, 13, 1, 14] [0, 17, 2, 3, 4, 5, 6, 7, 8, 9, 10, 11, 15, 16, 18] 15 rfl hqc (by decide +kernel) rfl hk1 hFc hP1 hD1
        generalize H1 = H at hP hS ⊢
        as_aux_lemma =>
        rcases hw with h_79 | ⟨h_80, h_81⟩
        · rw [h_79]
          refine lv_istore (lv' := [(7, .int 0), (0, .ref h0), (1, .int p1), (2, .int p2), (3, .int p3), (4, .int p4), (5, .int p5), (6, .int p6)]) hx hb dX5_drawBy_91 hl (Nat.le_of_ble_eq_true rfl) rfl (fun ls hl => ?_)
          refine lv_iload hx hb dX5_drawBy_93 (lv_at hl 0 rfl) ?_
          refine lv_bipush (v := 99) hx hb dX5_drawBy_95 kc_bipush_99 ?_
          refine lv_icmp_le (tgt := 105) hx hb dX5_drawBy_97 rfl (fun c_82 => ?_) (fun c_82 => absurd c_82 (by decide +kernel))
          refine lv_iload hx hb dX5_drawBy_105 (lv_at hl 0 rfl) ?_
          refine lv_bipush (v := (-99)) hx hb dX5_drawBy_107 kc_bipush_m99 ?_
          refine lv_icmp_ge (tgt := 117) hx hb dX5_drawBy_109 rfl (fun c_83 => ?_) (fun c_83 => absurd c_83 (by decide +kernel))
          refine lv_iload hx hb dX5_drawBy_117 (lv_at hl 0 rfl) ?_
          have hK9 := hK.sub (tys' := []) [] rfl
          exact W.iret (v := 0) hx hb hr (fun t ht hW => ⟨⟨0, (w_22, h0_0_e0_2c, h0_0_e1_2c, h0_0_e2_2c, w_78), rfl, (Or.inl ⟨rfl, g_11, (RG_w g_76 (by decide +kernel))⟩), by rw [ht]; exact hP, va_K.moved hW.alike hK9, hD⟩, hS.F ht⟩) hS.2.2 dX5_drawBy_119
        · refine lv_istore (lv' := [(7, .int r_77), (0, .ref h0), (1, .int p1), (2, .int p2), (3, .int p3), (4, .int p4), (5, .int p5), (6, .int p6)]) hx hb dX5_drawBy_91 hl (Nat.le_of_ble_eq_true rfl) rfl (fun ls hl => ?_)
          refine lv_iload hx hb dX5_drawBy_93 (lv_at hl 0 rfl) ?_
          as_aux_lemma =>
          refine lv_bipush (v := 99) hx hb dX5_drawBy_95 kc_bipush_99 ?_
          refine lv_icmp_le (tgt := 105) hx hb dX5_drawBy_97 rfl (fun c_84 => ?_) (fun c_84 => ?_)
          · have g_85 : RG r_77 (-2147483648) 99 := RG_le1 h_80 (RG_k 99 99 rfl) c_84 (by decide +kernel)
            refine lv_iload hx hb dX5_drawBy_105 (lv_at hl 0 rfl) ?_
            refine lv_bipush (v := (-99)) hx hb dX5_drawBy_107 kc_bipush_m99 ?_
            refine lv_icmp_ge (tgt := 117) hx hb dX5_drawBy_109 rfl (fun c_86 => ?_) (fun c_86 => ?_)
            · have g_87 : RG r_77 (-99) 99 := RG_le2 (RG_k (-99) (-99) rfl) g_85 c_86 (by decide +kernel)
              refine lv_iload hx hb dX5_drawBy_117 (lv_at hl 0 rfl) ?_
              have hK9 := hK.sub (tys' := []) [] rfl
              exact W.iret (v := r_77) hx hb hr (fun t ht hW => ⟨⟨r_77, (w_22, h0_0_e0_2c, h0_0_e1_2c, h0_0_e2_2c, w_78), rfl, (Or.inr (Or.inl ⟨(RG_w g_87 (by decide +kernel)), (RG_w g_76 (by decide +kernel))⟩)), by rw [ht]; exact hP, va_K.moved hW.alike hK9, hD⟩, hS.F ht⟩) hS.2.2 dX5_drawBy_119
            · have d_88 := Int32.not_le.mp c_86
              have g_89 : RG r_77 (-2147483648) (-100) := RG_lt1 g_85 (RG_k (-99) (-99) rfl) d_88 (by decide +kernel)
              refine lv_bipush (v := (-99)) hx hb dX5_drawBy_112 kc_bipush_m99 ?_
              refine lv_goto (tgt := 119) hx hb dX5_drawBy_114 rfl ?_
              as_aux_lemma =>
              have hK9 := hK.sub (tys' := []) [] rfl
              exact W.iret (v := (-99)) hx hb hr (fun t ht hW => ⟨⟨(-99), (w_22, h0_0_e0_2c, h0_0_e1_2c, h0_0_e2_2c, w_78), rfl, (Or.inr (Or.inr (Or.inl ⟨rfl, g_11, (RG_w g_76 (by decide +kernel))⟩))), by rw [ht]; exact hP, va_K.moved hW.alike hK9, hD⟩, hS.F ht⟩) hS.2.2 dX5_drawBy_119
          · have d_90 := Int32.not_le.mp c_84
            have g_91 : RG r_77 100 2147483647 := RG_lt2 (RG_k 99 99 rfl) h_80 d_90 (by decide +kernel)
            refine lv_bipush (v := 99) hx hb dX5_drawBy_100 kc_bipush_99 ?_
            refine lv_goto (tgt := 119) hx hb dX5_drawBy_102 rfl ?_
            have hK9 := hK.sub (tys' := []) [] rfl
            exact W.iret (v := 99) hx hb hr (fun t ht hW => ⟨⟨99, (w_22, h0_0_e0_2c, h0_0_e1_2c, h0_0_e2_2c, w_78), rfl, (Or.inr (Or.inr (Or.inr ⟨rfl, g_11, (RG_w g_76 (by decide +kernel))⟩))), by rw [ht]; exact hP, va_K.moved hW.alike hK9, hD⟩, hS.F ht⟩) hS.2.2 dX5_drawBy_119
      exfalso
      have zc_24 := lv_neT c_24 (a := 0) (by decide +kernel)
      have zc_41 := lv_neT c_41 (a := 1) (by decide +kernel)
      have zc_58 := lv_neT c_58 (a := 2) (by decide +kernel)
      have zc_75 := lv_neT c_75 (a := 3) (by decide +kernel)
      have zg1 := (g_10).1
      have zg2 := (g_10).2
      omega
    · have d_92 := Int32.not_lt.mp c_9
      exact hU _ _ _ (J18 g_h0_0_e0_f1 g_h0_0_e1_f1 g_h0_0_e2_f1 g_h0_0_e3_f1 g_h0_f1 (RG_w g_8 (by decide +kernel)) g_p1 _ _ _ hP hD hS (lv_sub hl [1, 2, 3, 4, 5] rfl))
noncomputable def wd_c_X10_drawOf (a0 : Nat) (a1 : Int32) (a2 : Int32) (a3 : Int32) (a4 : Int32) (a5 : Nat) (a6 : Nat) (a7 : Nat) (a8 : Nat) (a9 : Nat) (a10 : Nat) (a11 : Nat) (a12 : Nat) (a13 : Nat) (a14 : Nat) (a15 : ClassId) (a16 : Nat → Int32) (a17 : Nat) (a18 : ClassId) (a19 : Nat → Int32) (a20 : Nat) (a21 : ClassId) (a22 : Nat → Int32) (a23 : Nat) (a24 : Nat) (a25 : Nat) (a26 : Nat) (a27 : Nat) (a28 : Nat) (a29 : Nat) (a30 : Nat) (a31 : Nat) (a32 : Int32) (a33 : Int32) (a34 : Int32) (a35 : Nat) (a36 : ClassId) (a37 : Nat → Int32) (a38 : Nat) (a39 : ClassId) (a40 : Nat → Int32) (a41 : Nat) (a42 : ClassId) (a43 : Nat → Int32) (a44 : Nat) (a45 : Nat) (a46 : Int32) (a47 : Int32) (a48 : Nat) (a49 : Nat) (a50 : ClassId) (a51 : Nat → Int32) (a52 : Nat) (a53 : ClassId) (a54 : Nat → Option Nat) (a55 : Nat) (a56 : Nat) (a57 : Int32) (a58 : Nat) (a59 : Nat) (a60 : ClassId) (a61 : Nat → Int32) (a62 : Nat) (a63 : ClassId) (a64 : Nat → Int32) (a65 : Nat) (a66 : Nat) (a67 : Int32) (a68 : Nat) (a69 : Nat) (a70 : ClassId) (a71 : Nat → Int32) (a72 : Nat) (a73 : ClassId) (a74 : Nat → Int32) (a75 : Nat) (a76 : Nat) (a77 : Int32) (a78 : Nat) (a79 : Nat) (a80 : ClassId) (a81 : Nat → Int32) (a82 : Nat) (a83 : ClassId) (a84 : Nat → Int32) (a85 : Nat) (a86 : Nat) (a87 : Int32) (a88 : Nat) (a89 : Nat) (a90 : ClassId) (a91 : Nat → Int32) (a92 : Nat) (a93 : ClassId) (a94 : Nat → Int32) : va_W := [(a0, .inr (7, [.int a1, .int a2, .int a3, .int a4, .ref a5, .ref a6, .ref a7, .ref a8, .ref a9, .ref a10, .ref a11, .ref a12, .ref a13])), (a14, .inl (a15, 24, .inl a16)), (a17, .inl (a18, 8, .inl a19)), (a20, .inl (a21, 8, .inl a22)), (a23, .inr (10, [.ref a24, .ref a25, .ref a26, .ref a27, .ref a28, .ref a29])), (a30, .inr (0, [.ref a31, .int a32, .int a33, .int a34])), (a35, .inl (a36, 80, .inl a37)), (a38, .inl (a39, 3, .inl a40)), (a41, .inl (a42, 3, .inl a43)), (a44, .inr (5, [.ref a45, .int a46, .int a47, .ref a48])), (a49, .inl (a50, 6, .inl a51)), (a52, .inl (a53, 5, .inr (.inr (.inr (.inr a54))))), (a55, .inr (4, [.ref a56, .int a57, .ref a58])), (a59, .inl (a60, 240, .inl a61)), (a62, .inl (a63, 64, .inl a64)), (a65, .inr (4, [.ref a66, .int a67, .ref a68])), (a69, .inl (a70, 240, .inl a71)), (a72, .inl (a73, 64, .inl a74)), (a75, .inr (4, [.ref a76, .int a77, .ref a78])), (a79, .inl (a80, 240, .inl a81)), (a82, .inl (a83, 64, .inl a84)), (a85, .inr (4, [.ref a86, .int a87, .ref a88])), (a89, .inl (a90, 240, .inl a91)), (a92, .inl (a93, 64, .inl a94))]
noncomputable def wf_c_X10_drawOf : List Cond := List.cons (.code yX10_drawOf cX10_drawOf 7 (some .int)) (@HAppend.hAppend (List Cond) (List Cond) (List Cond) _ (@HAppend.hAppend (List Cond) (List Cond) (List Cond) _ (@HAppend.hAppend (List Cond) (List Cond) (List Cond) _ (@HAppend.hAppend (List Cond) (List Cond) (List Cond) _ (@HAppend.hAppend (List Cond) (List Cond) (List Cond) _ [.fieldLink RX10 67 "BuoyVote$Sea" "liking" "[I", .fieldLink RX10 70 "BuoyVote$Sea" "old" "[I", .fieldLink RX10 73 "BuoyVote$Sea" "barnacles" "[I", .fieldLink RX10 9 "BuoyVote$Waters" "told" "LBuoyVote$Borough;", .methodLink RX10 43 yX0_buoyX, .instanceMethod yX0_buoyX, .selects RX0 yX0_buoyX yX0_buoyX, .initialized RX0, .code yX0_buoyX cX0_buoyX 2 (some .int), .fieldLink RX0 11 "BuoyVote$Borough" "values" "[I", .methodLink RX10 50 yX0_buoyY, .instanceMethod yX0_buoyY, .selects RX0 yX0_buoyY yX0_buoyY, .code yX0_buoyY cX0_buoyY 2 (some .int), .methodLink RX10 76 yX7_awayOf, .instanceMethod yX7_awayOf, .selects RX7 yX7_awayOf yX7_awayOf, .initialized RX7, .code yX7_awayOf cX7_awayOf 4 (some .int), .fieldLink RX7 9 "BuoyVote$Sea" "x" "[I", .methodLink RX7 99 Lib.Math.abs.name, .static Lib.Math.abs.name, .initialized "java/lang/Math", .code Lib.Math.abs.name Lib.Math.abs.code 1 (some .int), .fieldLink RX7 15 "BuoyVote$Sea" "y" "[I", .fieldLink RX10 15 "BuoyVote$Waters" "laws" "LBuoyVote$LawBook;", .methodLink RX10 80 yX0_voice, .instanceMethod yX0_voice, .selects RX0 yX0_voice yX0_voice, .code yX0_voice cX0_voice 2 (some .int), .methodLink RX10 83 yX10_pushOf, .instanceMethod yX10_pushOf, .selects RX10 yX10_pushOf yX10_pushOf, .initialized RX10, .code yX10_pushOf cX10_pushOf 10 (some .int), .fieldLink RX10 38 "BuoyVote$Sea" "x" "[I", .fieldLink RX10 47 "BuoyVote$Sea" "y" "[I", .fieldLink RX10 53 "BuoyVote$Sea" "way" "I", .fieldLink RX10 57 "BuoyVote$Sea" "wind" "I", .fieldLink RX10 60 "BuoyVote$Sea" "hour" "I", .methodLink RX10 63 yX10_isRising, .instanceMethod yX10_isRising, .selects RX10 yX10_isRising yX10_isRising, .code yX10_isRising cX10_isRising 3 (some .boolean), .methodLink RX10 32 yX0_tideHours, .instanceMethod yX0_tideHours, .selects RX0 yX0_tideHours yX0_tideHours, .code yX0_tideHours cX0_tideHours 1 (some .int), .methodLink RX10 87 yX5_drawBy, .instanceMethod yX5_drawBy, .selects RX5 yX5_drawBy yX5_drawBy, .initialized RX5, .code yX5_drawBy cX5_drawBy 8 (some .int), .fieldLink RX5 18 "BuoyVote$LawBook" "holding" "I", .fieldLink RX5 26 "BuoyVote$LawBook" "size" "I", .fieldLink RX5 22 "BuoyVote$LawBook" "letters" "[I", .fieldLink RX5 11 "BuoyVote$LawBook" "laws" "[LBuoyVote$Law;", .methodLink RX5 29 yX4_worth, .instanceMethod yX4_worth, .selects RX4 yX4_worth yX4_worth, .initialized RX4, .code yX4_worth cX4_worth 6 (some .int), .fieldLink RX4 20 "BuoyVote$Law" "length" "I", .fieldLink RX4 11 "BuoyVote$Law" "code" "[I", .fieldLink RX4 17 "BuoyVote$Law" "stack" "[I", .methodLink RX4 24 yX4_joinedAt, .instanceMethod yX4_joinedAt, .selects RX4 yX4_joinedAt yX4_joinedAt, .code yX4_joinedAt cX4_joinedAt 7 (some .int), .constantLong RX4 28 (1000000), .constantLong RX4 31 (-1000000), .constant RX4 33 (-1000000), .constant RX4 30 (1000000)] wsX70) wsX100) wsX00) wsX50) wsX40)
theorem iw_c_X10_drawOf_X7 : ∀ w ∈ wsX70, w ∈ wf_c_X10_drawOf := fun w h => List.mem_cons_of_mem _ (List.mem_append_left _ (List.mem_append_left _ (List.mem_append_left _ (List.mem_append_left _ (List.mem_append_right _ h)))))
theorem iw_c_X10_drawOf_X10 : ∀ w ∈ wsX100, w ∈ wf_c_X10_drawOf := fun w h => List.mem_cons_of_mem _ (List.mem_append_left _ (List.mem_append_left _ (List.mem_append_left _ (List.mem_append_right _ h))))
theorem iw_c_X10_drawOf_X0 : ∀ w ∈ wsX00, w ∈ wf_c_X10_drawOf := fun w h => List.mem_cons_of_mem _ (List.mem_append_left _ (List.mem_append_left _ (List.mem_append_right _ h)))
theorem iw_c_X10_drawOf_X5 : ∀ w ∈ wsX50, w ∈ wf_c_X10_drawOf := fun w h => List.mem_cons_of_mem _ (List.mem_append_left _ (List.mem_append_right _ h))
theorem iw_c_X10_drawOf_X4 : ∀ w ∈ wsX40, w ∈ wf_c_X10_drawOf := fun w h => List.mem_cons_of_mem _ (List.mem_append_right _ h)
set_option maxRecDepth 20000 in
theorem gf_c_X10_drawOf_c_X0_buoyX : GoodIn wf_c_X10_drawOf (wsV RX10 43 RX0 yX0_buoyX wf_c_X0_buoyX) := goodIn_app (gi_l [5, 6, 7, 8] rfl rfl) (gi_cons (j := 9) rfl rfl (goodIn_app (gi_l [10] rfl rfl) (goodIn_sub iw_c_X10_drawOf_X0 gw_X0)))
set_option maxRecDepth 20000 in
theorem gf_c_X10_drawOf_c_X0_buoyY : GoodIn wf_c_X10_drawOf (wsV RX10 50 RX0 yX0_buoyY wf_c_X0_buoyY) := goodIn_app (gi_l [11, 12, 13, 8] rfl rfl) (gi_cons (j := 14) rfl rfl (goodIn_app (gi_l [10] rfl rfl) (goodIn_sub iw_c_X10_drawOf_X0 gw_X0)))
set_option maxRecDepth 20000 in
theorem gf_c_X10_drawOf_c_X7_awayOf : GoodIn wf_c_X10_drawOf (wsV RX10 76 RX7 yX7_awayOf wf_c_X7_awayOf) := goodIn_app (gi_l [15, 16, 17, 18] rfl rfl) (gi_cons (j := 19) rfl rfl (goodIn_app (gi_l [20, 21, 22, 23, 24, 25] rfl rfl) (goodIn_sub iw_c_X10_drawOf_X7 gw_X7)))
set_option maxRecDepth 20000 in
theorem gf_c_X10_drawOf_c_X0_voice : GoodIn wf_c_X10_drawOf (wsV RX10 80 RX0 yX0_voice wf_c_X0_voice) := goodIn_app (gi_l [27, 28, 29, 8] rfl rfl) (gi_cons (j := 30) rfl rfl (goodIn_app (gi_l [10] rfl rfl) (goodIn_sub iw_c_X10_drawOf_X0 gw_X0)))
set_option maxRecDepth 20000 in
theorem gf_c_X10_drawOf_c_X10_pushOf : GoodIn wf_c_X10_drawOf (wsV RX10 83 RX10 yX10_pushOf wf_c_X10_pushOf) := goodIn_app (gi_l [31, 32, 33, 34] rfl rfl) (gi_cons (j := 35) rfl rfl (goodIn_app (goodIn_app (goodIn_app (gi_l [36, 4, 5, 6, 7, 8, 9, 10, 37, 11, 12, 13, 14, 38, 39, 40, 41, 42, 43, 34, 44, 45, 46, 47, 48] rfl rfl) (goodIn_sub iw_c_X10_drawOf_X7 gw_X7)) (goodIn_sub iw_c_X10_drawOf_X10 gw_X10)) (goodIn_sub iw_c_X10_drawOf_X0 gw_X0)))
set_option maxRecDepth 20000 in
theorem gf_c_X10_drawOf_c_X5_drawBy : GoodIn wf_c_X10_drawOf (wsV RX10 87 RX5 yX5_drawBy wf_c_X5_drawBy) := goodIn_app (gi_l [49, 50, 51, 52] rfl rfl) (gi_cons (j := 53) rfl rfl (goodIn_app (goodIn_app (gi_l [54, 55, 56, 57, 58, 59, 60, 61, 62, 63, 64, 65, 66, 67, 68, 69, 70, 71, 72, 73] rfl rfl) (goodIn_sub iw_c_X10_drawOf_X5 gw_X5)) (goodIn_sub iw_c_X10_drawOf_X4 gw_X4)))
set_option maxRecDepth 20000 in
theorem gf_c_X10_drawOf_c_X5_drawBy_1 : GoodIn wf_c_X10_drawOf (wsV RX10 87 RX5 yX5_drawBy wf_c_X5_drawBy_1) := goodIn_app (gi_l [49, 50, 51, 52] rfl rfl) (gi_cons (j := 53) rfl rfl (goodIn_app (goodIn_app (gi_l [54, 55, 56, 57, 58, 59, 60, 61, 62, 63, 64, 65, 66, 67, 68, 69, 70, 71, 72, 73] rfl rfl) (goodIn_sub iw_c_X10_drawOf_X5 gw_X5)) (goodIn_sub iw_c_X10_drawOf_X4 gw_X4)))
set_option maxHeartbeats 4000000 in
set_option maxRecDepth 100000 in
theorem c_X10_drawOf (l : Launch) (dC : Nat → ClassId) (dI : Nat → Nat → Nat) (sz : Nat) (h0 : Nat) (h1 : Nat) (p2 : Int32) (p3 : Int32) (h1_f0 : Int32) (h1_f1 : Int32) (h1_f2 : Int32) (h1_f3 : Int32) (h1_4 : Nat) (h1_5 : Nat) (h1_6 : Nat) (h1_7 : Nat) (h1_8 : Nat) (h1_9 : Nat) (h1_10 : Nat) (h1_11 : Nat) (h1_12 : Nat) (h1_10k : ClassId) (h1_10c : Nat → Int32) (h1_11k : ClassId) (h1_11c : Nat → Int32) (h1_12k : ClassId) (h1_12c : Nat → Int32) (h0_0 : Nat) (h0_1 : Nat) (h0_2 : Nat) (h0_3 : Nat) (h0_4 : Nat) (h0_5 : Nat) (h0_0_0 : Nat) (h0_0_f1 : Int32) (h0_0_f2 : Int32) (h0_0_f3 : Int32) (h0_0_0k : ClassId) (h0_0_0c : Nat → Int32) (h1_4k : ClassId) (h1_4c : Nat → Int32) (h1_5k : ClassId) (h1_5c : Nat → Int32) (h0_1_0 : Nat) (h0_1_f1 : Int32) (h0_1_f2 : Int32) (h0_1_3 : Nat) (h0_1_3k : ClassId) (h0_1_3c : Nat → Int32) (h0_1_0k : ClassId) (h0_1_0c : Nat → Option Nat) (h0_1_0_e0 : Nat) (h0_1_0_e1 : Nat) (h0_1_0_e2 : Nat) (h0_1_0_e3 : Nat) (h0_1_0_e4 : Nat) (h0_1_0_e0_0 : Nat) (h0_1_0_e0_f1 : Int32) (h0_1_0_e0_2 : Nat) (h0_1_0_e0_0k : ClassId) (h0_1_0_e0_0c : Nat → Int32) (h0_1_0_e0_2k : ClassId) (h0_1_0_e0_2c : Nat → Int32) (h0_1_0_e1_0 : Nat) (h0_1_0_e1_f1 : Int32) (h0_1_0_e1_2 : Nat) (h0_1_0_e1_0k : ClassId) (h0_1_0_e1_0c : Nat → Int32) (h0_1_0_e1_2k : ClassId) (h0_1_0_e1_2c : Nat → Int32) (h0_1_0_e2_0 : Nat) (h0_1_0_e2_f1 : Int32) (h0_1_0_e2_2 : Nat) (h0_1_0_e2_0k : ClassId) (h0_1_0_e2_0c : Nat → Int32) (h0_1_0_e2_2k : ClassId) (h0_1_0_e2_2c : Nat → Int32) (h0_1_0_e3_0 : Nat) (h0_1_0_e3_f1 : Int32) (h0_1_0_e3_2 : Nat) (h0_1_0_e3_0k : ClassId) (h0_1_0_e3_0c : Nat → Int32) (h0_1_0_e3_2k : ClassId) (h0_1_0_e3_2c : Nat → Int32) (g_p2 : RG p2 0 7) (g_p3 : RG p3 0 2) (g_h0_0_f1 : RG h0_0_f1 0 8) (g_h0_0_f2 : RG h0_0_f2 0 3) (g_h0_0_f3 : RG h0_0_f3 0 1) (a_h0_0_0c : AI h0_0_0c (-1) 99) (g_h0_1_f1 : RG h0_1_f1 0 4) (e_h0_1_0_e0 : h0_1_0c 0 = some h0_1_0_e0) (e_h0_1_0_e1 : h0_1_0c 1 = some h0_1_0_e1) (e_h0_1_0_e2 : h0_1_0c 2 = some h0_1_0_e2) (e_h0_1_0_e3 : h0_1_0c 3 = some h0_1_0_e3) (e_h0_1_0_e4 : h0_1_0c 4 = some h0_1_0_e4) (g_h0_1_0_e0_f1 : RG h0_1_0_e0_f1 0 240) (g_h0_1_0_e1_f1 : RG h0_1_0_e1_f1 0 240) (g_h0_1_0_e2_f1 : RG h0_1_0_e2_f1 0 240) (g_h0_1_0_e3_f1 : RG h0_1_0_e3_f1 0 240) : Met l yX10_drawOf wf_c_X10_drawOf ({ frames := 3, cells := 0, slots := 0, locals := 78 }) (va_Pc [.ref h0, .ref h1, .int p2, .int p3] (fun U => U.heap.size = sz ∧ va_P (dC, dI) vwCl (wd_c_X10_drawOf h1 h1_f0 h1_f1 h1_f2 h1_f3 h1_4 h1_5 h1_6 h1_7 h1_8 h1_9 h1_10 h1_11 h1_12 h1_10 h1_10k h1_10c h1_11 h1_11k h1_11c h1_12 h1_12k h1_12c h0 h0_0 h0_1 h0_2 h0_3 h0_4 h0_5 h0_0 h0_0_0 h0_0_f1 h0_0_f2 h0_0_f3 h0_0_0 h0_0_0k h0_0_0c h1_4 h1_4k h1_4c h1_5 h1_5k h1_5c h0_1 h0_1_0 h0_1_f1 h0_1_f2 h0_1_3 h0_1_3 h0_1_3k h0_1_3c h0_1_0 h0_1_0k h0_1_0c h0_1_0_e0 h0_1_0_e0_0 h0_1_0_e0_f1 h0_1_0_e0_2 h0_1_0_e0_0 h0_1_0_e0_0k h0_1_0_e0_0c h0_1_0_e0_2 h0_1_0_e0_2k h0_1_0_e0_2c h0_1_0_e1 h0_1_0_e1_0 h0_1_0_e1_f1 h0_1_0_e1_2 h0_1_0_e1_0 h0_1_0_e1_0k h0_1_0_e1_0c h0_1_0_e1_2 h0_1_0_e1_2k h0_1_0_e1_2c h0_1_0_e2 h0_1_0_e2_0 h0_1_0_e2_f1 h0_1_0_e2_2 h0_1_0_e2_0 h0_1_0_e2_0k h0_1_0_e2_0c h0_1_0_e2_2 h0_1_0_e2_2k h0_1_0_e2_2c h0_1_0_e3 h0_1_0_e3_0 h0_1_0_e3_f1 h0_1_0_e3_2 h0_1_0_e3_0 h0_1_0_e3_0k h0_1_0_e3_0c h0_1_0_e3_2 h0_1_0_e3_2k h0_1_0_e3_2c) U.heap ∧ va_K (dC, dI) vwCl [(h1_10k, .int), (h1_11k, .int), (h1_12k, .int), (h0_0_0k, .int), (h1_4k, .int), (h1_5k, .int), (h0_1_3k, .int), (h0_1_0k, .object RX4), (h0_1_0_e0_0k, .int), (h0_1_0_e0_2k, .int), (h0_1_0_e1_0k, .int), (h0_1_0_e1_2k, .int), (h0_1_0_e2_0k, .int), (h0_1_0_e2_2k, .int), (h0_1_0_e3_0k, .int), (h0_1_0_e3_2k, .int)] U ∧ va_D (fun _ => True) (wd_c_X10_drawOf h1 h1_f0 h1_f1 h1_f2 h1_f3 h1_4 h1_5 h1_6 h1_7 h1_8 h1_9 h1_10 h1_11 h1_12 h1_10 h1_10k h1_10c h1_11 h1_11k h1_11c h1_12 h1_12k h1_12c h0 h0_0 h0_1 h0_2 h0_3 h0_4 h0_5 h0_0 h0_0_0 h0_0_f1 h0_0_f2 h0_0_f3 h0_0_0 h0_0_0k h0_0_0c h1_4 h1_4k h1_4c h1_5 h1_5k h1_5c h0_1 h0_1_0 h0_1_f1 h0_1_f2 h0_1_3 h0_1_3 h0_1_3k h0_1_3c h0_1_0 h0_1_0k h0_1_0c h0_1_0_e0 h0_1_0_e0_0 h0_1_0_e0_f1 h0_1_0_e0_2 h0_1_0_e0_0 h0_1_0_e0_0k h0_1_0_e0_0c h0_1_0_e0_2 h0_1_0_e0_2k h0_1_0_e0_2c h0_1_0_e1 h0_1_0_e1_0 h0_1_0_e1_f1 h0_1_0_e1_2 h0_1_0_e1_0 h0_1_0_e1_0k h0_1_0_e1_0c h0_1_0_e1_2 h0_1_0_e1_2k h0_1_0_e1_2c h0_1_0_e2 h0_1_0_e2_0 h0_1_0_e2_f1 h0_1_0_e2_2 h0_1_0_e2_0 h0_1_0_e2_0k h0_1_0_e2_0c h0_1_0_e2_2 h0_1_0_e2_2k h0_1_0_e2_2c h0_1_0_e3 h0_1_0_e3_0 h0_1_0_e3_f1 h0_1_0_e3_2 h0_1_0_e3_0 h0_1_0_e3_0k h0_1_0_e3_0c h0_1_0_e3_2 h0_1_0_e3_2k h0_1_0_e3_2c))) (va_Qi (fun (r : Int32) (u : (Nat → Int32) × (Nat → Int32) × (Nat → Int32) × (Nat → Int32) × (Nat → Int32)) => (r = 0 ∧ RG h0_1_f1 1 4 ∧ RG h0_1_f2 0 3) ∨ (RG r (-2147483648) 2147483647) ∨ (r = (-99) ∧ RG h0_1_f1 1 4 ∧ RG h0_1_f2 0 3) ∨ (r = 99 ∧ RG h0_1_f1 1 4 ∧ RG h0_1_f2 0 3)) (fun (u : (Nat → Int32) × (Nat → Int32) × (Nat → Int32) × (Nat → Int32) × (Nat → Int32)) t => va_P (dC, dI) vwCl (wd_c_X10_drawOf h1 h1_f0 h1_f1 h1_f2 h1_f3 h1_4 h1_5 h1_6 h1_7 h1_8 h1_9 h1_10 h1_11 h1_12 h1_10 h1_10k h1_10c h1_11 h1_11k h1_11c h1_12 h1_12k h1_12c h0 h0_0 h0_1 h0_2 h0_3 h0_4 h0_5 h0_0 h0_0_0 h0_0_f1 h0_0_f2 h0_0_f3 h0_0_0 h0_0_0k h0_0_0c h1_4 h1_4k h1_4c h1_5 h1_5k h1_5c h0_1 h0_1_0 h0_1_f1 h0_1_f2 h0_1_3 h0_1_3 h0_1_3k (u.1) h0_1_0 h0_1_0k h0_1_0c h0_1_0_e0 h0_1_0_e0_0 h0_1_0_e0_f1 h0_1_0_e0_2 h0_1_0_e0_0 h0_1_0_e0_0k h0_1_0_e0_0c h0_1_0_e0_2 h0_1_0_e0_2k (u.2.1) h0_1_0_e1 h0_1_0_e1_0 h0_1_0_e1_f1 h0_1_0_e1_2 h0_1_0_e1_0 h0_1_0_e1_0k h0_1_0_e1_0c h0_1_0_e1_2 h0_1_0_e1_2k (u.2.2.1) h0_1_0_e2 h0_1_0_e2_0 h0_1_0_e2_f1 h0_1_0_e2_2 h0_1_0_e2_0 h0_1_0_e2_0k h0_1_0_e2_0c h0_1_0_e2_2 h0_1_0_e2_2k (u.2.2.2.1) h0_1_0_e3 h0_1_0_e3_0 h0_1_0_e3_f1 h0_1_0_e3_2 h0_1_0_e3_0 h0_1_0_e3_0k h0_1_0_e3_0c h0_1_0_e3_2 h0_1_0_e3_2k (u.2.2.2.2)) t.heap ∧ va_K (dC, dI) vwCl [] t ∧ va_D (va_A (wd_c_X10_drawOf h1 h1_f0 h1_f1 h1_f2 h1_f3 h1_4 h1_5 h1_6 h1_7 h1_8 h1_9 h1_10 h1_11 h1_12 h1_10 h1_10k h1_10c h1_11 h1_11k h1_11c h1_12 h1_12k h1_12c h0 h0_0 h0_1 h0_2 h0_3 h0_4 h0_5 h0_0 h0_0_0 h0_0_f1 h0_0_f2 h0_0_f3 h0_0_0 h0_0_0k h0_0_0c h1_4 h1_4k h1_4c h1_5 h1_5k h1_5c h0_1 h0_1_0 h0_1_f1 h0_1_f2 h0_1_3 h0_1_3 h0_1_3k h0_1_3c h0_1_0 h0_1_0k h0_1_0c h0_1_0_e0 h0_1_0_e0_0 h0_1_0_e0_f1 h0_1_0_e0_2 h0_1_0_e0_0 h0_1_0_e0_0k h0_1_0_e0_0c h0_1_0_e0_2 h0_1_0_e0_2k h0_1_0_e0_2c h0_1_0_e1 h0_1_0_e1_0 h0_1_0_e1_f1 h0_1_0_e1_2 h0_1_0_e1_0 h0_1_0_e1_0k h0_1_0_e1_0c h0_1_0_e1_2 h0_1_0_e1_2k h0_1_0_e1_2c h0_1_0_e2 h0_1_0_e2_0 h0_1_0_e2_f1 h0_1_0_e2_2 h0_1_0_e2_0 h0_1_0_e2_0k h0_1_0_e2_0c h0_1_0_e2_2 h0_1_0_e2_2k h0_1_0_e2_2c h0_1_0_e3 h0_1_0_e3_0 h0_1_0_e3_f1 h0_1_0_e3_2 h0_1_0_e3_0 h0_1_0_e3_0k h0_1_0_e3_0c h0_1_0_e3_2 h0_1_0_e3_2k h0_1_0_e3_2c) sz) (wd_c_X10_drawOf h1 h1_f0 h1_f1 h1_f2 h1_f3 h1_4 h1_5 h1_6 h1_7 h1_8 h1_9 h1_10 h1_11 h1_12 h1_10 h1_10k h1_10c h1_11 h1_11k h1_11c h1_12 h1_12k h1_12c h0 h0_0 h0_1 h0_2 h0_3 h0_4 h0_5 h0_0 h0_0_0 h0_0_f1 h0_0_f2 h0_0_f3 h0_0_0 h0_0_0k h0_0_0c h1_4 h1_4k h1_4c h1_5 h1_5k h1_5c h0_1 h0_1_0 h0_1_f1 h0_1_f2 h0_1_3 h0_1_3 h0_1_3k (u.1) h0_1_0 h0_1_0k h0_1_0c h0_1_0_e0 h0_1_0_e0_0 h0_1_0_e0_f1 h0_1_0_e0_2 h0_1_0_e0_0 h0_1_0_e0_0k h0_1_0_e0_0c h0_1_0_e0_2 h0_1_0_e0_2k (u.2.1) h0_1_0_e1 h0_1_0_e1_0 h0_1_0_e1_f1 h0_1_0_e1_2 h0_1_0_e1_0 h0_1_0_e1_0k h0_1_0_e1_0c h0_1_0_e1_2 h0_1_0_e1_2k (u.2.2.1) h0_1_0_e2 h0_1_0_e2_0 h0_1_0_e2_f1 h0_1_0_e2_2 h0_1_0_e2_0 h0_1_0_e2_0k h0_1_0_e2_0c h0_1_0_e2_2 h0_1_0_e2_2k (u.2.2.2.1) h0_1_0_e3 h0_1_0_e3_0 h0_1_0_e3_f1 h0_1_0_e3_2 h0_1_0_e3_0 h0_1_0_e3_0k h0_1_0_e3_0c h0_1_0_e3_2 h0_1_0_e3_2k (u.2.2.2.2))) (va_A (wd_c_X10_drawOf h1 h1_f0 h1_f1 h1_f2 h1_f3 h1_4 h1_5 h1_6 h1_7 h1_8 h1_9 h1_10 h1_11 h1_12 h1_10 h1_10k h1_10c h1_11 h1_11k h1_11c h1_12 h1_12k h1_12c h0 h0_0 h0_1 h0_2 h0_3 h0_4 h0_5 h0_0 h0_0_0 h0_0_f1 h0_0_f2 h0_0_f3 h0_0_0 h0_0_0k h0_0_0c h1_4 h1_4k h1_4c h1_5 h1_5k h1_5c h0_1 h0_1_0 h0_1_f1 h0_1_f2 h0_1_3 h0_1_3 h0_1_3k h0_1_3c h0_1_0 h0_1_0k h0_1_0c h0_1_0_e0 h0_1_0_e0_0 h0_1_0_e0_f1 h0_1_0_e0_2 h0_1_0_e0_0 h0_1_0_e0_0k h0_1_0_e0_0c h0_1_0_e0_2 h0_1_0_e0_2k h0_1_0_e0_2c h0_1_0_e1 h0_1_0_e1_0 h0_1_0_e1_f1 h0_1_0_e1_2 h0_1_0_e1_0 h0_1_0_e1_0k h0_1_0_e1_0c h0_1_0_e1_2 h0_1_0_e1_2k h0_1_0_e1_2c h0_1_0_e2 h0_1_0_e2_0 h0_1_0_e2_f1 h0_1_0_e2_2 h0_1_0_e2_0 h0_1_0_e2_0k h0_1_0_e2_0c h0_1_0_e2_2 h0_1_0_e2_2k h0_1_0_e2_2c h0_1_0_e3 h0_1_0_e3_0 h0_1_0_e3_f1 h0_1_0_e3_2 h0_1_0_e3_0 h0_1_0_e3_0k h0_1_0_e3_0c h0_1_0_e3_2 h0_1_0_e3_2k h0_1_0_e3_2c) sz)) 0 0 (va_A (wd_c_X10_drawOf h1 h1_f0 h1_f1 h1_f2 h1_f3 h1_4 h1_5 h1_6 h1_7 h1_8 h1_9 h1_10 h1_11 h1_12 h1_10 h1_10k h1_10c h1_11 h1_11k h1_11c h1_12 h1_12k h1_12c h0 h0_0 h0_1 h0_2 h0_3 h0_4 h0_5 h0_0 h0_0_0 h0_0_f1 h0_0_f2 h0_0_f3 h0_0_0 h0_0_0k h0_0_0c h1_4 h1_4k h1_4c h1_5 h1_5k h1_5c h0_1 h0_1_0 h0_1_f1 h0_1_f2 h0_1_3 h0_1_3 h0_1_3k h0_1_3c h0_1_0 h0_1_0k h0_1_0c h0_1_0_e0 h0_1_0_e0_0 h0_1_0_e0_f1 h0_1_0_e0_2 h0_1_0_e0_0 h0_1_0_e0_0k h0_1_0_e0_0c h0_1_0_e0_2 h0_1_0_e0_2k h0_1_0_e0_2c h0_1_0_e1 h0_1_0_e1_0 h0_1_0_e1_f1 h0_1_0_e1_2 h0_1_0_e1_0 h0_1_0_e1_0k h0_1_0_e1_0c h0_1_0_e1_2 h0_1_0_e1_2k h0_1_0_e1_2c h0_1_0_e2 h0_1_0_e2_0 h0_1_0_e2_f1 h0_1_0_e2_2 h0_1_0_e2_0 h0_1_0_e2_0k h0_1_0_e2_0c h0_1_0_e2_2 h0_1_0_e2_2k h0_1_0_e2_2c h0_1_0_e3 h0_1_0_e3_0 h0_1_0_e3_f1 h0_1_0_e3_2 h0_1_0_e3_0 h0_1_0_e3_0k h0_1_0_e3_0c h0_1_0_e3_2 h0_1_0_e3_2k h0_1_0_e3_2c) sz) := by
  refine Met.ofW (cc := cX10_drawOf) (maxL := 7) (ret := (some .int)) (by decide +kernel) rfl ?_
  intro p e s m args below meth c s₁ B hml hv
  obtain ⟨rfl, hsz, hP, hK, hD0⟩ := hv
  have hx := B.exec
  have hb := B.bytes
  have hr := B.returns
  have hts := atoms_spec (ws := wf_c_X10_drawOf) B.pre
  have hown : s.vm.findClass RX10 = some m.cls := findClass_of_methodNamed B.named
  have hlocks := B.notSynchronized
  subst hsz
  have hD := hD0.self (sz := s.heap.size)
  generalize hAe : va_A (wd_c_X10_drawOf h1 h1_f0 h1_f1 h1_f2 h1_f3 h1_4 h1_5 h1_6 h1_7 h1_8 h1_9 h1_10 h1_11 h1_12 h1_10 h1_10k h1_10c h1_11 h1_11k h1_11c h1_12 h1_12k h1_12c h0 h0_0 h0_1 h0_2 h0_3 h0_4 h0_5 h0_0 h0_0_0 h0_0_f1 h0_0_f2 h0_0_f3 h0_0_0 h0_0_0k h0_0_0c h1_4 h1_4k h1_4c h1_5 h1_5k h1_5c h0_1 h0_1_0 h0_1_f1 h0_1_f2 h0_1_3 h0_1_3 h0_1_3k h0_1_3c h0_1_0 h0_1_0k h0_1_0c h0_1_0_e0 h0_1_0_e0_0 h0_1_0_e0_f1 h0_1_0_e0_2 h0_1_0_e0_0 h0_1_0_e0_0k h0_1_0_e0_0c h0_1_0_e0_2 h0_1_0_e0_2k h0_1_0_e0_2c h0_1_0_e1 h0_1_0_e1_0 h0_1_0_e1_f1 h0_1_0_e1_2 h0_1_0_e1_0 h0_1_0_e1_0k h0_1_0_e1_0c h0_1_0_e1_2 h0_1_0_e1_2k h0_1_0_e1_2c h0_1_0_e2 h0_1_0_e2_0 h0_1_0_e2_f1 h0_1_0_e2_2 h0_1_0_e2_0 h0_1_0_e2_0k h0_1_0_e2_0c h0_1_0_e2_2 h0_1_0_e2_2k h0_1_0_e2_2c h0_1_0_e3 h0_1_0_e3_0 h0_1_0_e3_f1 h0_1_0_e3_2 h0_1_0_e3_0 h0_1_0_e3_0k h0_1_0_e3_0c h0_1_0_e3_2 h0_1_0_e3_2k h0_1_0_e3_2c) s.heap.size = A at hD ⊢
  have hA : ∀ q : Nat, s.heap.size ≤ q → A q := fun q h => by rw [← hAe]; exact Or.inr h
  have hP : va_P (dC, dI) vwCl (wd_c_X10_drawOf h1 h1_f0 h1_f1 h1_f2 h1_f3 h1_4 h1_5 h1_6 h1_7 h1_8 h1_9 h1_10 h1_11 h1_12 h1_10 h1_10k h1_10c h1_11 h1_11k h1_11c h1_12 h1_12k h1_12c h0 h0_0 h0_1 h0_2 h0_3 h0_4 h0_5 h0_0 h0_0_0 h0_0_f1 h0_0_f2 h0_0_f3 h0_0_0 h0_0_0k h0_0_0c h1_4 h1_4k h1_4c h1_5 h1_5k h1_5c h0_1 h0_1_0 h0_1_f1 h0_1_f2 h0_1_3 h0_1_3 h0_1_3k h0_1_3c h0_1_0 h0_1_0k h0_1_0c h0_1_0_e0 h0_1_0_e0_0 h0_1_0_e0_f1 h0_1_0_e0_2 h0_1_0_e0_0 h0_1_0_e0_0k h0_1_0_e0_0c h0_1_0_e0_2 h0_1_0_e0_2k h0_1_0_e0_2c h0_1_0_e1 h0_1_0_e1_0 h0_1_0_e1_f1 h0_1_0_e1_2 h0_1_0_e1_0 h0_1_0_e1_0k h0_1_0_e1_0c h0_1_0_e1_2 h0_1_0_e1_2k h0_1_0_e1_2c h0_1_0_e2 h0_1_0_e2_0 h0_1_0_e2_f1 h0_1_0_e2_2 h0_1_0_e2_0 h0_1_0_e2_0k h0_1_0_e2_0c h0_1_0_e2_2 h0_1_0_e2_2k h0_1_0_e2_2c h0_1_0_e3 h0_1_0_e3_0 h0_1_0_e3_f1 h0_1_0_e3_2 h0_1_0_e3_0 h0_1_0_e3_0k h0_1_0_e3_0c h0_1_0_e3_2 h0_1_0_e3_2k h0_1_0_e3_2c) s.heap := hP
  have hl := lv_entry ([.ref h0, .ref h1, .int p2, .int p3]) (n := 7) (Nat.le_of_ble_eq_true rfl)
  rw [lg_entry_eq]
  generalize (lg_sl ([.ref h0, .ref h1, .int p2, .int p3]) ++ List.replicate (7 - (lg_sl ([.ref h0, .ref h1, .int p2, .int p3])).length) Slot.unset).toArray = ls at hl ⊢
  have hl : lv_has ls 7 [(0, .ref h0), (1, .ref h1), (2, .int p2), (3, .int p3)] := hl
  obtain ⟨H, hHe⟩ : ∃ H : Heap, s.heap = H := ⟨_, rfl⟩
  have hS : va_S A s.heap H [] := by rw [hHe]; exact va_S.rf
  have hP : va_P (dC, dI) vwCl (wd_c_X10_drawOf h1 h1_f0 h1_f1 h1_f2 h1_f3 h1_4 h1_5 h1_6 h1_7 h1_8 h1_9 h1_10 h1_11 h1_12 h1_10 h1_10k h1_10c h1_11 h1_11k h1_11c h1_12 h1_12k h1_12c h0 h0_0 h0_1 h0_2 h0_3 h0_4 h0_5 h0_0 h0_0_0 h0_0_f1 h0_0_f2 h0_0_f3 h0_0_0 h0_0_0k h0_0_0c h1_4 h1_4k h1_4c h1_5 h1_5k h1_5c h0_1 h0_1_0 h0_1_f1 h0_1_f2 h0_1_3 h0_1_3 h0_1_3k h0_1_3c h0_1_0 h0_1_0k h0_1_0c h0_1_0_e0 h0_1_0_e0_0 h0_1_0_e0_f1 h0_1_0_e0_2 h0_1_0_e0_0 h0_1_0_e0_0k h0_1_0_e0_0c h0_1_0_e0_2 h0_1_0_e0_2k h0_1_0_e0_2c h0_1_0_e1 h0_1_0_e1_0 h0_1_0_e1_f1 h0_1_0_e1_2 h0_1_0_e1_0 h0_1_0_e1_0k h0_1_0_e1_0c h0_1_0_e1_2 h0_1_0_e1_2k h0_1_0_e1_2c h0_1_0_e2 h0_1_0_e2_0 h0_1_0_e2_f1 h0_1_0_e2_2 h0_1_0_e2_0 h0_1_0_e2_0k h0_1_0_e2_0c h0_1_0_e2_2 h0_1_0_e2_2k h0_1_0_e2_2c h0_1_0_e3 h0_1_0_e3_0 h0_1_0_e3_f1 h0_1_0_e3_2 h0_1_0_e3_0 h0_1_0_e3_0k h0_1_0_e3_0c h0_1_0_e3_2 h0_1_0_e3_2k h0_1_0_e3_2c) H := by rw [← hHe]; exact hP
  rw [hHe]
  refine wj (fun G hG hU => ?_)
  as_aux_lemma =>
  have J32 : ∀ (j32_l4 : Int32) (g_h0_0_f1 : RG h0_0_f1 0 8) (g_h0_0_f2 : RG h0_0_f2 0 3) (g_h0_0_f3 : RG h0_0_f3 0 1) (g_h0_1_0_e0_f1 : RG h0_1_0_e0_f1 0 240) (g_h0_1_0_e1_f1 : RG h0_1_0_e1_f1 0 240) (g_h0_1_0_e2_f1 : RG h0_1_0_e2_f1 0 240) (g_h0_1_0_e3_f1 : RG h0_1_0_e3_f1 0 240) (g_h0_1_f1 : RG h0_1_f1 0 4) (g_p2 : RG p2 0 7) (g_p3 : RG p3 0 2) (H : Heap) (locs : List Loc) (ls : Array Slot) (hP : va_P (dC, dI) vwCl (wd_c_X10_drawOf h1 h1_f0 h1_f1 h1_f2 h1_f3 h1_4 h1_5 h1_6 h1_7 h1_8 h1_9 h1_10 h1_11 h1_12 h1_10 h1_10k h1_10c h1_11 h1_11k h1_11c h1_12 h1_12k h1_12c h0 h0_0 h0_1 h0_2 h0_3 h0_4 h0_5 h0_0 h0_0_0 h0_0_f1 h0_0_f2 h0_0_f3 h0_0_0 h0_0_0k h0_0_0c h1_4 h1_4k h1_4c h1_5 h1_5k h1_5c h0_1 h0_1_0 h0_1_f1 h0_1_f2 h0_1_3 h0_1_3 h0_1_3k h0_1_3c h0_1_0 h0_1_0k h0_1_0c h0_1_0_e0 h0_1_0_e0_0 h0_1_0_e0_f1 h0_1_0_e0_2 h0_1_0_e0_0 h0_1_0_e0_0k h0_1_0_e0_0c h0_1_0_e0_2 h0_1_0_e0_2k h0_1_0_e0_2c h0_1_0_e1 h0_1_0_e1_0 h0_1_0_e1_f1 h0_1_0_e1_2 h0_1_0_e1_0 h0_1_0_e1_0k h0_1_0_e1_0c h0_1_0_e1_2 h0_1_0_e1_2k h0_1_0_e1_2c h0_1_0_e2 h0_1_0_e2_0 h0_1_0_e2_f1 h0_1_0_e2_2 h0_1_0_e2_0 h0_1_0_e2_0k h0_1_0_e2_0c h0_1_0_e2_2 h0_1_0_e2_2k h0_1_0_e2_2c h0_1_0_e3 h0_1_0_e3_0 h0_1_0_e3_f1 h0_1_0_e3_2 h0_1_0_e3_0 h0_1_0_e3_0k h0_1_0_e3_0c h0_1_0_e3_2 h0_1_0_e3_2k h0_1_0_e3_2c) H) (hD : va_D A (wd_c_X10_drawOf h1 h1_f0 h1_f1 h1_f2 h1_f3 h1_4 h1_5 h1_6 h1_7 h1_8 h1_9 h1_10 h1_11 h1_12 h1_10 h1_10k h1_10c h1_11 h1_11k h1_11c h1_12 h1_12k h1_12c h0 h0_0 h0_1 h0_2 h0_3 h0_4 h0_5 h0_0 h0_0_0 h0_0_f1 h0_0_f2 h0_0_f3 h0_0_0 h0_0_0k h0_0_0c h1_4 h1_4k h1_4c h1_5 h1_5k h1_5c h0_1 h0_1_0 h0_1_f1 h0_1_f2 h0_1_3 h0_1_3 h0_1_3k h0_1_3c h0_1_0 h0_1_0k h0_1_0c h0_1_0_e0 h0_1_0_e0_0 h0_1_0_e0_f1 h0_1_0_e0_2 h0_1_0_e0_0 h0_1_0_e0_0k h0_1_0_e0_0c h0_1_0_e0_2 h0_1_0_e0_2k h0_1_0_e0_2c h0_1_0_e1 h0_1_0_e1_0 h0_1_0_e1_f1 h0_1_0_e1_2 h0_1_0_e1_0 h0_1_0_e1_0k h0_1_0_e1_0c h0_1_0_e1_2 h0_1_0_e1_2k h0_1_0_e1_2c h0_1_0_e2 h0_1_0_e2_0 h0_1_0_e2_f1 h0_1_0_e2_2 h0_1_0_e2_0 h0_1_0_e2_0k h0_1_0_e2_0c h0_1_0_e2_2 h0_1_0_e2_2k h0_1_0_e2_2c h0_1_0_e3 h0_1_0_e3_0 h0_1_0_e3_f1 h0_1_0_e3_2 h0_1_0_e3_0 h0_1_0_e3_0k h0_1_0_e3_0c h0_1_0_e3_2 h0_1_0_e3_2k h0_1_0_e3_2c)) (hS : va_S A s.heap H locs) (hl : lv_has ls 7 [(4, .int j32_l4), (0, .ref h0), (1, .ref h1), (2, .int p2), (3, .int p3)]), G H locs (F0 m 32 ls [.int 0]) := by
    as_aux_lemma =>
    intro j32_l4 g_h0_0_f1 g_h0_0_f2 g_h0_0_f3 g_h0_1_0_e0_f1 g_h0_1_0_e1_f1 g_h0_1_0_e2_f1 g_h0_1_0_e3_f1 g_h0_1_f1 g_p2 g_p3 H locs ls hP hD hS hl
    refine hG _ _ _ ?_
    refine lv_istore (lv' := [(5, .int 0), (4, .int j32_l4), (0, .ref h0), (1, .ref h1), (2, .int p2), (3, .int p3)]) hx hb dX10_drawOf_32 hl (Nat.le_of_ble_eq_true rfl) rfl (fun ls hl => ?_)
    refine lv_aload_n hx hb dX10_drawOf_34 rfl (lv_at hl 3 rfl) ?_
    refine lv_iload_n hx hb dX10_drawOf_35 rfl (lv_at hl 5 rfl) ?_
    refine lv_aload_n hx hb dX10_drawOf_36 rfl (lv_at hl 2 rfl) ?_
    refine va_get (D := (dC, dI)) (ci := 10) (v := .ref h0_0) (C := RX10) (T := TX10) (N := 6) hx hb hts iw_c_X10_drawOf_X10 hown hK hP 4 rfl rfl 0 (by decide +kernel) (hts (.fieldLink RX10 9 "BuoyVote$Waters" "told" "LBuoyVote$Borough;") (List.mem_of_getElem? (i := 4) rfl)) (fun _ h9 => h9) rfl dX10_drawOf_37 ?_
    refine lv_iload_n hx hb dX10_drawOf_40 rfl (lv_at hl 4 rfl) ?_
    obtain ⟨hPc, hDc, hFc, hqc⟩ := cl_cut (wc := (wd_c_X0_buoyX h0_0 h0_0_0 h0_0_f1 h0_0_f2 h0_0_f3 h0_0_0 h0_0_0k h0_0_0c)) hP hD hS hA [5, 6] (by decide +kernel) rfl
    have hKc := hK.sub (tys' := [(h0_0_0k, .int)]) [3] rfl
    have hrv := va_recv hKc hPc (ci := 0) (q0 := 0) rfl rfl
    refine va_calli (va_runV (As := [.int p2]) (rest := [.int p3, .ref h1]) ⟨hx, hb, hml, hown, hts⟩ (c_X0_buoyX l dC dI H.size h0_0 p2 h0_0_0 h0_0_f1 h0_0_f2 h0_0_f3 h0_0_0k h0_0_0c g_p2 g_h0_0_f1 g_h0_0_f2 g_h0_0_f3 a_h0_0_0c) (cwV 1 hts gf_c_X10_drawOf_c_X0_buoyX rfl rfl rfl mdV_X0_buoyX ⟨Nat.le_of_ble_eq_true rfl, Nat.le_of_ble_eq_true rfl⟩) ⟨fun a U g mk q => by obtain ⟨q0, q1, qP, qK, qD⟩ := q; exact ⟨q0, q1, qP, va_K.moved (u := U) (U := U.calling g mk a) (Vm.Alike.refl U.vm) qK, qD⟩, hrv, fun U hU hW => ⟨rfl, by rw [hU], by rw [hU]; exact hPc, va_K.moved hW.alike hKc, hDc.weaken (fun _ _ _ _ => trivial)⟩⟩ rfl rfl hl.1 rfl (lv_room (Nat.le_of_ble_eq_true rfl)) dX10_drawOf_41 ⟨Nat.le_of_ble_eq_true rfl, Nat.le_of_ble_eq_true rfl⟩) hS (fun q _ h => hFc q h) hFc (fun r_1 u t H1 locs ht hvm hw hB hz1 hk1 hS => ?_)
    obtain ⟨hP1, hK1, hD1⟩ := hB
    rw [ht] at hP1
    obtain ⟨hP, hD⟩ := cl_put (w1 := (wd_c_X0_buoyX h0_0 h0_0_0 h0_0_f1 h0_0_f2 h0_0_f3 h0_0_0 h0_0_0k h0_0_0c)) (nw := (wd_c_X10_drawOf h1 h1_f0 h1_f1 h1_f2 h1_f3 h1_4 h1_5 h1_6 h1_7 h1_8 h1_9 h1_10 h1_11 h1_12 h1_10 h1_10k h1_10c h1_11 h1_11k h1_11c h1_12 h1_12k h1_12c h0 h0_0 h0_1 h0_2 h0_3 h0_4 h0_5 h0_0 h0_0_0 h0_0_f1 h0_0_f2 h0_0_f3 h0_0_0 h0_0_0k h0_0_0c h1_4 h1_4k h1_4c h1_5 h1_5k h1_5c h0_1 h0_1_0 h0_1_f1 h0_1_f2 h0_1_3 h0_1_3 h0_1_3k h0_1_3c h0_1_0 h0_1_0k h0_1_0c h0_1_0_e0 h0_1_0_e0_0 h0_1_0_e0_f1 h0_1_0_e0_2 h0_1_0_e0_0 h0_1_0_e0_0k h0_1_0_e0_0c h0_1_0_e0_2 h0_1_0_e0_2k h0_1_0_e0_2c h0_1_0_e1 h0_1_0_e1_0 h0_1_0_e1_f1 h0_1_0_e1_2 h0_1_0_e1_0 h0_1_0_e1_0k h0_1_0_e1_0c h0_1_0_e1_2 h0_1_0_e1_2k h0_1_0_e1_2c h0_1_0_e2 h0_1_0_e2_0 h0_1_0_e2_f1 h0_1_0_e2_2 h0_1_0_e2_0 h0_1_0_e2_0k h0_1_0_e2_0c h0_1_0_e2_2 h0_1_0_e2_2k h0_1_0_e2_2c h0_1_0_e3 h0_1_0_e3_0 h0_1_0_e3_f1 h0_1_0_e3_2 h0_1_0_e3_0 h0_1_0_e3_0k h0_1_0_e3_0c h0_1_0_e3_2 h0_1_0_e3_2k h0_1_0_e3_2c)) hP hD [5, 6] [0, 1, 2, 3, 4, 24, 25, 7, 8, 9, 10, 11, 12, 13, 14, 15, 16, 17, 18, 19, 20, 21, 22, 23] 24 rfl hqc (by decide +kernel) rfl hk1 hFc hP1 hD1
    generalize H1 = H at hP hS ⊢
    as_aux_lemma =>
    rcases hw with ⟨h_2, h_3⟩
    refine lv_aload_n hx hb dX10_drawOf_44 rfl (lv_at hl 2 rfl) ?_
    refine va_get (D := (dC, dI)) (ci := 10) (v := .ref h0_0) (C := RX10) (T := TX10) (N := 6) hx hb hts iw_c_X10_drawOf_X10 hown hK hP 4 rfl rfl 0 (by decide +kernel) (hts (.fieldLink RX10 9 "BuoyVote$Waters" "told" "LBuoyVote$Borough;") (List.mem_of_getElem? (i := 4) rfl)) (fun _ h9 => h9) rfl dX10_drawOf_45 ?_
    refine lv_iload_n hx hb dX10_drawOf_48 rfl (lv_at hl 4 rfl) ?_
    obtain ⟨hPc, hDc, hFc, hqc⟩ := cl_cut (wc := (wd_c_X0_buoyY h0_0 h0_0_0 h0_0_f1 h0_0_f2 h0_0_f3 h0_0_0 h0_0_0k h0_0_0c)) hP hD hS hA [5, 6] (by decide +kernel) rfl
    have hKc := hK.sub (tys' := [(h0_0_0k, .int)]) [3] rfl
    have hrv := va_recv hKc hPc (ci := 0) (q0 := 0) rfl rfl
    refine va_calli (va_runV (As := [.int p2]) (rest := [.int r_1, .int p3, .ref h1]) ⟨hx, hb, hml, hown, hts⟩ (c_X0_buoyY l dC dI H.size h0_0 p2 h0_0_0 h0_0_f1 h0_0_f2 h0_0_f3 h0_0_0k h0_0_0c g_p2 g_h0_0_f1 g_h0_0_f2 g_h0_0_f3 a_h0_0_0c) (cwV 1 hts gf_c_X10_drawOf_c_X0_buoyY rfl rfl rfl mdV_X0_buoyY ⟨Nat.le_of_ble_eq_true rfl, Nat.le_of_ble_eq_true rfl⟩) ⟨fun a U g mk q => by obtain ⟨q0, q1, qP, qK, qD⟩ := q; exact ⟨q0, q1, qP, va_K.moved (u := U) (U := U.calling g mk a) (Vm.Alike.refl U.vm) qK, qD⟩, hrv, fun U hU hW => ⟨rfl, by rw [hU], by rw [hU]; exact hPc, va_K.moved hW.alike hKc, hDc.weaken (fun _ _ _ _ => trivial)⟩⟩ rfl rfl hl.1 rfl (lv_room (Nat.le_of_ble_eq_true rfl)) dX10_drawOf_49 ⟨Nat.le_of_ble_eq_true rfl, Nat.le_of_ble_eq_true rfl⟩) hS (fun q _ h => hFc q h) hFc (fun r_4 u t H1 locs ht hvm hw hB hz1 hk1 hS => ?_)
    obtain ⟨hP1, hK1, hD1⟩ := hB
    rw [ht] at hP1
    obtain ⟨hP, hD⟩ := cl_put (w1 := (wd_c_X0_buoyY h0_0 h0_0_0 h0_0_f1 h0_0_f2 h0_0_f3 h0_0_0 h0_0_0k h0_0_0c)) (nw := (wd_c_X10_drawOf h1 h1_f0 h1_f1 h1_f2 h1_f3 h1_4 h1_5 h1_6 h1_7 h1_8 h1_9 h1_10 h1_11 h1_12 h1_10 h1_10k h1_10c h1_11 h1_11k h1_11c h1_12 h1_12k h1_12c h0 h0_0 h0_1 h0_2 h0_3 h0_4 h0_5 h0_0 h0_0_0 h0_0_f1 h0_0_f2 h0_0_f3 h0_0_0 h0_0_0k h0_0_0c h1_4 h1_4k h1_4c h1_5 h1_5k h1_5c h0_1 h0_1_0 h0_1_f1 h0_1_f2 h0_1_3 h0_1_3 h0_1_3k h0_1_3c h0_1_0 h0_1_0k h0_1_0c h0_1_0_e0 h0_1_0_e0_0 h0_1_0_e0_f1 h0_1_0_e0_2 h0_1_0_e0_0 h0_1_0_e0_0k h0_1_0_e0_0c h0_1_0_e0_2 h0_1_0_e0_2k h0_1_0_e0_2c h0_1_0_e1 h0_1_0_e1_0 h0_1_0_e1_f1 h0_1_0_e1_2 h0_1_0_e1_0 h0_1_0_e1_0k h0_1_0_e1_0c h0_1_0_e1_2 h0_1_0_e1_2k h0_1_0_e1_2c h0_1_0_e2 h0_1_0_e2_0 h0_1_0_e2_f1 h0_1_0_e2_2 h0_1_0_e2_0 h0_1_0_e2_0k h0_1_0_e2_0c h0_1_0_e2_2 h0_1_0_e2_2k h0_1_0_e2_2c h0_1_0_e3 h0_1_0_e3_0 h0_1_0_e3_f1 h0_1_0_e3_2 h0_1_0_e3_0 h0_1_0_e3_0k h0_1_0_e3_0c h0_1_0_e3_2 h0_1_0_e3_2k h0_1_0_e3_2c)) hP hD [5, 6] [0, 1, 2, 3, 4, 24, 25, 7, 8, 9, 10, 11, 12, 13, 14, 15, 16, 17, 18, 19, 20, 21, 22, 23] 24 rfl hqc (by decide +kernel) rfl hk1 hFc hP1 hD1
    generalize H1 = H at hP hS ⊢
    as_aux_lemma =>
    rcases hw with ⟨h_5, h_6⟩
    obtain ⟨hPc, hDc, hFc, hqc⟩ := cl_cut (wc := (wd_c_X7_awayOf h1 h1_f0 h1_f1 h1_f2 h1_f3 h1_4 h1_5 h1_6 h1_7 h1_8 h1_9 h1_10 h1_11 h1_12 h1_4 h1_4k h1_4c h1_5 h1_5k h1_5c)) hP hD hS hA [0, 7, 8] (by decide +kernel) rfl
    have hKc := hK.sub (tys' := [(h1_4k, .int), (h1_5k, .int)]) [4, 5] rfl
    have hrv := va_recv hKc hPc (ci := 7) (q0 := 0) rfl rfl
    refine va_calli (va_runV (As := [.int p3, .int r_1, .int r_4]) (rest := []) ⟨hx, hb, hml, hown, hts⟩ (c_X7_awayOf l dC dI H.size h1 p3 r_1 r_4 h1_f0 h1_f1 h1_f2 h1_f3 h1_4 h1_5 h1_6 h1_7 h1_8 h1_9 h1_10 h1_11 h1_12 h1_4k h1_4c h1_5k h1_5c g_p3 h_2 h_5) (cwV 3 hts gf_c_X10_drawOf_c_X7_awayOf rfl rfl rfl mdV_X7_awayOf ⟨Nat.le_of_ble_eq_true rfl, Nat.le_of_ble_eq_true rfl⟩) ⟨fun a U g mk q => by obtain ⟨q0, q1, qP, qK, qD⟩ := q; exact ⟨q0, q1, qP, va_K.moved (u := U) (U := U.calling g mk a) (Vm.Alike.refl U.vm) qK, qD⟩, hrv, fun U hU hW => ⟨rfl, by rw [hU], by rw [hU]; exact hPc, va_K.moved hW.alike hKc, hDc.weaken (fun _ _ _ _ => trivial)⟩⟩ rfl rfl hl.1 rfl (lv_room (Nat.le_of_ble_eq_true rfl)) dX10_drawOf_52 ⟨Nat.le_of_ble_eq_true rfl, Nat.le_of_ble_eq_true rfl⟩) hS (fun q _ h => hFc q h) hFc (fun r_7 u t H1 locs ht hvm hw hB hz1 hk1 hS => ?_)
    obtain ⟨hP1, hK1, hD1⟩ := hB
    rw [ht] at hP1
    obtain ⟨hP, hD⟩ := cl_put (w1 := (wd_c_X7_awayOf h1 h1_f0 h1_f1 h1_f2 h1_f3 h1_4 h1_5 h1_6 h1_7 h1_8 h1_9 h1_10 h1_11 h1_12 h1_4 h1_4k h1_4c h1_5 h1_5k h1_5c)) (nw := (wd_c_X10_drawOf h1 h1_f0 h1_f1 h1_f2 h1_f3 h1_4 h1_5 h1_6 h1_7 h1_8 h1_9 h1_10 h1_11 h1_12 h1_10 h1_10k h1_10c h1_11 h1_11k h1_11c h1_12 h1_12k h1_12c h0 h0_0 h0_1 h0_2 h0_3 h0_4 h0_5 h0_0 h0_0_0 h0_0_f1 h0_0_f2 h0_0_f3 h0_0_0 h0_0_0k h0_0_0c h1_4 h1_4k h1_4c h1_5 h1_5k h1_5c h0_1 h0_1_0 h0_1_f1 h0_1_f2 h0_1_3 h0_1_3 h0_1_3k h0_1_3c h0_1_0 h0_1_0k h0_1_0c h0_1_0_e0 h0_1_0_e0_0 h0_1_0_e0_f1 h0_1_0_e0_2 h0_1_0_e0_0 h0_1_0_e0_0k h0_1_0_e0_0c h0_1_0_e0_2 h0_1_0_e0_2k h0_1_0_e0_2c h0_1_0_e1 h0_1_0_e1_0 h0_1_0_e1_f1 h0_1_0_e1_2 h0_1_0_e1_0 h0_1_0_e1_0k h0_1_0_e1_0c h0_1_0_e1_2 h0_1_0_e1_2k h0_1_0_e1_2c h0_1_0_e2 h0_1_0_e2_0 h0_1_0_e2_f1 h0_1_0_e2_2 h0_1_0_e2_0 h0_1_0_e2_0k h0_1_0_e2_0c h0_1_0_e2_2 h0_1_0_e2_2k h0_1_0_e2_2c h0_1_0_e3 h0_1_0_e3_0 h0_1_0_e3_f1 h0_1_0_e3_2 h0_1_0_e3_0 h0_1_0_e3_0k h0_1_0_e3_0c h0_1_0_e3_2 h0_1_0_e3_2k h0_1_0_e3_2c)) hP hD [0, 7, 8] [24, 1, 2, 3, 4, 5, 6, 25, 26, 9, 10, 11, 12, 13, 14, 15, 16, 17, 18, 19, 20, 21, 22, 23] 24 rfl hqc (by decide +kernel) rfl hk1 hFc hP1 hD1
    generalize H1 = H at hP hS ⊢
    as_aux_lemma =>
    have h_8 := hw
    refine lv_istore (lv' := [(6, .int r_7), (5, .int 0), (4, .int j32_l4), (0, .ref h0), (1, .ref h1), (2, .int p2), (3, .int p3)]) hx hb dX10_drawOf_55 hl (Nat.le_of_ble_eq_true rfl) rfl (fun ls hl => ?_)
    refine lv_aload_n hx hb dX10_drawOf_57 rfl (lv_at hl 3 rfl) ?_
    refine va_get (D := (dC, dI)) (ci := 10) (v := .ref h0_1) (C := RX10) (T := TX10) (N := 6) hx hb hts iw_c_X10_drawOf_X10 hown hK hP 4 rfl rfl 1 (by decide +kernel) (hts (.fieldLink RX10 15 "BuoyVote$Waters" "laws" "LBuoyVote$LawBook;") (List.mem_of_getElem? (i := 26) rfl)) (fun _ h9 => h9) rfl dX10_drawOf_58 ?_
    refine lv_aload_n hx hb dX10_drawOf_61 rfl (lv_at hl 3 rfl) ?_
    refine va_get (D := (dC, dI)) (ci := 10) (v := .ref h0_0) (C := RX10) (T := TX10) (N := 6) hx hb hts iw_c_X10_drawOf_X10 hown hK hP 4 rfl rfl 0 (by decide +kernel) (hts (.fieldLink RX10 9 "BuoyVote$Waters" "told" "LBuoyVote$Borough;") (List.mem_of_getElem? (i := 4) rfl)) (fun _ h9 => h9) rfl dX10_drawOf_62 ?_
    refine lv_iload_n hx hb dX10_drawOf_65 rfl (lv_at hl 6 rfl) ?_
    obtain ⟨hPc, hDc, hFc, hqc⟩ := cl_cut (wc := (wd_c_X0_voice h0_0 h0_0_0 h0_0_f1 h0_0_f2 h0_0_f3 h0_0_0 h0_0_0k h0_0_0c)) hP hD hS hA [5, 6] (by decide +kernel) rfl
    have hKc := hK.sub (tys' := [(h0_0_0k, .int)]) [3] rfl
    have hrv := va_recv hKc hPc (ci := 0) (q0 := 0) rfl rfl
    refine va_calli (va_runV (As := [.int p3]) (rest := [.ref h0_1]) ⟨hx, hb, hml, hown, hts⟩ (c_X0_voice l dC dI H.size h0_0 p3 h0_0_0 h0_0_f1 h0_0_f2 h0_0_f3 h0_0_0k h0_0_0c g_p3 g_h0_0_f1 g_h0_0_f2 g_h0_0_f3 a_h0_0_0c) (cwV 1 hts gf_c_X10_drawOf_c_X0_voice rfl rfl rfl mdV_X0_voice ⟨Nat.le_of_ble_eq_true rfl, Nat.le_of_ble_eq_true rfl⟩) ⟨fun a U g mk q => by obtain ⟨q0, q1, qP, qK, qD⟩ := q; exact ⟨q0, q1, qP, va_K.moved (u := U) (U := U.calling g mk a) (Vm.Alike.refl U.vm) qK, qD⟩, hrv, fun U hU hW => ⟨rfl, by rw [hU], by rw [hU]; exact hPc, va_K.moved hW.alike hKc, hDc.weaken (fun _ _ _ _ => trivial)⟩⟩ rfl rfl hl.1 rfl (lv_room (Nat.le_of_ble_eq_true rfl)) dX10_drawOf_66 ⟨Nat.le_of_ble_eq_true rfl, Nat.le_of_ble_eq_true rfl⟩) hS (fun q _ h => hFc q h) hFc (fun r_9 u t H1 locs ht hvm hw hB hz1 hk1 hS => ?_)
    obtain ⟨hP1, hK1, hD1⟩ := hB
    rw [ht] at hP1
    obtain ⟨hP, hD⟩ := cl_put (w1 := (wd_c_X0_voice h0_0 h0_0_0 h0_0_f1 h0_0_f2 h0_0_f3 h0_0_0 h0_0_0k h0_0_0c)) (nw := (wd_c_X10_drawOf h1 h1_f0 h1_f1 h1_f2 h1_f3 h1_4 h1_5 h1_6 h1_7 h1_8 h1_9 h1_10 h1_11 h1_12 h1_10 h1_10k h1_10c h1_11 h1_11k h1_11c h1_12 h1_12k h1_12c h0 h0_0 h0_1 h0_2 h0_3 h0_4 h0_5 h0_0 h0_0_0 h0_0_f1 h0_0_f2 h0_0_f3 h0_0_0 h0_0_0k h0_0_0c h1_4 h1_4k h1_4c h1_5 h1_5k h1_5c h0_1 h0_1_0 h0_1_f1 h0_1_f2 h0_1_3 h0_1_3 h0_1_3k h0_1_3c h0_1_0 h0_1_0k h0_1_0c h0_1_0_e0 h0_1_0_e0_0 h0_1_0_e0_f1 h0_1_0_e0_2 h0_1_0_e0_0 h0_1_0_e0_0k h0_1_0_e0_0c h0_1_0_e0_2 h0_1_0_e0_2k h0_1_0_e0_2c h0_1_0_e1 h0_1_0_e1_0 h0_1_0_e1_f1 h0_1_0_e1_2 h0_1_0_e1_0 h0_1_0_e1_0k h0_1_0_e1_0c h0_1_0_e1_2 h0_1_0_e1_2k h0_1_0_e1_2c h0_1_0_e2 h0_1_0_e2_0 h0_1_0_e2_f1 h0_1_0_e2_2 h0_1_0_e2_0 h0_1_0_e2_0k h0_1_0_e2_0c h0_1_0_e2_2 h0_1_0_e2_2k h0_1_0_e2_2c h0_1_0_e3 h0_1_0_e3_0 h0_1_0_e3_f1 h0_1_0_e3_2 h0_1_0_e3_0 h0_1_0_e3_0k h0_1_0_e3_0c h0_1_0_e3_2 h0_1_0_e3_2k h0_1_0_e3_2c)) hP hD [5, 6] [0, 1, 2, 3, 4, 24, 25, 7, 8, 9, 10, 11, 12, 13, 14, 15, 16, 17, 18, 19, 20, 21, 22, 23] 24 rfl hqc (by decide +kernel) rfl hk1 hFc hP1 hD1
    generalize H1 = H at hP hS ⊢
    as_aux_lemma =>
    have h_10 := hw
    refine lv_iload hx hb dX10_drawOf_69 (lv_at hl 2 rfl) ?_
    refine lv_iload hx hb dX10_drawOf_71 (lv_at hl 1 rfl) ?_
    refine lv_iload hx hb dX10_drawOf_73 (lv_at hl 0 rfl) ?_
    refine lv_aload_n hx hb dX10_drawOf_75 rfl (lv_at hl 3 rfl) ?_
    refine lv_aload_n hx hb dX10_drawOf_76 rfl (lv_at hl 4 rfl) ?_
    refine lv_iload_n hx hb dX10_drawOf_77 rfl (lv_at hl 5 rfl) ?_
    refine lv_iload_n hx hb dX10_drawOf_78 rfl (lv_at hl 6 rfl) ?_
    obtain ⟨hPc, hDc, hFc, hqc⟩ := cl_cut (wc := (wd_c_X10_pushOf h1 h1_f0 h1_f1 h1_f2 h1_f3 h1_4 h1_5 h1_6 h1_7 h1_8 h1_9 h1_10 h1_11 h1_12 h1_4 h1_4k h1_4c h0 h0_0 h0_1 h0_2 h0_3 h0_4 h0_5 h0_0 h0_0_0 h0_0_f1 h0_0_f2 h0_0_f3 h0_0_0 h0_0_0k h0_0_0c h1_5 h1_5k h1_5c)) hP hD hS hA [0, 7, 4, 5, 6, 8] (by decide +kernel) rfl
    have hKc := hK.sub (tys' := [(h1_4k, .int), (h0_0_0k, .int), (h1_5k, .int)]) [4, 3, 5] rfl
    have hrv := va_recv hKc hPc (ci := 10) (q0 := 2) rfl rfl
    refine va_calli (va_runV (As := [.ref h1, .int p2, .int p3]) (rest := [.int r_7, .int 0, .int j32_l4, .int r_9, .ref h0_1]) ⟨hx, hb, hml, hown, hts⟩ (c_X10_pushOf l dC dI H.size h0 h1 p2 p3 h1_f0 h1_f1 h1_f2 h1_f3 h1_4 h1_5 h1_6 h1_7 h1_8 h1_9 h1_10 h1_11 h1_12 h1_4k h1_4c h0_0 h0_1 h0_2 h0_3 h0_4 h0_5 h0_0_0 h0_0_f1 h0_0_f2 h0_0_f3 h0_0_0k h0_0_0c h1_5k h1_5c g_p2 g_p3 g_h0_0_f1 g_h0_0_f2 g_h0_0_f3 a_h0_0_0c) (cwV 3 hts gf_c_X10_drawOf_c_X10_pushOf rfl rfl rfl mdV_X10_pushOf ⟨Nat.le_of_ble_eq_true rfl, Nat.le_of_ble_eq_true rfl⟩) ⟨fun a U g mk q => by obtain ⟨q0, q1, qP, qK, qD⟩ := q; exact ⟨q0, q1, qP, va_K.moved (u := U) (U := U.calling g mk a) (Vm.Alike.refl U.vm) qK, qD⟩, hrv, fun U hU hW => ⟨rfl, by rw [hU], by rw [hU]; exact hPc, va_K.moved hW.alike hKc, hDc.weaken (fun _ _ _ _ => trivial)⟩⟩ rfl rfl hl.1 rfl (lv_room (Nat.le_of_ble_eq_true rfl)) dX10_drawOf_79 ⟨Nat.le_of_ble_eq_true rfl, Nat.le_of_ble_eq_true rfl⟩) hS (fun q _ h => hFc q h) hFc (fun r_11 u t H1 locs ht hvm hw hB hz1 hk1 hS => ?_)
    obtain ⟨hP1, hK1, hD1⟩ := hB
    rw [ht] at hP1
    obtain ⟨hP, hD⟩ := cl_put (w1 := (wd_c_X10_pushOf h1 h1_f0 h1_f1 h1_f2 h1_f3 h1_4 h1_5 h1_6 h1_7 h1_8 h1_9 h1_10 h1_11 h1_12 h1_4 h1_4k h1_4c h0 h0_0 h0_1 h0_2 h0_3 h0_4 h0_5 h0_0 h0_0_0 h0_0_f1 h0_0_f2 h0_0_f3 h0_0_0 h0_0_0k h0_0_0c h1_5 h1_5k h1_5c)) (nw := (wd_c_X10_drawOf h1 h1_f0 h1_f1 h1_f2 h1_f3 h1_4 h1_5 h1_6 h1_7 h1_8 h1_9 h1_10 h1_11 h1_12 h1_10 h1_10k h1_10c h1_11 h1_11k h1_11c h1_12 h1_12k h1_12c h0 h0_0 h0_1 h0_2 h0_3 h0_4 h0_5 h0_0 h0_0_0 h0_0_f1 h0_0_f2 h0_0_f3 h0_0_0 h0_0_0k h0_0_0c h1_4 h1_4k h1_4c h1_5 h1_5k h1_5c h0_1 h0_1_0 h0_1_f1 h0_1_f2 h0_1_3 h0_1_3 h0_1_3k h0_1_3c h0_1_0 h0_1_0k h0_1_0c h0_1_0_e0 h0_1_0_e0_0 h0_1_0_e0_f1 h0_1_0_e0_2 h0_1_0_e0_0 h0_1_0_e0_0k h0_1_0_e0_0c h0_1_0_e0_2 h0_1_0_e0_2k h0_1_0_e0_2c h0_1_0_e1 h0_1_0_e1_0 h0_1_0_e1_f1 h0_1_0_e1_2 h0_1_0_e1_0 h0_1_0_e1_0k h0_1_0_e1_0c h0_1_0_e1_2 h0_1_0_e1_2k h0_1_0_e1_2c h0_1_0_e2 h0_1_0_e2_0 h0_1_0_e2_f1 h0_1_0_e2_2 h0_1_0_e2_0 h0_1_0_e2_0k h0_1_0_e2_0c h0_1_0_e2_2 h0_1_0_e2_2k h0_1_0_e2_2c h0_1_0_e3 h0_1_0_e3_0 h0_1_0_e3_f1 h0_1_0_e3_2 h0_1_0_e3_0 h0_1_0_e3_0k h0_1_0_e3_0c h0_1_0_e3_2 h0_1_0_e3_2k h0_1_0_e3_2c)) hP hD [0, 7, 4, 5, 6, 8] [24, 1, 2, 3, 26, 27, 28, 25, 29, 9, 10, 11, 12, 13, 14, 15, 16, 17, 18, 19, 20, 21, 22, 23] 24 rfl hqc (by decide +kernel) rfl hk1 hFc hP1 hD1
    generalize H1 = H at hP hS ⊢
    as_aux_lemma =>
    rcases hw with ⟨h_12, h_13⟩
    refine lv_aload_n hx hb dX10_drawOf_82 rfl (lv_at hl 4 rfl) ?_
    refine va_get (D := (dC, dI)) (ci := 7) (v := .int h1_f2) (C := RX7) (T := TX7) (N := 13) hx hb hts iw_c_X10_drawOf_X7 hown hK hP 0 rfl rfl 2 (by decide +kernel) (hts (.fieldLink RX10 60 "BuoyVote$Sea" "hour" "I") (List.mem_of_getElem? (i := 40) rfl)) (fun _ h9 => h9) rfl dX10_drawOf_83 ?_
    obtain ⟨hPc, hDc, hFc, hqc⟩ := cl_cut (wc := (wd_c_X5_drawBy h0_1 h0_1_0 h0_1_f1 h0_1_f2 h0_1_3 h0_1_3 h0_1_3k h0_1_3c h0_1_0 h0_1_0k h0_1_0c h0_1_0_e0 h0_1_0_e0_0 h0_1_0_e0_f1 h0_1_0_e0_2 h0_1_0_e0_0 h0_1_0_e0_0k h0_1_0_e0_0c h0_1_0_e0_2 h0_1_0_e0_2k h0_1_0_e0_2c h0_1_0_e1 h0_1_0_e1_0 h0_1_0_e1_f1 h0_1_0_e1_2 h0_1_0_e1_0 h0_1_0_e1_0k h0_1_0_e1_0c h0_1_0_e1_2 h0_1_0_e1_2k h0_1_0_e1_2c h0_1_0_e2 h0_1_0_e2_0 h0_1_0_e2_f1 h0_1_0_e2_2 h0_1_0_e2_0 h0_1_0_e2_0k h0_1_0_e2_0c h0_1_0_e2_2 h0_1_0_e2_2k h0_1_0_e2_2c h0_1_0_e3 h0_1_0_e3_0 h0_1_0_e3_f1 h0_1_0_e3_2 h0_1_0_e3_0 h0_1_0_e3_0k h0_1_0_e3_0c h0_1_0_e3_2 h0_1_0_e3_2k h0_1_0_e3_2c)) hP hD hS hA [9, 10, 11, 12, 13, 14, 15, 16, 17, 18, 19, 20, 21, 22, 23] (by decide +kernel) rfl
    have hKc := hK.sub (tys' := [(h0_1_3k, .int), (h0_1_0k, .object RX4), (h0_1_0_e0_0k, .int), (h0_1_0_e0_2k, .int), (h0_1_0_e1_0k, .int), (h0_1_0_e1_2k, .int), (h0_1_0_e2_0k, .int), (h0_1_0_e2_2k, .int), (h0_1_0_e3_0k, .int), (h0_1_0_e3_2k, .int)]) [6, 7, 8, 9, 10, 11, 12, 13, 14, 15] rfl
    have hrv := va_recv hKc hPc (ci := 5) (q0 := 0) rfl rfl
    refine va_calli (va_runV (As := [.int r_9, .int j32_l4, .int 0, .int r_7, .int r_11, .int h1_f2]) (rest := []) ⟨hx, hb, hml, hown, hts⟩ (c_X5_drawBy l dC dI H.size h0_1 r_9 j32_l4 0 r_7 r_11 h1_f2 h0_1_0 h0_1_f1 h0_1_f2 h0_1_3 h0_1_3k h0_1_3c h0_1_0k h0_1_0c h0_1_0_e0 h0_1_0_e1 h0_1_0_e2 h0_1_0_e3 h0_1_0_e4 h0_1_0_e0_0 h0_1_0_e0_f1 h0_1_0_e0_2 h0_1_0_e0_0k h0_1_0_e0_0c h0_1_0_e0_2k h0_1_0_e0_2c h0_1_0_e1_0 h0_1_0_e1_f1 h0_1_0_e1_2 h0_1_0_e1_0k h0_1_0_e1_0c h0_1_0_e1_2k h0_1_0_e1_2c h0_1_0_e2_0 h0_1_0_e2_f1 h0_1_0_e2_2 h0_1_0_e2_0k h0_1_0_e2_0c h0_1_0_e2_2k h0_1_0_e2_2c h0_1_0_e3_0 h0_1_0_e3_f1 h0_1_0_e3_2 h0_1_0_e3_0k h0_1_0_e3_0c h0_1_0_e3_2k h0_1_0_e3_2c h_10 (RG_k 0 0 rfl) g_h0_1_f1 e_h0_1_0_e0 e_h0_1_0_e1 e_h0_1_0_e2 e_h0_1_0_e3 e_h0_1_0_e4 g_h0_1_0_e0_f1 g_h0_1_0_e1_f1 g_h0_1_0_e2_f1 g_h0_1_0_e3_f1) (cwV 6 hts gf_c_X10_drawOf_c_X5_drawBy rfl rfl rfl mdV_X5_drawBy ⟨Nat.le_of_ble_eq_true rfl, Nat.le_of_ble_eq_true rfl⟩) ⟨fun a U g mk q => by obtain ⟨q0, q1, qP, qK, qD⟩ := q; exact ⟨q0, q1, qP, va_K.moved (u := U) (U := U.calling g mk a) (Vm.Alike.refl U.vm) qK, qD⟩, hrv, fun U hU hW => ⟨rfl, by rw [hU], by rw [hU]; exact hPc, va_K.moved hW.alike hKc, hDc.weaken (fun _ _ _ _ => trivial)⟩⟩ rfl rfl hl.1 rfl (lv_room (Nat.le_of_ble_eq_true rfl)) dX10_drawOf_86 ⟨Nat.le_of_ble_eq_true rfl, Nat.le_of_ble_eq_true rfl⟩) hS (fun q _ h => hFc q h) hFc (fun r_14 u t H1 locs ht hvm hw hB hz1 hk1 hS => ?_)
    obtain ⟨w_15, w_16, w_17, w_18, w_19⟩ := u
    obtain ⟨hP1, hK1, hD1⟩ := hB
    rw [ht] at hP1
    obtain ⟨hP, hD⟩ := cl_put (w1 := (wd_c_X5_drawBy h0_1 h0_1_0 h0_1_f1 h0_1_f2 h0_1_3 h0_1_3 h0_1_3k w_15 h0_1_0 h0_1_0k h0_1_0c h0_1_0_e0 h0_1_0_e0_0 h0_1_0_e0_f1 h0_1_0_e0_2 h0_1_0_e0_0 h0_1_0_e0_0k h0_1_0_e0_0c h0_1_0_e0_2 h0_1_0_e0_2k w_16 h0_1_0_e1 h0_1_0_e1_0 h0_1_0_e1_f1 h0_1_0_e1_2 h0_1_0_e1_0 h0_1_0_e1_0k h0_1_0_e1_0c h0_1_0_e1_2 h0_1_0_e1_2k w_17 h0_1_0_e2 h0_1_0_e2_0 h0_1_0_e2_f1 h0_1_0_e2_2 h0_1_0_e2_0 h0_1_0_e2_0k h0_1_0_e2_0c h0_1_0_e2_2 h0_1_0_e2_2k w_18 h0_1_0_e3 h0_1_0_e3_0 h0_1_0_e3_f1 h0_1_0_e3_2 h0_1_0_e3_0 h0_1_0_e3_0k h0_1_0_e3_0c h0_1_0_e3_2 h0_1_0_e3_2k w_19)) (nw := (wd_c_X10_drawOf h1 h1_f0 h1_f1 h1_f2 h1_f3 h1_4 h1_5 h1_6 h1_7 h1_8 h1_9 h1_10 h1_11 h1_12 h1_10 h1_10k h1_10c h1_11 h1_11k h1_11c h1_12 h1_12k h1_12c h0 h0_0 h0_1 h0_2 h0_3 h0_4 h0_5 h0_0 h0_0_0 h0_0_f1 h0_0_f2 h0_0_f3 h0_0_0 h0_0_0k h0_0_0c h1_4 h1_4k h1_4c h1_5 h1_5k h1_5c h0_1 h0_1_0 h0_1_f1 h0_1_f2 h0_1_3 h0_1_3 h0_1_3k w_15 h0_1_0 h0_1_0k h0_1_0c h0_1_0_e0 h0_1_0_e0_0 h0_1_0_e0_f1 h0_1_0_e0_2 h0_1_0_e0_0 h0_1_0_e0_0k h0_1_0_e0_0c h0_1_0_e0_2 h0_1_0_e0_2k w_16 h0_1_0_e1 h0_1_0_e1_0 h0_1_0_e1_f1 h0_1_0_e1_2 h0_1_0_e1_0 h0_1_0_e1_0k h0_1_0_e1_0c h0_1_0_e1_2 h0_1_0_e1_2k w_17 h0_1_0_e2 h0_1_0_e2_0 h0_1_0_e2_f1 h0_1_0_e2_2 h0_1_0_e2_0 h0_1_0_e2_0k h0_1_0_e2_0c h0_1_0_e2_2 h0_1_0_e2_2k w_18 h0_1_0_e3 h0_1_0_e3_0 h0_1_0_e3_f1 h0_1_0_e3_2 h0_1_0_e3_0 h0_1_0_e3_0k h0_1_0_e3_0c h0_1_0_e3_2 h0_1_0_e3_2k w_19)) hP hD [9, 10, 11, 12, 13, 14, 15, 16, 17, 18, 19, 20, 21, 22, 23] [0, 1, 2, 3, 4, 5, 6, 7, 8, 24, 25, 26, 27, 28, 29, 30, 31, 32, 33, 34, 35, 36, 37, 38] 24 rfl hqc (by decide +kernel) rfl hk1 hFc hP1 hD1
    generalize H1 = H at hP hS ⊢
    as_aux_lemma =>
    rcases hw with ⟨h_20, h_21, h_22⟩ | ⟨h_23, h_24⟩ | ⟨h_25, h_26, h_27⟩ | ⟨h_28, h_29, h_30⟩
    · rw [h_20]
      have hK9 := hK.sub (tys' := []) [] rfl
      exact W.iret (v := 0) hx hb hr (fun t ht hW => ⟨⟨0, (w_15, w_16, w_17, w_18, w_19), rfl, (Or.inl ⟨rfl, h_21, h_22⟩), by rw [ht]; exact hP, va_K.moved hW.alike hK9, hD⟩, hS.F ht⟩) hS.2.2 dX10_drawOf_89
    · have hK9 := hK.sub (tys' := []) [] rfl
      exact W.iret (v := r_14) hx hb hr (fun t ht hW => ⟨⟨r_14, (w_15, w_16, w_17, w_18, w_19), rfl, (Or.inr (Or.inl h_23)), by rw [ht]; exact hP, va_K.moved hW.alike hK9, hD⟩, hS.F ht⟩) hS.2.2 dX10_drawOf_89
    · rw [h_25]
      have hK9 := hK.sub (tys' := []) [] rfl
      exact W.iret (v := (-99)) hx hb hr (fun t ht hW => ⟨⟨(-99), (w_15, w_16, w_17, w_18, w_19), rfl, (Or.inr (Or.inr (Or.inl ⟨rfl, h_26, h_27⟩))), by rw [ht]; exact hP, va_K.moved hW.alike hK9, hD⟩, hS.F ht⟩) hS.2.2 dX10_drawOf_89
    · rw [h_28]
      have hK9 := hK.sub (tys' := []) [] rfl
      exact W.iret (v := 99) hx hb hr (fun t ht hW => ⟨⟨99, (w_15, w_16, w_17, w_18, w_19), rfl, (Or.inr (Or.inr (Or.inr ⟨rfl, h_29, h_30⟩))), by rw [ht]; exact hP, va_K.moved hW.alike hK9, hD⟩, hS.F ht⟩) hS.2.2 dX10_drawOf_89
  have J32b : ∀ (j32b_l4 : Int32) (j32b_s0 : Int32) (g_h0_0_f1 : RG h0_0_f1 0 8) (g_h0_0_f2 : RG h0_0_f2 0 3) (g_h0_0_f3 : RG h0_0_f3 0 1) (g_h0_1_0_e0_f1 : RG h0_1_0_e0_f1 0 240) (g_h0_1_0_e1_f1 : RG h0_1_0_e1_f1 0 240) (g_h0_1_0_e2_f1 : RG h0_1_0_e2_f1 0 240) (g_h0_1_0_e3_f1 : RG h0_1_0_e3_f1 0 240) (g_h0_1_f1 : RG h0_1_f1 0 4) (g_p2 : RG p2 0 7) (g_p3 : RG p3 0 2) (H : Heap) (locs : List Loc) (ls : Array Slot) (hP : va_P (dC, dI) vwCl (wd_c_X10_drawOf h1 h1_f0 h1_f1 h1_f2 h1_f3 h1_4 h1_5 h1_6 h1_7 h1_8 h1_9 h1_10 h1_11 h1_12 h1_10 h1_10k h1_10c h1_11 h1_11k h1_11c h1_12 h1_12k h1_12c h0 h0_0 h0_1 h0_2 h0_3 h0_4 h0_5 h0_0 h0_0_0 h0_0_f1 h0_0_f2 h0_0_f3 h0_0_0 h0_0_0k h0_0_0c h1_4 h1_4k h1_4c h1_5 h1_5k h1_5c h0_1 h0_1_0 h0_1_f1 h0_1_f2 h0_1_3 h0_1_3 h0_1_3k h0_1_3c h0_1_0 h0_1_0k h0_1_0c h0_1_0_e0 h0_1_0_e0_0 h0_1_0_e0_f1 h0_1_0_e0_2 h0_1_0_e0_0 h0_1_0_e0_0k h0_1_0_e0_0c h0_1_0_e0_2 h0_1_0_e0_2k h0_1_0_e0_2c h0_1_0_e1 h0_1_0_e1_0 h0_1_0_e1_f1 h0_1_0_e1_2 h0_1_0_e1_0 h0_1_0_e1_0k h0_1_0_e1_0c h0_1_0_e1_2 h0_1_0_e1_2k h0_1_0_e1_2c h0_1_0_e2 h0_1_0_e2_0 h0_1_0_e2_f1 h0_1_0_e2_2 h0_1_0_e2_0 h0_1_0_e2_0k h0_1_0_e2_0c h0_1_0_e2_2 h0_1_0_e2_2k h0_1_0_e2_2c h0_1_0_e3 h0_1_0_e3_0 h0_1_0_e3_f1 h0_1_0_e3_2 h0_1_0_e3_0 h0_1_0_e3_0k h0_1_0_e3_0c h0_1_0_e3_2 h0_1_0_e3_2k h0_1_0_e3_2c) H) (hD : va_D A (wd_c_X10_drawOf h1 h1_f0 h1_f1 h1_f2 h1_f3 h1_4 h1_5 h1_6 h1_7 h1_8 h1_9 h1_10 h1_11 h1_12 h1_10 h1_10k h1_10c h1_11 h1_11k h1_11c h1_12 h1_12k h1_12c h0 h0_0 h0_1 h0_2 h0_3 h0_4 h0_5 h0_0 h0_0_0 h0_0_f1 h0_0_f2 h0_0_f3 h0_0_0 h0_0_0k h0_0_0c h1_4 h1_4k h1_4c h1_5 h1_5k h1_5c h0_1 h0_1_0 h0_1_f1 h0_1_f2 h0_1_3 h0_1_3 h0_1_3k h0_1_3c h0_1_0 h0_1_0k h0_1_0c h0_1_0_e0 h0_1_0_e0_0 h0_1_0_e0_f1 h0_1_0_e0_2 h0_1_0_e0_0 h0_1_0_e0_0k h0_1_0_e0_0c h0_1_0_e0_2 h0_1_0_e0_2k h0_1_0_e0_2c h0_1_0_e1 h0_1_0_e1_0 h0_1_0_e1_f1 h0_1_0_e1_2 h0_1_0_e1_0 h0_1_0_e1_0k h0_1_0_e1_0c h0_1_0_e1_2 h0_1_0_e1_2k h0_1_0_e1_2c h0_1_0_e2 h0_1_0_e2_0 h0_1_0_e2_f1 h0_1_0_e2_2 h0_1_0_e2_0 h0_1_0_e2_0k h0_1_0_e2_0c h0_1_0_e2_2 h0_1_0_e2_2k h0_1_0_e2_2c h0_1_0_e3 h0_1_0_e3_0 h0_1_0_e3_f1 h0_1_0_e3_2 h0_1_0_e3_0 h0_1_0_e3_0k h0_1_0_e3_0c h0_1_0_e3_2 h0_1_0_e3_2k h0_1_0_e3_2c)) (hS : va_S A s.heap H locs) (hl : lv_has ls 7 [(4, .int j32b_l4), (0, .ref h0), (1, .ref h1), (2, .int p2), (3, .int p3)]), G H locs (F0 m 32 ls [.int j32b_s0]) := by
    as_aux_lemma =>
    intro j32b_l4 j32b_s0 g_h0_0_f1 g_h0_0_f2 g_h0_0_f3 g_h0_1_0_e0_f1 g_h0_1_0_e1_f1 g_h0_1_0_e2_f1 g_h0_1_0_e3_f1 g_h0_1_f1 g_p2 g_p3 H locs ls hP hD hS hl
    refine hG _ _ _ ?_
    refine lv_istore (lv' := [(5, .int j32b_s0), (4, .int j32b_l4), (0, .ref h0), (1, .ref h1), (2, .int p2), (3, .int p3)]) hx hb dX10_drawOf_32 hl (Nat.le_of_ble_eq_true rfl) rfl (fun ls hl => ?_)
    refine lv_aload_n hx hb dX10_drawOf_34 rfl (lv_at hl 3 rfl) ?_
    refine lv_iload_n hx hb dX10_drawOf_35 rfl (lv_at hl 5 rfl) ?_
    refine lv_aload_n hx hb dX10_drawOf_36 rfl (lv_at hl 2 rfl) ?_
    refine va_get (D := (dC, dI)) (ci := 10) (v := .ref h0_0) (C := RX10) (T := TX10) (N := 6) hx hb hts iw_c_X10_drawOf_X10 hown hK hP 4 rfl rfl 0 (by decide +kernel) (hts (.fieldLink RX10 9 "BuoyVote$Waters" "told" "LBuoyVote$Borough;") (List.mem_of_getElem? (i := 4) rfl)) (fun _ h9 => h9) rfl dX10_drawOf_37 ?_
    refine lv_iload_n hx hb dX10_drawOf_40 rfl (lv_at hl 4 rfl) ?_
    obtain ⟨hPc, hDc, hFc, hqc⟩ := cl_cut (wc := (wd_c_X0_buoyX h0_0 h0_0_0 h0_0_f1 h0_0_f2 h0_0_f3 h0_0_0 h0_0_0k h0_0_0c)) hP hD hS hA [5, 6] (by decide +kernel) rfl
    have hKc := hK.sub (tys' := [(h0_0_0k, .int)]) [3] rfl
    have hrv := va_recv hKc hPc (ci := 0) (q0 := 0) rfl rfl
    refine va_calli (va_runV (As := [.int p2]) (rest := [.int p3, .ref h1]) ⟨hx, hb, hml, hown, hts⟩ (c_X0_buoyX l dC dI H.size h0_0 p2 h0_0_0 h0_0_f1 h0_0_f2 h0_0_f3 h0_0_0k h0_0_0c g_p2 g_h0_0_f1 g_h0_0_f2 g_h0_0_f3 a_h0_0_0c) (cwV 1 hts gf_c_X10_drawOf_c_X0_buoyX rfl rfl rfl mdV_X0_buoyX ⟨Nat.le_of_ble_eq_true rfl, Nat.le_of_ble_eq_true rfl⟩) ⟨fun a U g mk q => by obtain ⟨q0, q1, qP, qK, qD⟩ := q; exact ⟨q0, q1, qP, va_K.moved (u := U) (U := U.calling g mk a) (Vm.Alike.refl U.vm) qK, qD⟩, hrv, fun U hU hW => ⟨rfl, by rw [hU], by rw [hU]; exact hPc, va_K.moved hW.alike hKc, hDc.weaken (fun _ _ _ _ => trivial)⟩⟩ rfl rfl hl.1 rfl (lv_room (Nat.le_of_ble_eq_true rfl)) dX10_drawOf_41 ⟨Nat.le_of_ble_eq_true rfl, Nat.le_of_ble_eq_true rfl⟩) hS (fun q _ h => hFc q h) hFc (fun r_31 u t H1 locs ht hvm hw hB hz1 hk1 hS => ?_)
    obtain ⟨hP1, hK1, hD1⟩ := hB
    rw [ht] at hP1
    obtain ⟨hP, hD⟩ := cl_put (w1 := (wd_c_X0_buoyX h0_0 h0_0_0 h0_0_f1 h0_0_f2 h0_0_f3 h0_0_0 h0_0_0k h0_0_0c)) (nw := (wd_c_X10_drawOf h1 h1_f0 h1_f1 h1_f2 h1_f3 h1_4 h1_5 h1_6 h1_7 h1_8 h1_9 h1_10 h1_11 h1_12 h1_10 h1_10k h1_10c h1_11 h1_11k h1_11c h1_12 h1_12k h1_12c h0 h0_0 h0_1 h0_2 h0_3 h0_4 h0_5 h0_0 h0_0_0 h0_0_f1 h0_0_f2 h0_0_f3 h0_0_0 h0_0_0k h0_0_0c h1_4 h1_4k h1_4c h1_5 h1_5k h1_5c h0_1 h0_1_0 h0_1_f1 h0_1_f2 h0_1_3 h0_1_3 h0_1_3k h0_1_3c h0_1_0 h0_1_0k h0_1_0c h0_1_0_e0 h0_1_0_e0_0 h0_1_0_e0_f1 h0_1_0_e0_2 h0_1_0_e0_0 h0_1_0_e0_0k h0_1_0_e0_0c h0_1_0_e0_2 h0_1_0_e0_2k h0_1_0_e0_2c h0_1_0_e1 h0_1_0_e1_0 h0_1_0_e1_f1 h0_1_0_e1_2 h0_1_0_e1_0 h0_1_0_e1_0k h0_1_0_e1_0c h0_1_0_e1_2 h0_1_0_e1_2k h0_1_0_e1_2c h0_1_0_e2 h0_1_0_e2_0 h0_1_0_e2_f1 h0_1_0_e2_2 h0_1_0_e2_0 h0_1_0_e2_0k h0_1_0_e2_0c h0_1_0_e2_2 h0_1_0_e2_2k h0_1_0_e2_2c h0_1_0_e3 h0_1_0_e3_0 h0_1_0_e3_f1 h0_1_0_e3_2 h0_1_0_e3_0 h0_1_0_e3_0k h0_1_0_e3_0c h0_1_0_e3_2 h0_1_0_e3_2k h0_1_0_e3_2c)) hP hD [5, 6] [0, 1, 2, 3, 4, 24, 25, 7, 8, 9, 10, 11, 12, 13, 14, 15, 16, 17, 18, 19, 20, 21, 22, 23] 24 rfl hqc (by decide +kernel) rfl hk1 hFc hP1 hD1
    generalize H1 = H at hP hS ⊢
    as_aux_lemma =>
    rcases hw with ⟨h_32, h_33⟩
    refine lv_aload_n hx hb dX10_drawOf_44 rfl (lv_at hl 2 rfl) ?_
    refine va_get (D := (dC, dI)) (ci := 10) (v := .ref h0_0) (C := RX10) (T := TX10) (N := 6) hx hb hts iw_c_X10_drawOf_X10 hown hK hP 4 rfl rfl 0 (by decide +kernel) (hts (.fieldLink RX10 9 "BuoyVote$Waters" "told" "LBuoyVote$Borough;") (List.mem_of_getElem? (i := 4) rfl)) (fun _ h9 => h9) rfl dX10_drawOf_45 ?_
    refine lv_iload_n hx hb dX10_drawOf_48 rfl (lv_at hl 4 rfl) ?_
    obtain ⟨hPc, hDc, hFc, hqc⟩ := cl_cut (wc := (wd_c_X0_buoyY h0_0 h0_0_0 h0_0_f1 h0_0_f2 h0_0_f3 h0_0_0 h0_0_0k h0_0_0c)) hP hD hS hA [5, 6] (by decide +kernel) rfl
    have hKc := hK.sub (tys' := [(h0_0_0k, .int)]) [3] rfl
    have hrv := va_recv hKc hPc (ci := 0) (q0 := 0) rfl rfl
    refine va_calli (va_runV (As := [.int p2]) (rest := [.int r_31, .int p3, .ref h1]) ⟨hx, hb, hml, hown, hts⟩ (c_X0_buoyY l dC dI H.size h0_0 p2 h0_0_0 h0_0_f1 h0_0_f2 h0_0_f3 h0_0_0k h0_0_0c g_p2 g_h0_0_f1 g_h0_0_f2 g_h0_0_f3 a_h0_0_0c) (cwV 1 hts gf_c_X10_drawOf_c_X0_buoyY rfl rfl rfl mdV_X0_buoyY ⟨Nat.le_of_ble_eq_true rfl, Nat.le_of_ble_eq_true rfl⟩) ⟨fun a U g mk q => by obtain ⟨q0, q1, qP, qK, qD⟩ := q; exact ⟨q0, q1, qP, va_K.moved (u := U) (U := U.calling g mk a) (Vm.Alike.refl U.vm) qK, qD⟩, hrv, fun U hU hW => ⟨rfl, by rw [hU], by rw [hU]; exact hPc, va_K.moved hW.alike hKc, hDc.weaken (fun _ _ _ _ => trivial)⟩⟩ rfl rfl hl.1 rfl (lv_room (Nat.le_of_ble_eq_true rfl)) dX10_drawOf_49 ⟨Nat.le_of_ble_eq_true rfl, Nat.le_of_ble_eq_true rfl⟩) hS (fun q _ h => hFc q h) hFc (fun r_34 u t H1 locs ht hvm hw hB hz1 hk1 hS => ?_)
    obtain ⟨hP1, hK1, hD1⟩ := hB
    rw [ht] at hP1
    obtain ⟨hP, hD⟩ := cl_put (w1 := (wd_c_X0_buoyY h0_0 h0_0_0 h0_0_f1 h0_0_f2 h0_0_f3 h0_0_0 h0_0_0k h0_0_0c)) (nw := (wd_c_X10_drawOf h1 h1_f0 h1_f1 h1_f2 h1_f3 h1_4 h1_5 h1_6 h1_7 h1_8 h1_9 h1_10 h1_11 h1_12 h1_10 h1_10k h1_10c h1_11 h1_11k h1_11c h1_12 h1_12k h1_12c h0 h0_0 h0_1 h0_2 h0_3 h0_4 h0_5 h0_0 h0_0_0 h0_0_f1 h0_0_f2 h0_0_f3 h0_0_0 h0_0_0k h0_0_0c h1_4 h1_4k h1_4c h1_5 h1_5k h1_5c h0_1 h0_1_0 h0_1_f1 h0_1_f2 h0_1_3 h0_1_3 h0_1_3k h0_1_3c h0_1_0 h0_1_0k h0_1_0c h0_1_0_e0 h0_1_0_e0_0 h0_1_0_e0_f1 h0_1_0_e0_2 h0_1_0_e0_0 h0_1_0_e0_0k h0_1_0_e0_0c h0_1_0_e0_2 h0_1_0_e0_2k h0_1_0_e0_2c h0_1_0_e1 h0_1_0_e1_0 h0_1_0_e1_f1 h0_1_0_e1_2 h0_1_0_e1_0 h0_1_0_e1_0k h0_1_0_e1_0c h0_1_0_e1_2 h0_1_0_e1_2k h0_1_0_e1_2c h0_1_0_e2 h0_1_0_e2_0 h0_1_0_e2_f1 h0_1_0_e2_2 h0_1_0_e2_0 h0_1_0_e2_0k h0_1_0_e2_0c h0_1_0_e2_2 h0_1_0_e2_2k h0_1_0_e2_2c h0_1_0_e3 h0_1_0_e3_0 h0_1_0_e3_f1 h0_1_0_e3_2 h0_1_0_e3_0 h0_1_0_e3_0k h0_1_0_e3_0c h0_1_0_e3_2 h0_1_0_e3_2k h0_1_0_e3_2c)) hP hD [5, 6] [0, 1, 2, 3, 4, 24, 25, 7, 8, 9, 10, 11, 12, 13, 14, 15, 16, 17, 18, 19, 20, 21, 22, 23] 24 rfl hqc (by decide +kernel) rfl hk1 hFc hP1 hD1
    generalize H1 = H at hP hS ⊢
    as_aux_lemma =>
    rcases hw with ⟨h_35, h_36⟩
    obtain ⟨hPc, hDc, hFc, hqc⟩ := cl_cut (wc := (wd_c_X7_awayOf h1 h1_f0 h1_f1 h1_f2 h1_f3 h1_4 h1_5 h1_6 h1_7 h1_8 h1_9 h1_10 h1_11 h1_12 h1_4 h1_4k h1_4c h1_5 h1_5k h1_5c)) hP hD hS hA [0, 7, 8] (by decide +kernel) rfl
    have hKc := hK.sub (tys' := [(h1_4k, .int), (h1_5k, .int)]) [4, 5] rfl
    have hrv := va_recv hKc hPc (ci := 7) (q0 := 0) rfl rfl
    refine va_calli (va_runV (As := [.int p3, .int r_31, .int r_34]) (rest := []) ⟨hx, hb, hml, hown, hts⟩ (c_X7_awayOf l dC dI H.size h1 p3 r_31 r_34 h1_f0 h1_f1 h1_f2 h1_f3 h1_4 h1_5 h1_6 h1_7 h1_8 h1_9 h1_10 h1_11 h1_12 h1_4k h1_4c h1_5k h1_5c g_p3 h_32 h_35) (cwV 3 hts gf_c_X10_drawOf_c_X7_awayOf rfl rfl rfl mdV_X7_awayOf ⟨Nat.le_of_ble_eq_true rfl, Nat.le_of_ble_eq_true rfl⟩) ⟨fun a U g mk q => by obtain ⟨q0, q1, qP, qK, qD⟩ := q; exact ⟨q0, q1, qP, va_K.moved (u := U) (U := U.calling g mk a) (Vm.Alike.refl U.vm) qK, qD⟩, hrv, fun U hU hW => ⟨rfl, by rw [hU], by rw [hU]; exact hPc, va_K.moved hW.alike hKc, hDc.weaken (fun _ _ _ _ => trivial)⟩⟩ rfl rfl hl.1 rfl (lv_room (Nat.le_of_ble_eq_true rfl)) dX10_drawOf_52 ⟨Nat.le_of_ble_eq_true rfl, Nat.le_of_ble_eq_true rfl⟩) hS (fun q _ h => hFc q h) hFc (fun r_37 u t H1 locs ht hvm hw hB hz1 hk1 hS => ?_)
    obtain ⟨hP1, hK1, hD1⟩ := hB
    rw [ht] at hP1
    obtain ⟨hP, hD⟩ := cl_put (w1 := (wd_c_X7_awayOf h1 h1_f0 h1_f1 h1_f2 h1_f3 h1_4 h1_5 h1_6 h1_7 h1_8 h1_9 h1_10 h1_11 h1_12 h1_4 h1_4k h1_4c h1_5 h1_5k h1_5c)) (nw := (wd_c_X10_drawOf h1 h1_f0 h1_f1 h1_f2 h1_f3 h1_4 h1_5 h1_6 h1_7 h1_8 h1_9 h1_10 h1_11 h1_12 h1_10 h1_10k h1_10c h1_11 h1_11k h1_11c h1_12 h1_12k h1_12c h0 h0_0 h0_1 h0_2 h0_3 h0_4 h0_5 h0_0 h0_0_0 h0_0_f1 h0_0_f2 h0_0_f3 h0_0_0 h0_0_0k h0_0_0c h1_4 h1_4k h1_4c h1_5 h1_5k h1_5c h0_1 h0_1_0 h0_1_f1 h0_1_f2 h0_1_3 h0_1_3 h0_1_3k h0_1_3c h0_1_0 h0_1_0k h0_1_0c h0_1_0_e0 h0_1_0_e0_0 h0_1_0_e0_f1 h0_1_0_e0_2 h0_1_0_e0_0 h0_1_0_e0_0k h0_1_0_e0_0c h0_1_0_e0_2 h0_1_0_e0_2k h0_1_0_e0_2c h0_1_0_e1 h0_1_0_e1_0 h0_1_0_e1_f1 h0_1_0_e1_2 h0_1_0_e1_0 h0_1_0_e1_0k h0_1_0_e1_0c h0_1_0_e1_2 h0_1_0_e1_2k h0_1_0_e1_2c h0_1_0_e2 h0_1_0_e2_0 h0_1_0_e2_f1 h0_1_0_e2_2 h0_1_0_e2_0 h0_1_0_e2_0k h0_1_0_e2_0c h0_1_0_e2_2 h0_1_0_e2_2k h0_1_0_e2_2c h0_1_0_e3 h0_1_0_e3_0 h0_1_0_e3_f1 h0_1_0_e3_2 h0_1_0_e3_0 h0_1_0_e3_0k h0_1_0_e3_0c h0_1_0_e3_2 h0_1_0_e3_2k h0_1_0_e3_2c)) hP hD [0, 7, 8] [24, 1, 2, 3, 4, 5, 6, 25, 26, 9, 10, 11, 12, 13, 14, 15, 16, 17, 18, 19, 20, 21, 22, 23] 24 rfl hqc (by decide +kernel) rfl hk1 hFc hP1 hD1
    generalize H1 = H at hP hS ⊢
    as_aux_lemma =>
    have h_38 := hw
    refine lv_istore (lv' := [(6, .int r_37), (5, .int j32b_s0), (4, .int j32b_l4), (0, .ref h0), (1, .ref h1), (2, .int p2), (3, .int p3)]) hx hb dX10_drawOf_55 hl (Nat.le_of_ble_eq_true rfl) rfl (fun ls hl => ?_)
    refine lv_aload_n hx hb dX10_drawOf_57 rfl (lv_at hl 3 rfl) ?_
    refine va_get (D := (dC, dI)) (ci := 10) (v := .ref h0_1) (C := RX10) (T := TX10) (N := 6) hx hb hts iw_c_X10_drawOf_X10 hown hK hP 4 rfl rfl 1 (by decide +kernel) (hts (.fieldLink RX10 15 "BuoyVote$Waters" "laws" "LBuoyVote$LawBook;") (List.mem_of_getElem? (i := 26) rfl)) (fun _ h9 => h9) rfl dX10_drawOf_58 ?_
    refine lv_aload_n hx hb dX10_drawOf_61 rfl (lv_at hl 3 rfl) ?_
    refine va_get (D := (dC, dI)) (ci := 10) (v := .ref h0_0) (C := RX10) (T := TX10) (N := 6) hx hb hts iw_c_X10_drawOf_X10 hown hK hP 4 rfl rfl 0 (by decide +kernel) (hts (.fieldLink RX10 9 "BuoyVote$Waters" "told" "LBuoyVote$Borough;") (List.mem_of_getElem? (i := 4) rfl)) (fun _ h9 => h9) rfl dX10_drawOf_62 ?_
    refine lv_iload_n hx hb dX10_drawOf_65 rfl (lv_at hl 6 rfl) ?_
    obtain ⟨hPc, hDc, hFc, hqc⟩ := cl_cut (wc := (wd_c_X0_voice h0_0 h0_0_0 h0_0_f1 h0_0_f2 h0_0_f3 h0_0_0 h0_0_0k h0_0_0c)) hP hD hS hA [5, 6] (by decide +kernel) rfl
    have hKc := hK.sub (tys' := [(h0_0_0k, .int)]) [3] rfl
    have hrv := va_recv hKc hPc (ci := 0) (q0 := 0) rfl rfl
    refine va_calli (va_runV (As := [.int p3]) (rest := [.ref h0_1]) ⟨hx, hb, hml, hown, hts⟩ (c_X0_voice l dC dI H.size h0_0 p3 h0_0_0 h0_0_f1 h0_0_f2 h0_0_f3 h0_0_0k h0_0_0c g_p3 g_h0_0_f1 g_h0_0_f2 g_h0_0_f3 a_h0_0_0c) (cwV 1 hts gf_c_X10_drawOf_c_X0_voice rfl rfl rfl mdV_X0_voice ⟨Nat.le_of_ble_eq_true rfl, Nat.le_of_ble_eq_true rfl⟩) ⟨fun a U g mk q => by obtain ⟨q0, q1, qP, qK, qD⟩ := q; exact ⟨q0, q1, qP, va_K.moved (u := U) (U := U.calling g mk a) (Vm.Alike.refl U.vm) qK, qD⟩, hrv, fun U hU hW => ⟨rfl, by rw [hU], by rw [hU]; exact hPc, va_K.moved hW.alike hKc, hDc.weaken (fun _ _ _ _ => trivial)⟩⟩ rfl rfl hl.1 rfl (lv_room (Nat.le_of_ble_eq_true rfl)) dX10_drawOf_66 ⟨Nat.le_of_ble_eq_true rfl, Nat.le_of_ble_eq_true rfl⟩) hS (fun q _ h => hFc q h) hFc (fun r_39 u t H1 locs ht hvm hw hB hz1 hk1 hS => ?_)
    obtain ⟨hP1, hK1, hD1⟩ := hB
    rw [ht] at hP1
    obtain ⟨hP, hD⟩ := cl_put (w1 := (wd_c_X0_voice h0_0 h0_0_0 h0_0_f1 h0_0_f2 h0_0_f3 h0_0_0 h0_0_0k h0_0_0c)) (nw := (wd_c_X10_drawOf h1 h1_f0 h1_f1 h1_f2 h1_f3 h1_4 h1_5 h1_6 h1_7 h1_8 h1_9 h1_10 h1_11 h1_12 h1_10 h1_10k h1_10c h1_11 h1_11k h1_11c h1_12 h1_12k h1_12c h0 h0_0 h0_1 h0_2 h0_3 h0_4 h0_5 h0_0 h0_0_0 h0_0_f1 h0_0_f2 h0_0_f3 h0_0_0 h0_0_0k h0_0_0c h1_4 h1_4k h1_4c h1_5 h1_5k h1_5c h0_1 h0_1_0 h0_1_f1 h0_1_f2 h0_1_3 h0_1_3 h0_1_3k h0_1_3c h0_1_0 h0_1_0k h0_1_0c h0_1_0_e0 h0_1_0_e0_0 h0_1_0_e0_f1 h0_1_0_e0_2 h0_1_0_e0_0 h0_1_0_e0_0k h0_1_0_e0_0c h0_1_0_e0_2 h0_1_0_e0_2k h0_1_0_e0_2c h0_1_0_e1 h0_1_0_e1_0 h0_1_0_e1_f1 h0_1_0_e1_2 h0_1_0_e1_0 h0_1_0_e1_0k h0_1_0_e1_0c h0_1_0_e1_2 h0_1_0_e1_2k h0_1_0_e1_2c h0_1_0_e2 h0_1_0_e2_0 h0_1_0_e2_f1 h0_1_0_e2_2 h0_1_0_e2_0 h0_1_0_e2_0k h0_1_0_e2_0c h0_1_0_e2_2 h0_1_0_e2_2k h0_1_0_e2_2c h0_1_0_e3 h0_1_0_e3_0 h0_1_0_e3_f1 h0_1_0_e3_2 h0_1_0_e3_0 h0_1_0_e3_0k h0_1_0_e3_0c h0_1_0_e3_2 h0_1_0_e3_2k h0_1_0_e3_2c)) hP hD [5, 6] [0, 1, 2, 3, 4, 24, 25, 7, 8, 9, 10, 11, 12, 13, 14, 15, 16, 17, 18, 19, 20, 21, 22, 23] 24 rfl hqc (by decide +kernel) rfl hk1 hFc hP1 hD1
    generalize H1 = H at hP hS ⊢
    as_aux_lemma =>
    have h_40 := hw
    refine lv_iload hx hb dX10_drawOf_69 (lv_at hl 2 rfl) ?_
    refine lv_iload hx hb dX10_drawOf_71 (lv_at hl 1 rfl) ?_
    refine lv_iload hx hb dX10_drawOf_73 (lv_at hl 0 rfl) ?_
    refine lv_aload_n hx hb dX10_drawOf_75 rfl (lv_at hl 3 rfl) ?_
    refine lv_aload_n hx hb dX10_drawOf_76 rfl (lv_at hl 4 rfl) ?_
    refine lv_iload_n hx hb dX10_drawOf_77 rfl (lv_at hl 5 rfl) ?_
    refine lv_iload_n hx hb dX10_drawOf_78 rfl (lv_at hl 6 rfl) ?_
    obtain ⟨hPc, hDc, hFc, hqc⟩ := cl_cut (wc := (wd_c_X10_pushOf h1 h1_f0 h1_f1 h1_f2 h1_f3 h1_4 h1_5 h1_6 h1_7 h1_8 h1_9 h1_10 h1_11 h1_12 h1_4 h1_4k h1_4c h0 h0_0 h0_1 h0_2 h0_3 h0_4 h0_5 h0_0 h0_0_0 h0_0_f1 h0_0_f2 h0_0_f3 h0_0_0 h0_0_0k h0_0_0c h1_5 h1_5k h1_5c)) hP hD hS hA [0, 7, 4, 5, 6, 8] (by decide +kernel) rfl
    have hKc := hK.sub (tys' := [(h1_4k, .int), (h0_0_0k, .int), (h1_5k, .int)]) [4, 3, 5] rfl
    have hrv := va_recv hKc hPc (ci := 10) (q0 := 2) rfl rfl
    refine va_calli (va_runV (As := [.ref h1, .int p2, .int p3]) (rest := [.int r_37, .int j32b_s0, .int j32b_l4, .int r_39, .ref h0_1]) ⟨hx, hb, hml, hown, hts⟩ (c_X10_pushOf l dC dI H.size h0 h1 p2 p3 h1_f0 h1_f1 h1_f2 h1_f3 h1_4 h1_5 h1_6 h1_7 h1_8 h1_9 h1_10 h1_11 h1_12 h1_4k h1_4c h0_0 h0_1 h0_2 h0_3 h0_4 h0_5 h0_0_0 h0_0_f1 h0_0_f2 h0_0_f3 h0_0_0k h0_0_0c h1_5k h1_5c g_p2 g_p3 g_h0_0_f1 g_h0_0_f2 g_h0_0_f3 a_h0_0_0c) (cwV 3 hts gf_c_X10_drawOf_c_X10_pushOf rfl rfl rfl mdV_X10_pushOf ⟨Nat.le_of_ble_eq_true rfl, Nat.le_of_ble_eq_true rfl⟩) ⟨fun a U g mk q => by obtain ⟨q0, q1, qP, qK, qD⟩ := q; exact ⟨q0, q1, qP, va_K.moved (u := U) (U := U.calling g mk a) (Vm.Alike.refl U.vm) qK, qD⟩, hrv, fun U hU hW => ⟨rfl, by rw [hU], by rw [hU]; exact hPc, va_K.moved hW.alike hKc, hDc.weaken (fun _ _ _ _ => trivial)⟩⟩ rfl rfl hl.1 rfl (lv_room (Nat.le_of_ble_eq_true rfl)) dX10_drawOf_79 ⟨Nat.le_of_ble_eq_true rfl, Nat.le_of_ble_eq_true rfl⟩) hS (fun q _ h => hFc q h) hFc (fun r_41 u t H1 locs ht hvm hw hB hz1 hk1 hS => ?_)
    obtain ⟨hP1, hK1, hD1⟩ := hB
    rw [ht] at hP1
    obtain ⟨hP, hD⟩ := cl_put (w1 := (wd_c_X10_pushOf h1 h1_f0 h1_f1 h1_f2 h1_f3 h1_4 h1_5 h1_6 h1_7 h1_8 h1_9 h1_10 h1_11 h1_12 h1_4 h1_4k h1_4c h0 h0_0 h0_1 h0_2 h0_3 h0_4 h0_5 h0_0 h0_0_0 h0_0_f1 h0_0_f2 h0_0_f3 h0_0_0 h0_0_0k h0_0_0c h1_5 h1_5k h1_5c)) (nw := (wd_c_X10_drawOf h1 h1_f0 h1_f1 h1_f2 h1_f3 h1_4 h1_5 h1_6 h1_7 h1_8 h1_9 h1_10 h1_11 h1_12 h1_10 h1_10k h1_10c h1_11 h1_11k h1_11c h1_12 h1_12k h1_12c h0 h0_0 h0_1 h0_2 h0_3 h0_4 h0_5 h0_0 h0_0_0 h0_0_f1 h0_0_f2 h0_0_f3 h0_0_0 h0_0_0k h0_0_0c h1_4 h1_4k h1_4c h1_5 h1_5k h1_5c h0_1 h0_1_0 h0_1_f1 h0_1_f2 h0_1_3 h0_1_3 h0_1_3k h0_1_3c h0_1_0 h0_1_0k h0_1_0c h0_1_0_e0 h0_1_0_e0_0 h0_1_0_e0_f1 h0_1_0_e0_2 h0_1_0_e0_0 h0_1_0_e0_0k h0_1_0_e0_0c h0_1_0_e0_2 h0_1_0_e0_2k h0_1_0_e0_2c h0_1_0_e1 h0_1_0_e1_0 h0_1_0_e1_f1 h0_1_0_e1_2 h0_1_0_e1_0 h0_1_0_e1_0k h0_1_0_e1_0c h0_1_0_e1_2 h0_1_0_e1_2k h0_1_0_e1_2c h0_1_0_e2 h0_1_0_e2_0 h0_1_0_e2_f1 h0_1_0_e2_2 h0_1_0_e2_0 h0_1_0_e2_0k h0_1_0_e2_0c h0_1_0_e2_2 h0_1_0_e2_2k h0_1_0_e2_2c h0_1_0_e3 h0_1_0_e3_0 h0_1_0_e3_f1 h0_1_0_e3_2 h0_1_0_e3_0 h0_1_0_e3_0k h0_1_0_e3_0c h0_1_0_e3_2 h0_1_0_e3_2k h0_1_0_e3_2c)) hP hD [0, 7, 4, 5, 6, 8] [24, 1, 2, 3, 26, 27, 28, 25, 29, 9, 10, 11, 12, 13, 14, 15, 16, 17, 18, 19, 20, 21, 22, 23] 24 rfl hqc (by decide +kernel) rfl hk1 hFc hP1 hD1
    generalize H1 = H at hP hS ⊢
    as_aux_lemma =>
    rcases hw with ⟨h_42, h_43⟩
    refine lv_aload_n hx hb dX10_drawOf_82 rfl (lv_at hl 4 rfl) ?_
    refine va_get (D := (dC, dI)) (ci := 7) (v := .int h1_f2) (C := RX7) (T := TX7) (N := 13) hx hb hts iw_c_X10_drawOf_X7 hown hK hP 0 rfl rfl 2 (by decide +kernel) (hts (.fieldLink RX10 60 "BuoyVote$Sea" "hour" "I") (List.mem_of_getElem? (i := 40) rfl)) (fun _ h9 => h9) rfl dX10_drawOf_83 ?_
    obtain ⟨hPc, hDc, hFc, hqc⟩ := cl_cut (wc := (wd_c_X5_drawBy_1 h0_1 h0_1_0 h0_1_f1 h0_1_f2 h0_1_3 h0_1_3 h0_1_3k h0_1_3c h0_1_0 h0_1_0k h0_1_0c h0_1_0_e0 h0_1_0_e0_0 h0_1_0_e0_f1 h0_1_0_e0_2 h0_1_0_e0_0 h0_1_0_e0_0k h0_1_0_e0_0c h0_1_0_e0_2 h0_1_0_e0_2k h0_1_0_e0_2c h0_1_0_e1 h0_1_0_e1_0 h0_1_0_e1_f1 h0_1_0_e1_2 h0_1_0_e1_0 h0_1_0_e1_0k h0_1_0_e1_0c h0_1_0_e1_2 h0_1_0_e1_2k h0_1_0_e1_2c h0_1_0_e2 h0_1_0_e2_0 h0_1_0_e2_f1 h0_1_0_e2_2 h0_1_0_e2_0 h0_1_0_e2_0k h0_1_0_e2_0c h0_1_0_e2_2 h0_1_0_e2_2k h0_1_0_e2_2c h0_1_0_e3 h0_1_0_e3_0 h0_1_0_e3_f1 h0_1_0_e3_2 h0_1_0_e3_0 h0_1_0_e3_0k h0_1_0_e3_0c h0_1_0_e3_2 h0_1_0_e3_2k h0_1_0_e3_2c)) hP hD hS hA [9, 10, 11, 12, 13, 14, 15, 16, 17, 18, 19, 20, 21, 22, 23] (by decide +kernel) rfl
    have hKc := hK.sub (tys' := [(h0_1_3k, .int), (h0_1_0k, .object RX4), (h0_1_0_e0_0k, .int), (h0_1_0_e0_2k, .int), (h0_1_0_e1_0k, .int), (h0_1_0_e1_2k, .int), (h0_1_0_e2_0k, .int), (h0_1_0_e2_2k, .int), (h0_1_0_e3_0k, .int), (h0_1_0_e3_2k, .int)]) [6, 7, 8, 9, 10, 11, 12, 13, 14, 15] rfl
    have hrv := va_recv hKc hPc (ci := 5) (q0 := 0) rfl rfl
    refine va_calli (va_runV (As := [.int r_39, .int j32b_l4, .int j32b_s0, .int r_37, .int r_41, .int h1_f2]) (rest := []) ⟨hx, hb, hml, hown, hts⟩ (c_X5_drawBy_1 l dC dI H.size h0_1 r_39 j32b_l4 j32b_s0 r_37 r_41 h1_f2 h0_1_0 h0_1_f1 h0_1_f2 h0_1_3 h0_1_3k h0_1_3c h0_1_0k h0_1_0c h0_1_0_e0 h0_1_0_e1 h0_1_0_e2 h0_1_0_e3 h0_1_0_e4 h0_1_0_e0_0 h0_1_0_e0_f1 h0_1_0_e0_2 h0_1_0_e0_0k h0_1_0_e0_0c h0_1_0_e0_2k h0_1_0_e0_2c h0_1_0_e1_0 h0_1_0_e1_f1 h0_1_0_e1_2 h0_1_0_e1_0k h0_1_0_e1_0c h0_1_0_e1_2k h0_1_0_e1_2c h0_1_0_e2_0 h0_1_0_e2_f1 h0_1_0_e2_2 h0_1_0_e2_0k h0_1_0_e2_0c h0_1_0_e2_2k h0_1_0_e2_2c h0_1_0_e3_0 h0_1_0_e3_f1 h0_1_0_e3_2 h0_1_0_e3_0k h0_1_0_e3_0c h0_1_0_e3_2k h0_1_0_e3_2c h_40 g_h0_1_f1 e_h0_1_0_e0 e_h0_1_0_e1 e_h0_1_0_e2 e_h0_1_0_e3 e_h0_1_0_e4 g_h0_1_0_e0_f1 g_h0_1_0_e1_f1 g_h0_1_0_e2_f1 g_h0_1_0_e3_f1) (cwV 6 hts gf_c_X10_drawOf_c_X5_drawBy_1 rfl rfl rfl mdV_X5_drawBy ⟨Nat.le_of_ble_eq_true rfl, Nat.le_of_ble_eq_true rfl⟩) ⟨fun a U g mk q => by obtain ⟨q0, q1, qP, qK, qD⟩ := q; exact ⟨q0, q1, qP, va_K.moved (u := U) (U := U.calling g mk a) (Vm.Alike.refl U.vm) qK, qD⟩, hrv, fun U hU hW => ⟨rfl, by rw [hU], by rw [hU]; exact hPc, va_K.moved hW.alike hKc, hDc.weaken (fun _ _ _ _ => trivial)⟩⟩ rfl rfl hl.1 rfl (lv_room (Nat.le_of_ble_eq_true rfl)) dX10_drawOf_86 ⟨Nat.le_of_ble_eq_true rfl, Nat.le_of_ble_eq_true rfl⟩) hS (fun q _ h => hFc q h) hFc (fun r_44 u t H1 locs ht hvm hw hB hz1 hk1 hS => ?_)
    obtain ⟨w_45, w_46, w_47, w_48, w_49⟩ := u
    obtain ⟨hP1, hK1, hD1⟩ := hB
    rw [ht] at hP1
    obtain ⟨hP, hD⟩ := cl_put (w1 := (wd_c_X5_drawBy_1 h0_1 h0_1_0 h0_1_f1 h0_1_f2 h0_1_3 h0_1_3 h0_1_3k w_45 h0_1_0 h0_1_0k h0_1_0c h0_1_0_e0 h0_1_0_e0_0 h0_1_0_e0_f1 h0_1_0_e0_2 h0_1_0_e0_0 h0_1_0_e0_0k h0_1_0_e0_0c h0_1_0_e0_2 h0_1_0_e0_2k w_46 h0_1_0_e1 h0_1_0_e1_0 h0_1_0_e1_f1 h0_1_0_e1_2 h0_1_0_e1_0 h0_1_0_e1_0k h0_1_0_e1_0c h0_1_0_e1_2 h0_1_0_e1_2k w_47 h0_1_0_e2 h0_1_0_e2_0 h0_1_0_e2_f1 h0_1_0_e2_2 h0_1_0_e2_0 h0_1_0_e2_0k h0_1_0_e2_0c h0_1_0_e2_2 h0_1_0_e2_2k w_48 h0_1_0_e3 h0_1_0_e3_0 h0_1_0_e3_f1 h0_1_0_e3_2 h0_1_0_e3_0 h0_1_0_e3_0k h0_1_0_e3_0c h0_1_0_e3_2 h0_1_0_e3_2k w_49)) (nw := (wd_c_X10_drawOf h1 h1_f0 h1_f1 h1_f2 h1_f3 h1_4 h1_5 h1_6 h1_7 h1_8 h1_9 h1_10 h1_11 h1_12 h1_10 h1_10k h1_10c h1_11 h1_11k h1_11c h1_12 h1_12k h1_12c h0 h0_0 h0_1 h0_2 h0_3 h0_4 h0_5 h0_0 h0_0_0 h0_0_f1 h0_0_f2 h0_0_f3 h0_0_0 h0_0_0k h0_0_0c h1_4 h1_4k h1_4c h1_5 h1_5k h1_5c h0_1 h0_1_0 h0_1_f1 h0_1_f2 h0_1_3 h0_1_3 h0_1_3k w_45 h0_1_0 h0_1_0k h0_1_0c h0_1_0_e0 h0_1_0_e0_0 h0_1_0_e0_f1 h0_1_0_e0_2 h0_1_0_e0_0 h0_1_0_e0_0k h0_1_0_e0_0c h0_1_0_e0_2 h0_1_0_e0_2k w_46 h0_1_0_e1 h0_1_0_e1_0 h0_1_0_e1_f1 h0_1_0_e1_2 h0_1_0_e1_0 h0_1_0_e1_0k h0_1_0_e1_0c h0_1_0_e1_2 h0_1_0_e1_2k w_47 h0_1_0_e2 h0_1_0_e2_0 h0_1_0_e2_f1 h0_1_0_e2_2 h0_1_0_e2_0 h0_1_0_e2_0k h0_1_0_e2_0c h0_1_0_e2_2 h0_1_0_e2_2k w_48 h0_1_0_e3 h0_1_0_e3_0 h0_1_0_e3_f1 h0_1_0_e3_2 h0_1_0_e3_0 h0_1_0_e3_0k h0_1_0_e3_0c h0_1_0_e3_2 h0_1_0_e3_2k w_49)) hP hD [9, 10, 11, 12, 13, 14, 15, 16, 17, 18, 19, 20, 21, 22, 23] [0, 1, 2, 3, 4, 5, 6, 7, 8, 24, 25, 26, 27, 28, 29, 30, 31, 32, 33, 34, 35, 36, 37, 38] 24 rfl hqc (by decide +kernel) rfl hk1 hFc hP1 hD1
    generalize H1 = H at hP hS ⊢
    as_aux_lemma =>
    rcases hw with ⟨h_50, h_51, h_52⟩ | ⟨h_53, h_54⟩ | ⟨h_55, h_56, h_57⟩ | ⟨h_58, h_59, h_60⟩
    · rw [h_50]
      have hK9 := hK.sub (tys' := []) [] rfl
      exact W.iret (v := 0) hx hb hr (fun t ht hW => ⟨⟨0, (w_45, w_46, w_47, w_48, w_49), rfl, (Or.inl ⟨rfl, h_51, h_52⟩), by rw [ht]; exact hP, va_K.moved hW.alike hK9, hD⟩, hS.F ht⟩) hS.2.2 dX10_drawOf_89
    · have hK9 := hK.sub (tys' := []) [] rfl
      exact W.iret (v := r_44) hx hb hr (fun t ht hW => ⟨⟨r_44, (w_45, w_46, w_47, w_48, w_49), rfl, (Or.inr (Or.inl h_53)), by rw [ht]; exact hP, va_K.moved hW.alike hK9, hD⟩, hS.F ht⟩) hS.2.2 dX10_drawOf_89
    · rw [h_55]
      have hK9 := hK.sub (tys' := []) [] rfl
      exact W.iret (v := (-99)) hx hb hr (fun t ht hW => ⟨⟨(-99), (w_45, w_46, w_47, w_48, w_49), rfl, (Or.inr (Or.inr (Or.inl ⟨rfl, h_56, h_57⟩))), by rw [ht]; exact hP, va_K.moved hW.alike hK9, hD⟩, hS.F ht⟩) hS.2.2 dX10_drawOf_89
    · rw [h_58]
      have hK9 := hK.sub (tys' := []) [] rfl
      exact W.iret (v := 99) hx hb hr (fun t ht hW => ⟨⟨99, (w_45, w_46, w_47, w_48, w_49), rfl, (Or.inr (Or.inr (Or.inr ⟨rfl, h_59, h_60⟩))), by rw [ht]; exact hP, va_K.moved hW.alike hK9, hD⟩, hS.F ht⟩) hS.2.2 dX10_drawOf_89
  refine hG _ _ _ ?_
  refine lv_aload_n hx hb dX10_drawOf_0 rfl (lv_at hl 1 rfl) ?_
  as_aux_lemma =>
  refine va_get (D := (dC, dI)) (ci := 7) (v := .ref h1_10) (C := RX7) (T := TX7) (N := 13) hx hb hts iw_c_X10_drawOf_X7 hown hK hP 0 rfl rfl 10 (by decide +kernel) (hts (.fieldLink RX10 67 "BuoyVote$Sea" "liking" "[I") (List.mem_of_getElem? (i := 1) rfl)) (fun _ h9 => h9) rfl dX10_drawOf_1 ?_
  refine lv_iload_n hx hb dX10_drawOf_4 rfl (lv_at hl 2 rfl) ?_
  refine lv_iconst (v := 3) hx hb dX10_drawOf_5 kc_iconst_3 ?_
  refine lv_imul hx hb dX10_drawOf_6 ?_
  refine lv_topi (fun x_61 ex_61 => ?_)
  have g_62 : RG x_61 0 21 := RG_mulc ex_61 (q := 3) rfl g_p2 (by decide +kernel)
  refine lv_iload_n hx hb dX10_drawOf_7 rfl (lv_at hl 3 rfl) ?_
  refine lv_iadd hx hb dX10_drawOf_8 ?_
  refine lv_topi (fun x_63 ex_63 => ?_)
  have g_64 : RG x_63 0 23 := RG_add ex_63 g_62 g_p3 (by decide +kernel)
  refine va_iald hx hb hK hP 1 0 rfl rfl (RG_in g_64 (by decide +kernel)) dX10_drawOf_9 ?_
  refine lv_topi (fun x_65 ex_65 => ?_)
  refine lv_istore (lv' := [(4, .int x_65), (0, .ref h0), (1, .ref h1), (2, .int p2), (3, .int p3)]) hx hb dX10_drawOf_10 hl (Nat.le_of_ble_eq_true rfl) rfl (fun ls hl => ?_)
  refine lv_aload_n hx hb dX10_drawOf_12 rfl (lv_at hl 2 rfl) ?_
  as_aux_lemma =>
  refine va_get (D := (dC, dI)) (ci := 7) (v := .ref h1_11) (C := RX7) (T := TX7) (N := 13) hx hb hts iw_c_X10_drawOf_X7 hown hK hP 0 rfl rfl 11 (by decide +kernel) (hts (.fieldLink RX10 70 "BuoyVote$Sea" "old" "[I") (List.mem_of_getElem? (i := 2) rfl)) (fun _ h9 => h9) rfl dX10_drawOf_13 ?_
  refine lv_iload_n hx hb dX10_drawOf_16 rfl (lv_at hl 3 rfl) ?_
  refine va_iald hx hb hK hP 2 1 rfl rfl (RG_in g_p2 (by decide +kernel)) dX10_drawOf_17 ?_
  refine lv_topi (fun x_66 ex_66 => ?_)
  refine lv_iload_n hx hb dX10_drawOf_18 rfl (lv_at hl 4 rfl) ?_
  refine lv_icmp_ne (tgt := 31) hx hb dX10_drawOf_19 rfl (fun c_67 => ?_) (fun c_67 => ?_)
  · refine lv_iconst (v := 0) hx hb dX10_drawOf_31 kc_iconst_0 ?_
    exact hU _ _ _ (J32 x_65 g_h0_0_f1 g_h0_0_f2 g_h0_0_f3 g_h0_1_0_e0_f1 g_h0_1_0_e1_f1 g_h0_1_0_e2_f1 g_h0_1_0_e3_f1 g_h0_1_f1 g_p2 g_p3 _ _ _ hP hD hS (lv_sub hl [0, 1, 2, 3, 4] rfl))
  · have g_68 : RG x_66 0 2 := RG_eq1 (RG_any x_66) g_p3 c_67 (by decide +kernel)
    refine lv_aload_n hx hb dX10_drawOf_22 rfl (lv_at hl 2 rfl) ?_
    refine va_get (D := (dC, dI)) (ci := 7) (v := .ref h1_12) (C := RX7) (T := TX7) (N := 13) hx hb hts iw_c_X10_drawOf_X7 hown hK hP 0 rfl rfl 12 (by decide +kernel) (hts (.fieldLink RX10 73 "BuoyVote$Sea" "barnacles" "[I") (List.mem_of_getElem? (i := 3) rfl)) (fun _ h9 => h9) rfl dX10_drawOf_23 ?_
    refine lv_iload_n hx hb dX10_drawOf_26 rfl (lv_at hl 3 rfl) ?_
    refine va_iald hx hb hK hP 3 2 rfl rfl (RG_in g_p2 (by decide +kernel)) dX10_drawOf_27 ?_
    refine lv_topi (fun x_69 ex_69 => ?_)
    as_aux_lemma =>
    refine lv_goto (tgt := 32) hx hb dX10_drawOf_28 rfl ?_
    exact hU _ _ _ (J32b x_65 x_69 g_h0_0_f1 g_h0_0_f2 g_h0_0_f3 g_h0_1_0_e0_f1 g_h0_1_0_e1_f1 g_h0_1_0_e2_f1 g_h0_1_0_e3_f1 g_h0_1_f1 g_p2 g_p3 _ _ _ hP hD hS (lv_sub hl [0, 1, 2, 3, 4] rfl))
