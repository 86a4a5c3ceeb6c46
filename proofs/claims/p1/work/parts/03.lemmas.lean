theorem bv_Orecv {A : Nat → Prop} {s : State} {H : Heap} {locs : List Loc} {a : Nat} (h : va_O "java/lang/String" a A s s.heap) (hS : va_S A s.heap H locs) : ∃ cell : Cell, H[a]? = some cell ∧ cell.vm.isStatics = false ∧ s.vm.findClass "java/lang/String" = some cell.cls := by
  obtain ⟨cell, h1, h2, h3, -⟩ := h.kept hS.2.1
  exact ⟨cell, h1, h2, h3⟩
theorem va_ldcwS {p : Program} {l : Launch} {e : Env} {R : Room} {s : State} {m : MethodId} {args : Array Value} {below : List Frame} {meth : Method} {c : Code} {H : Heap} {locs : List Loc} {cells slots : Nat} {Q : State → Prop} {cc : ByteArray} {pc : Nat} {ls : Array Slot} {rest : List Value} (hexec : p.tables.exec = Jvm.exec) (hb : c.code = cc) {own tx : String} {index q : Nat} (hown : s.vm.findClass own = some m.cls) (hZ : vk_R own index tx q s) (hdg : decode cc pc = .ok (.ldc_w index, 3))
    (k : W p l e R s m args below meth c H locs cells slots Q (F0 m (pc + 3) ls (.ref q :: rest))) : W p l e R s m args below meth c H locs cells slots Q (F0 m pc ls rest) := by
  intro T hT X
  obtain ⟨t, a1, b1⟩ := k T hT X
  exact ⟨t, X.ldcStringW hexec hown (text := tx) (a := q) hZ.1 hZ.2 (g := F0 m pc ls rest) rfl (by rw [hb]; exact hdg) t a1, b1⟩
theorem lc_lt_t {x y : Int64} (h : lg_cmp x y < 0) : x < y := (lg_cmp_lt x y).mp h
theorem lc_lt_f {x y : Int64} (h : ¬ lg_cmp x y < 0) : ¬ x < y := fun q => h ((lg_cmp_lt x y).mpr q)
theorem lc_ge_t {x y : Int64} (h : 0 ≤ lg_cmp x y) : ¬ x < y := Int64.not_lt.mpr ((lg_cmp_ge x y).mp h)
theorem lc_ge_f {x y : Int64} (h : ¬ 0 ≤ lg_cmp x y) : x < y := Int64.not_le.mp (fun q => h ((lg_cmp_ge x y).mpr q))
theorem lc_gt_t {x y : Int64} (h : 0 < lg_cmp x y) : y < x := (lg_cmp_gt x y).mp h
theorem lc_gt_f {x y : Int64} (h : ¬ 0 < lg_cmp x y) : ¬ y < x := fun q => h ((lg_cmp_gt x y).mpr q)
theorem lc_le_t {x y : Int64} (h : lg_cmp x y ≤ 0) : ¬ y < x := Int64.not_lt.mpr ((lg_cmp_le x y).mp h)
theorem lc_le_f {x y : Int64} (h : ¬ lg_cmp x y ≤ 0) : y < x := Int64.not_le.mp (fun q => h ((lg_cmp_le x y).mpr q))
theorem gi_nil {big : List Cond} : GoodIn big [] := fun w h => absurd h List.not_mem_nil
theorem gi_cons {big ws : List Cond} {w : Cond} {j : Nat} (h : big[j]? = some w) (g : goodWord w = true) (t : GoodIn big ws) : GoodIn big (w :: ws) := fun v hv => (List.mem_cons.mp hv).elim (fun e => by rw [e]; exact ⟨List.mem_of_getElem? h, good_of_word g⟩) (t v)
theorem gi_filter {big L : List Cond} (hm : ∀ w ∈ L.filter goodWord, w ∈ big) : GoodIn big (L.filter goodWord) := fun w h => ⟨hm w h, good_of_word (List.mem_filter.mp h).2⟩
theorem gw_X0 : wsX00.all goodWord = true := by decide +kernel
theorem gw_X1 : wsX10.all goodWord = true := by decide +kernel
theorem gw_X2 : wsX20.all goodWord = true := by decide +kernel
theorem gw_X3 : wsX30.all goodWord = true := by decide +kernel
theorem gw_X4 : wsX40.all goodWord = true := by decide +kernel
theorem gw_X5 : wsX50.all goodWord = true := by decide +kernel
theorem gw_X6 : wsX60.all goodWord = true := by decide +kernel
theorem gw_X7 : wsX70.all goodWord = true := by decide +kernel
theorem gw_X8 : wsX80.all goodWord = true := by decide +kernel
theorem gw_X9 : wsX90.all goodWord = true := by decide +kernel
theorem gw_X10 : wsX100.all goodWord = true := by decide +kernel
theorem gw_X11 : wsX110.all goodWord = true := by decide +kernel
theorem gw_X12 : wsX120.all goodWord = true := by decide +kernel

