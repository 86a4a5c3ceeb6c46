def wq_X11_blown : List Cond := [.constantLong RX11 373 (5), .constantLong RX11 375 (10)]
def wq_X12_blown : List Cond := [.constantLong RX12 410 (8), .constantLong RX12 290 (2), .constantLong RX12 360 (5), .constantLong RX12 352 (10)]
set_option maxHeartbeats 4000000 in
set_option maxRecDepth 100000 in
theorem bd_X11_blown {p : Program} {l : Launch} {e : Env} {R : Room} {s : State} {m : MethodId} {args : Array Value} {below : List Frame} {meth : Method} {c : Code} {H : Heap} {locs : List Loc} {cells slots : Nat} {Q : State → Prop} (hx : p.tables.exec = Jvm.exec) (hb : c.code = cX11_blown) (hown : s.vm.findClass RX11 = some m.cls) (hts : ∀ w ∈ wq_X11_blown, w.before args s = true) {a : Int64} (ha : 0 < a) (ha0 : ¬ a = 0) :
    ∀ (d i : Nat) (r : Int64) (sh : Int32) (ls : Array Slot), i + d = 6 → lv_has ls 13 [(12, .int (nI i)), (11, .int sh), (9, .long r), (7, .long a)] → (∀ ls : Array Slot, W p l e R s m args below meth c H locs cells slots Q (F0 m 121 ls [.int (bv_dg a d r sh)])) → W p l e R s m args below meth c H locs cells slots Q (F0 m 70 ls []) := by
  intro d
  induction d with
  | zero =>
    intro i r sh ls hi hl hk
    obtain rfl : i = 6 := by omega
    refine lv_iload hx hb dX11_blown_70 (lv_at hl 0 rfl) ?_
    refine lv_bipush (v := 6) hx hb dX11_blown_72 (by decide +kernel) ?_
    refine lv_icmp_ge (tgt := 119) hx hb dX11_blown_74 (by decide +kernel) (fun _ => ?_) (fun c9 => absurd (by decide +kernel) c9)
    refine lv_iload hx hb dX11_blown_119 (lv_at hl 1 rfl) ?_
    exact hk ls
  | succ d ih =>
    intro i r sh ls hi hl hk
    refine lv_iload hx hb dX11_blown_70 (lv_at hl 0 rfl) ?_
    as_aux_lemma =>
    refine lv_bipush (v := 6) hx hb dX11_blown_72 (by decide +kernel) ?_
    refine lv_icmp_ge (tgt := 119) hx hb dX11_blown_74 (by decide +kernel) (fun c_1 => absurd c_1 (nI_ge (b := 6) (by omega) (by decide +kernel))) (fun c_1 => ?_)
    refine lv_lload hx hb dX11_blown_77 (lv_at hl 3 rfl) ?_
    refine lv_lconst (v := 0) hx hb dX11_blown_79 (by decide +kernel) ?_
    refine W.lcmp hx hb dX11_blown_80 ?_
    refine lv_if_le (tgt := 119) hx hb dX11_blown_81 (by decide +kernel) (fun c_2 => absurd ha (lc_le_t c_2)) (fun c_2 => ?_)
    replace c_2 := lc_le_f c_2
    refine lv_lload hx hb dX11_blown_84 (lv_at hl 2 rfl) ?_
    refine lv_ldc2 hx hb hown (hts (.constantLong RX11 375 (10)) (List.mem_of_getElem? (i := 1) rfl)) dX11_blown_86 ?_
    refine lv_lmul hx hb dX11_blown_89 ?_
    refine lv_topl (fun x_3 ex_3 => ?_)
    refine lv_lstore (lv' := [(9, .long x_3), (12, .int (nI i)), (11, .int sh), (7, .long a)]) hx hb dX11_blown_90 hl (by decide +kernel) rfl (fun ls hl => ?_)
    refine lv_iload hx hb dX11_blown_92 (lv_at hl 2 rfl) ?_
    refine lv_bipush (v := 10) hx hb dX11_blown_94 (by decide +kernel) ?_
    as_aux_lemma =>
    refine lv_imul hx hb dX11_blown_96 ?_
    refine lv_topi (fun x_4 ex_4 => ?_)
    refine lv_lload hx hb dX11_blown_97 (lv_at hl 0 rfl) ?_
    refine lv_lload hx hb dX11_blown_99 (lv_at hl 3 rfl) ?_
    refine lv_ldiv hx hb dX11_blown_101 ha0 ?_
    refine lv_topl (fun x_5 ex_5 => ?_)
    refine lv_l2i hx hb dX11_blown_102 rfl ?_
    refine lv_topi (fun x_6 ex_6 => ?_)
    refine lv_iadd hx hb dX11_blown_103 ?_
    refine lv_topi (fun x_7 ex_7 => ?_)
    refine lv_istore (lv' := [(11, .int x_7), (9, .long x_3), (12, .int (nI i)), (7, .long a)]) hx hb dX11_blown_104 hl (by decide +kernel) rfl (fun ls hl => ?_)
    refine lv_lload hx hb dX11_blown_106 (lv_at hl 1 rfl) ?_
    refine lv_lload hx hb dX11_blown_108 (lv_at hl 3 rfl) ?_
    refine lv_lrem hx hb dX11_blown_110 ha0 ?_
    as_aux_lemma =>
    refine lv_topl (fun x_8 ex_8 => ?_)
    refine lv_lstore (lv' := [(9, .long x_8), (11, .int x_7), (12, .int (nI i)), (7, .long a)]) hx hb dX11_blown_111 hl (by decide +kernel) rfl (fun ls hl => ?_)
    refine lv_iinc (v := (nI (i + 1))) (lv' := [(12, .int (nI (i + 1))), (9, .long x_8), (11, .int x_7), (7, .long a)]) hx hb dX11_blown_113 hl (k := 2) rfl (nI_1 i) (by decide +kernel) rfl (fun ls hl => ?_)
    refine lv_goto (tgt := 70) hx hb dX11_blown_116 (by decide +kernel) ?_
    have hd9 : bv_dg a (d + 1) r sh = bv_dg a d x_8 x_7 := by simp only [bv_dg, ex_8, ex_7, ex_6, ex_5, ex_4, ex_3]
    exact ih (i + 1) x_8 x_7 ls (by omega) (lv_sub hl [0, 2, 1, 3] rfl) (fun ls => by have h := hk ls; rw [hd9] at h; exact h)
set_option maxHeartbeats 4000000 in
set_option maxRecDepth 100000 in
theorem bd_X12_blown {p : Program} {l : Launch} {e : Env} {R : Room} {s : State} {m : MethodId} {args : Array Value} {below : List Frame} {meth : Method} {c : Code} {H : Heap} {locs : List Loc} {cells slots : Nat} {Q : State → Prop} (hx : p.tables.exec = Jvm.exec) (hb : c.code = cX12_blown) (hown : s.vm.findClass RX12 = some m.cls) (hts : ∀ w ∈ wq_X12_blown, w.before args s = true) {a : Int64} (ha : 0 < a) (ha0 : ¬ a = 0) :
    ∀ (d i : Nat) (r : Int64) (sh : Int32) (ls : Array Slot), i + d = 6 → lv_has ls 13 [(12, .int (nI i)), (11, .int sh), (9, .long r), (7, .long a)] → (∀ ls : Array Slot, W p l e R s m args below meth c H locs cells slots Q (F0 m 135 ls [.int (bv_dg a d r sh)])) → W p l e R s m args below meth c H locs cells slots Q (F0 m 91 ls []) := by
  intro d
  induction d with
  | zero =>
    intro i r sh ls hi hl hk
    obtain rfl : i = 6 := by omega
    refine lv_iload hx hb dX12_blown_91 (lv_at hl 0 rfl) ?_
    refine lv_bipush (v := 6) hx hb dX12_blown_93 (by decide +kernel) ?_
    refine lv_icmp_ge (tgt := 133) hx hb dX12_blown_95 (by decide +kernel) (fun _ => ?_) (fun c9 => absurd (by decide +kernel) c9)
    refine lv_iload hx hb dX12_blown_133 (lv_at hl 1 rfl) ?_
    exact hk ls
  | succ d ih =>
    intro i r sh ls hi hl hk
    refine lv_iload hx hb dX12_blown_91 (lv_at hl 0 rfl) ?_
    as_aux_lemma =>
    refine lv_bipush (v := 6) hx hb dX12_blown_93 (by decide +kernel) ?_
    refine lv_icmp_ge (tgt := 133) hx hb dX12_blown_95 (by decide +kernel) (fun c_1 => absurd c_1 (nI_ge (b := 6) (by omega) (by decide +kernel))) (fun c_1 => ?_)
    refine lv_lload hx hb dX12_blown_98 (lv_at hl 2 rfl) ?_
    refine lv_ldc2 hx hb hown (hts (.constantLong RX12 352 (10)) (List.mem_of_getElem? (i := 3) rfl)) dX12_blown_100 ?_
    refine lv_lmul hx hb dX12_blown_103 ?_
    refine lv_topl (fun x_2 ex_2 => ?_)
    refine lv_lstore (lv' := [(9, .long x_2), (12, .int (nI i)), (11, .int sh), (7, .long a)]) hx hb dX12_blown_104 hl (by decide +kernel) rfl (fun ls hl => ?_)
    refine lv_bipush (v := 10) hx hb dX12_blown_106 (by decide +kernel) ?_
    refine lv_iload hx hb dX12_blown_108 (lv_at hl 2 rfl) ?_
    refine lv_imul hx hb dX12_blown_110 ?_
    refine lv_topi (fun x_3 ex_3 => ?_)
    refine lv_lload hx hb dX12_blown_111 (lv_at hl 0 rfl) ?_
    refine lv_lload hx hb dX12_blown_113 (lv_at hl 3 rfl) ?_
    refine lv_ldiv hx hb dX12_blown_115 ha0 ?_
    as_aux_lemma =>
    refine lv_topl (fun x_4 ex_4 => ?_)
    refine lv_l2i hx hb dX12_blown_116 rfl ?_
    refine lv_topi (fun x_5 ex_5 => ?_)
    refine lv_iadd hx hb dX12_blown_117 ?_
    refine lv_topi (fun x_6 ex_6 => ?_)
    refine lv_istore (lv' := [(11, .int x_6), (9, .long x_2), (12, .int (nI i)), (7, .long a)]) hx hb dX12_blown_118 hl (by decide +kernel) rfl (fun ls hl => ?_)
    refine lv_lload hx hb dX12_blown_120 (lv_at hl 1 rfl) ?_
    refine lv_lload hx hb dX12_blown_122 (lv_at hl 3 rfl) ?_
    refine lv_lrem hx hb dX12_blown_124 ha0 ?_
    refine lv_topl (fun x_7 ex_7 => ?_)
    refine lv_lstore (lv' := [(9, .long x_7), (11, .int x_6), (12, .int (nI i)), (7, .long a)]) hx hb dX12_blown_125 hl (by decide +kernel) rfl (fun ls hl => ?_)
    refine lv_iinc (v := (nI (i + 1))) (lv' := [(12, .int (nI (i + 1))), (9, .long x_7), (11, .int x_6), (7, .long a)]) hx hb dX12_blown_127 hl (k := 2) rfl (nI_1 i) (by decide +kernel) rfl (fun ls hl => ?_)
    refine lv_goto (tgt := 91) hx hb dX12_blown_130 (by decide +kernel) ?_
    have hd9 : bv_dg a (d + 1) r sh = bv_dg a d x_7 x_6 := by simp only [bv_dg, ex_7, ex_6, ex_5, ex_4, ex_3, ex_2, Int32.mul_comm 10 sh]
    exact ih (i + 1) x_7 x_6 ls (by omega) (lv_sub hl [0, 2, 1, 3] rfl) (fun ls => by have h := hk ls; rw [hd9] at h; exact h)
set_option maxHeartbeats 4000000 in
theorem bp_X11_blown {p : Program} {l : Launch} {e : Env} {R : Room} {s : State} {m : MethodId} {args : Array Value} {below : List Frame} {meth : Method} {c : Code} {H : Heap} {locs : List Loc} {cells slots : Nat} {Q : State → Prop} (hx : p.tables.exec = Jvm.exec) (hb : c.code = cX11_blown) (hown : s.vm.findClass RX11 = some m.cls) (hts : ∀ w ∈ wq_X11_blown, w.before args s = true) {n : Nat} (hn : n ≤ 18) {w : Int64} :
    ∀ (d i : Nat) (ls : Array Slot), i + d = n → lv_has ls 13 [(7, .int (nI i)), (5, .long (lN (5 ^ i))), (3, .long w), (1, .int (nI n))] → (∀ ls : Array Slot, lv_has ls 13 [(5, .long (lN (5 ^ n))), (3, .long w)] → W p l e R s m args below meth c H locs cells slots Q (F0 m 55 ls [])) → W p l e R s m args below meth c H locs cells slots Q (F0 m 35 ls []) := by
  intro d
  induction d with
  | zero =>
    intro i ls hi hl hk
    obtain rfl : i = n := by omega
    refine lv_iload hx hb dX11_blown_35 (lv_at hl 0 rfl) ?_
    refine lv_iload_n hx hb dX11_blown_37 rfl (lv_at hl 3 rfl) ?_
    refine lv_icmp_ge (tgt := 55) hx hb dX11_blown_38 (by decide +kernel) (fun _ => ?_) (fun c9 => absurd (nI_le (Nat.le_refl _) (by omega)) c9)
    exact hk ls (lv_sub hl [1, 2] rfl)
  | succ d ih =>
    intro i ls hi hl hk
    refine lv_iload hx hb dX11_blown_35 (lv_at hl 0 rfl) ?_
    refine lv_iload_n hx hb dX11_blown_37 rfl (lv_at hl 3 rfl) ?_
    as_aux_lemma =>
    refine lv_icmp_ge (tgt := 55) hx hb dX11_blown_38 (by decide +kernel) (fun c9 => absurd c9 (nI_ge (by omega) (by omega))) (fun _ => ?_)
    refine lv_lload hx hb dX11_blown_41 (lv_at hl 1 rfl) ?_
    refine lv_ldc2 hx hb hown (hts (.constantLong RX11 373 (5)) (by decide +kernel)) dX11_blown_43 ?_
    refine lv_lmul hx hb dX11_blown_46 ?_
    rw [bv_5 i]
    refine lv_lstore (lv' := [(5, .long (lN (5 ^ (i + 1)))), (7, .int (nI i)), (3, .long w), (1, .int (nI n))]) hx hb dX11_blown_47 hl (by decide +kernel) rfl (fun ls hl => ?_)
    refine lv_iinc (v := nI (i + 1)) (lv' := [(7, .int (nI (i + 1))), (5, .long (lN (5 ^ (i + 1)))), (3, .long w), (1, .int (nI n))]) hx hb dX11_blown_49 hl (k := 1) rfl (nI_1 i) (by decide +kernel) rfl (fun ls hl => ?_)
    refine lv_goto (tgt := 35) hx hb dX11_blown_52 (by decide +kernel) ?_
    exact ih (i + 1) ls (by omega) hl hk
set_option maxHeartbeats 4000000 in
theorem bp_X12_blown {p : Program} {l : Launch} {e : Env} {R : Room} {s : State} {m : MethodId} {args : Array Value} {below : List Frame} {meth : Method} {c : Code} {H : Heap} {locs : List Loc} {cells slots : Nat} {Q : State → Prop} (hx : p.tables.exec = Jvm.exec) (hb : c.code = cX12_blown) (hown : s.vm.findClass RX12 = some m.cls) (hts : ∀ w ∈ wq_X12_blown, w.before args s = true) {n k : Nat} (hn : n ≤ 18) (hkn : k ≤ n) :
    ∀ (d i : Nat) (ls : Array Slot), i + d = n → lv_has ls 13 [(7, .int (nI i)), (5, .long (lN (5 ^ i))), (3, .long (lN (bv_w k i))), (2, .int (nI k)), (1, .int (nI n))] → (∀ ls : Array Slot, lv_has ls 13 [(5, .long (lN (5 ^ n))), (3, .long (lN (bv_w k n)))] → W p l e R s m args below meth c H locs cells slots Q (F0 m 76 ls [])) → W p l e R s m args below meth c H locs cells slots Q (F0 m 38 ls []) := by
  intro d
  induction d with
  | zero =>
    intro i ls hi hl hk
    obtain rfl : i = n := by omega
    refine lv_iload hx hb dX12_blown_38 (lv_at hl 0 rfl) ?_
    refine lv_iload_n hx hb dX12_blown_40 rfl (lv_at hl 4 rfl) ?_
    refine lv_icmp_ge (tgt := 76) hx hb dX12_blown_41 (by decide +kernel) (fun _ => ?_) (fun c9 => absurd (nI_le (Nat.le_refl _) (by omega)) c9)
    exact hk ls (lv_sub hl [1, 2] rfl)
  | succ d ih =>
    intro i ls hi hl hk
    refine lv_iload hx hb dX12_blown_38 (lv_at hl 0 rfl) ?_
    refine lv_iload_n hx hb dX12_blown_40 rfl (lv_at hl 4 rfl) ?_
    as_aux_lemma =>
    refine lv_icmp_ge (tgt := 76) hx hb dX12_blown_41 (by decide +kernel) (fun c9 => absurd c9 (nI_ge (by omega) (by omega))) (fun _ => ?_)
    have hrest : ∀ ls : Array Slot, lv_has ls 13 [(3, .long (lN (bv_w k (i + 1)))), (7, .int (nI i)), (5, .long (lN (5 ^ i))), (2, .int (nI k)), (1, .int (nI n))] → W p l e R s m args below meth c H locs cells slots Q (F0 m 62 ls []) := by
      intro ls hl
      refine lv_lload hx hb dX12_blown_62 (lv_at hl 2 rfl) ?_
      refine lv_ldc2 hx hb hown (hts (.constantLong RX12 360 (5)) (by decide +kernel)) dX12_blown_64 ?_
      refine lv_lmul hx hb dX12_blown_67 ?_
      rw [bv_5 i]
      refine lv_lstore (lv' := [(5, .long (lN (5 ^ (i + 1)))), (3, .long (lN (bv_w k (i + 1)))), (7, .int (nI i)), (2, .int (nI k)), (1, .int (nI n))]) hx hb dX12_blown_68 hl (by decide +kernel) rfl (fun ls hl => ?_)
      refine lv_iinc (v := nI (i + 1)) (lv' := [(7, .int (nI (i + 1))), (5, .long (lN (5 ^ (i + 1)))), (3, .long (lN (bv_w k (i + 1)))), (2, .int (nI k)), (1, .int (nI n))]) hx hb dX12_blown_70 hl (k := 2) rfl (nI_1 i) (by decide +kernel) rfl (fun ls hl => ?_)
      refine lv_goto (tgt := 38) hx hb dX12_blown_73 (by decide +kernel) ?_
      exact ih (i + 1) ls (by omega) hl hk
    refine lv_lload_n hx hb dX12_blown_44 rfl (lv_at hl 2 rfl) ?_
    refine lv_iload hx hb dX12_blown_45 (lv_at hl 0 rfl) ?_
    refine lv_iload_n hx hb dX12_blown_47 rfl (lv_at hl 3 rfl) ?_
    as_aux_lemma =>
    refine lv_icmp_ge (tgt := 57) hx hb dX12_blown_48 (by decide +kernel) (fun c9 => ?_) (fun c9 => ?_)
    · refine lv_ldc2 hx hb hown (hts (.constantLong RX12 290 (2)) (by decide +kernel)) dX12_blown_57 ?_
      refine lv_lmul hx hb dX12_blown_60 ?_
      rw [bv_m2 ((nI_leI (by omega) (by omega)).mp c9)]
      refine lv_lstore_n (lv' := [(3, .long (lN (bv_w k (i + 1)))), (7, .int (nI i)), (5, .long (lN (5 ^ i))), (2, .int (nI k)), (1, .int (nI n))]) hx hb dX12_blown_61 rfl hl (by decide +kernel) rfl (fun ls hl => ?_)
      exact hrest ls hl
    · refine lv_ldc2 hx hb hown (hts (.constantLong RX12 410 (8)) (by decide +kernel)) dX12_blown_51 ?_
      refine lv_goto (tgt := 60) hx hb dX12_blown_54 (by decide +kernel) ?_
      refine lv_lmul hx hb dX12_blown_60 ?_
      rw [bv_m8 (Nat.not_le.mp (fun q => c9 ((nI_leI (by omega) (by omega)).mpr q)))]
      refine lv_lstore_n (lv' := [(3, .long (lN (bv_w k (i + 1)))), (7, .int (nI i)), (5, .long (lN (5 ^ i))), (2, .int (nI k)), (1, .int (nI n))]) hx hb dX12_blown_61 rfl hl (by decide +kernel) rfl (fun ls hl => ?_)
      exact hrest ls hl
set_option maxHeartbeats 4000000 in
set_option maxRecDepth 100000 in
theorem bt_X11_blown {p : Program} {l : Launch} {e : Env} {R : Room} {s : State} {m : MethodId} {args : Array Value} {below : List Frame} {meth : Method} {c : Code} {H : Heap} {locs : List Loc} {cells slots : Nat} {Q : State → Prop} (hx : p.tables.exec = Jvm.exec) (hb : c.code = cX11_blown) (hown : s.vm.findClass RX11 = some m.cls) (hts : ∀ w ∈ wq_X11_blown, w.before args s = true) {n k h : Nat} (hn : n ≤ 18) (hkn : k ≤ n) {ls : Array Slot} (hl : lv_has ls 13 [(0, .ref h), (1, .int (nI n)), (2, .int (nI k))]) (hk : ∀ ls : Array Slot, W p l e R s m args below meth c H locs cells slots Q (F0 m 121 ls [.int (bv_bl n k)])) : W p l e R s m args below meth c H locs cells slots Q (F0 m 21 ls []) := by
  refine lv_lconst (v := 1) hx hb dX11_blown_21 (by decide +kernel) ?_
  refine lv_iload_n hx hb dX11_blown_22 rfl (lv_at hl 1 rfl) ?_
  refine lv_iconst (v := 2) hx hb dX11_blown_23 (by decide +kernel) ?_
  refine lv_iload_n hx hb dX11_blown_24 rfl (lv_at hl 2 rfl) ?_
  refine lv_imul hx hb dX11_blown_25 ?_
  refine lv_iadd hx hb dX11_blown_26 ?_
  refine lv_lshl hx hb dX11_blown_27 (bv_sh hn hkn) ?_
  refine lv_lstore_n (lv' := [(3, .long (lN (2 ^ (n + 2 * k)))), (0, .ref h), (1, .int (nI n)), (2, .int (nI k))]) hx hb dX11_blown_28 rfl hl (by decide +kernel) rfl (fun ls hl => ?_)
  refine lv_lconst (v := 1) hx hb dX11_blown_29 (by decide +kernel) ?_
  refine lv_lstore (lv' := [(5, .long 1), (3, .long (lN (2 ^ (n + 2 * k)))), (0, .ref h), (1, .int (nI n)), (2, .int (nI k))]) hx hb dX11_blown_30 hl (by decide +kernel) rfl (fun ls hl => ?_)
  refine lv_iconst (v := 0) hx hb dX11_blown_32 (by decide +kernel) ?_
  refine lv_istore (lv' := [(7, .int 0), (5, .long 1), (3, .long (lN (2 ^ (n + 2 * k)))), (0, .ref h), (1, .int (nI n)), (2, .int (nI k))]) hx hb dX11_blown_33 hl (by decide +kernel) rfl (fun ls hl => ?_)
  refine bp_X11_blown hx hb hown hts hn n 0 ls (by omega) (lv_sub hl [0, 1, 2, 4] rfl) (fun ls hl => ?_)
  refine lv_lload_n hx hb dX11_blown_55 rfl (lv_at hl 1 rfl) ?_
  as_aux_lemma =>
  refine lv_lload hx hb dX11_blown_56 (lv_at hl 0 rfl) ?_
  refine lv_ladd hx hb dX11_blown_58 ?_
  rw [lN_add]
  refine lv_lstore (lv' := [(7, .long (lN (2 ^ (n + 2 * k) + 5 ^ n))), (5, .long (lN (5 ^ n))), (3, .long (lN (2 ^ (n + 2 * k))))]) hx hb dX11_blown_59 hl (by decide +kernel) rfl (fun ls hl => ?_)
  refine lv_lload_n hx hb dX11_blown_61 rfl (lv_at hl 2 rfl) ?_
  refine lv_lstore (lv' := [(9, .long (lN (2 ^ (n + 2 * k)))), (7, .long (lN (2 ^ (n + 2 * k) + 5 ^ n))), (5, .long (lN (5 ^ n))), (3, .long (lN (2 ^ (n + 2 * k))))]) hx hb dX11_blown_62 hl (by decide +kernel) rfl (fun ls hl => ?_)
  refine lv_iconst (v := 0) hx hb dX11_blown_64 (by decide +kernel) ?_
  refine lv_istore (lv' := [(11, .int 0), (9, .long (lN (2 ^ (n + 2 * k)))), (7, .long (lN (2 ^ (n + 2 * k) + 5 ^ n))), (5, .long (lN (5 ^ n))), (3, .long (lN (2 ^ (n + 2 * k))))]) hx hb dX11_blown_65 hl (by decide +kernel) rfl (fun ls hl => ?_)
  refine lv_iconst (v := 0) hx hb dX11_blown_67 (by decide +kernel) ?_
  refine lv_istore (lv' := [(12, .int 0), (11, .int 0), (9, .long (lN (2 ^ (n + 2 * k)))), (7, .long (lN (2 ^ (n + 2 * k) + 5 ^ n))), (5, .long (lN (5 ^ n))), (3, .long (lN (2 ^ (n + 2 * k))))]) hx hb dX11_blown_68 hl (by decide +kernel) rfl (fun ls hl => ?_)
  obtain ⟨ha, ha0⟩ := bv_a hn hkn
  exact bd_X11_blown hx hb hown hts ha ha0 6 0 _ 0 ls (by omega) (lv_sub hl [0, 1, 2, 3] rfl) hk
set_option maxHeartbeats 4000000 in
set_option maxRecDepth 100000 in
theorem bt_X12_blown {p : Program} {l : Launch} {e : Env} {R : Room} {s : State} {m : MethodId} {args : Array Value} {below : List Frame} {meth : Method} {c : Code} {H : Heap} {locs : List Loc} {cells slots : Nat} {Q : State → Prop} (hx : p.tables.exec = Jvm.exec) (hb : c.code = cX12_blown) (hown : s.vm.findClass RX12 = some m.cls) (hts : ∀ w ∈ wq_X12_blown, w.before args s = true) {n k h : Nat} (hn : n ≤ 18) (hkn : k ≤ n) {ls : Array Slot} (hl : lv_has ls 13 [(0, .ref h), (1, .int (nI n)), (2, .int (nI k))]) (hk : ∀ ls : Array Slot, W p l e R s m args below meth c H locs cells slots Q (F0 m 135 ls [.int (bv_bl n k)])) : W p l e R s m args below meth c H locs cells slots Q (F0 m 30 ls []) := by
  refine lv_lconst (v := 1) hx hb dX12_blown_30 (by decide +kernel) ?_
  refine lv_lstore_n (lv' := [(3, .long 1), (0, .ref h), (1, .int (nI n)), (2, .int (nI k))]) hx hb dX12_blown_31 rfl hl (by decide +kernel) rfl (fun ls hl => ?_)
  refine lv_lconst (v := 1) hx hb dX12_blown_32 (by decide +kernel) ?_
  refine lv_lstore (lv' := [(5, .long 1), (3, .long 1), (0, .ref h), (1, .int (nI n)), (2, .int (nI k))]) hx hb dX12_blown_33 hl (by decide +kernel) rfl (fun ls hl => ?_)
  refine lv_iconst (v := 0) hx hb dX12_blown_35 (by decide +kernel) ?_
  refine lv_istore (lv' := [(7, .int 0), (5, .long 1), (3, .long 1), (0, .ref h), (1, .int (nI n)), (2, .int (nI k))]) hx hb dX12_blown_36 hl (by decide +kernel) rfl (fun ls hl => ?_)
  have hw0 : (1 : Int64) = lN (bv_w k 0) := by rw [bv_w0]; rfl
  have hl2 : lv_has ls 13 [(7, .int (nI 0)), (5, .long (lN (5 ^ 0))), (3, .long (lN (bv_w k 0))), (2, .int (nI k)), (1, .int (nI n))] := by rw [← hw0]; exact lv_sub hl [0, 1, 2, 5, 4] rfl
  refine bp_X12_blown hx hb hown hts hn hkn n 0 ls (by omega) hl2 (fun ls hl => ?_)
  rw [bv_wn hkn] at hl
  refine lv_lload_n hx hb dX12_blown_76 rfl (lv_at hl 1 rfl) ?_
  refine lv_lload hx hb dX12_blown_77 (lv_at hl 0 rfl) ?_
  refine lv_ladd hx hb dX12_blown_79 ?_
  rw [lN_add]
  refine lv_lstore (lv' := [(7, .long (lN (2 ^ (n + 2 * k) + 5 ^ n))), (5, .long (lN (5 ^ n))), (3, .long (lN (2 ^ (n + 2 * k))))]) hx hb dX12_blown_80 hl (by decide +kernel) rfl (fun ls hl => ?_)
  as_aux_lemma =>
  refine lv_lload_n hx hb dX12_blown_82 rfl (lv_at hl 2 rfl) ?_
  refine lv_lstore (lv' := [(9, .long (lN (2 ^ (n + 2 * k)))), (7, .long (lN (2 ^ (n + 2 * k) + 5 ^ n))), (5, .long (lN (5 ^ n))), (3, .long (lN (2 ^ (n + 2 * k))))]) hx hb dX12_blown_83 hl (by decide +kernel) rfl (fun ls hl => ?_)
  refine lv_iconst (v := 0) hx hb dX12_blown_85 (by decide +kernel) ?_
  refine lv_istore (lv' := [(11, .int 0), (9, .long (lN (2 ^ (n + 2 * k)))), (7, .long (lN (2 ^ (n + 2 * k) + 5 ^ n))), (5, .long (lN (5 ^ n))), (3, .long (lN (2 ^ (n + 2 * k))))]) hx hb dX12_blown_86 hl (by decide +kernel) rfl (fun ls hl => ?_)
  refine lv_iconst (v := 0) hx hb dX12_blown_88 (by decide +kernel) ?_
  refine lv_istore (lv' := [(12, .int 0), (11, .int 0), (9, .long (lN (2 ^ (n + 2 * k)))), (7, .long (lN (2 ^ (n + 2 * k) + 5 ^ n))), (5, .long (lN (5 ^ n))), (3, .long (lN (2 ^ (n + 2 * k))))]) hx hb dX12_blown_89 hl (by decide +kernel) rfl (fun ls hl => ?_)
  obtain ⟨ha, ha0⟩ := bv_a hn hkn
  exact bd_X12_blown hx hb hown hts ha ha0 6 0 _ 0 ls (by omega) (lv_sub hl [0, 1, 2, 3] rfl) hk
noncomputable def wf_o_X11_blown : List Cond := .code yX11_blown cX11_blown 13 (some .int) :: ([.methodLink RX11 111 yX11_isWithin, .static yX11_isWithin, .initialized RX11, .code yX11_isWithin cX11_isWithin 3 (some .boolean), .constantLong RX11 373 (5), .constantLong RX11 375 (10)])
set_option maxRecDepth 20000 in
theorem gf_o_X11_blown_o_X11_isWithin : GoodIn wf_o_X11_blown (va_wsS RX11 111 yX11_isWithin wf_o_X11_isWithin) := goodIn_app (gi_l [1, 2, 3] rfl rfl) (gi_cons (j := 4) rfl rfl gi_nil)
set_option maxHeartbeats 4000000 in
set_option maxRecDepth 100000 in
theorem o_X11_blown (l : Launch) (dC : Nat → ClassId) (dI : Nat → Nat → Nat) (sz : Nat) (h0 : Nat) (p1 : Int32) (p2 : Int32) (h1 : Nat) (h2 : Nat) (h3 : Nat) (h4 : Nat) (h5 : Nat) (f0 : Int32) (h6 : Nat) (h7 : Nat) (h8 : Nat) (h9 : Nat) (h10 : Nat) (h11 : Nat) (h12 : Nat) (h13 : Nat) (h14 : Nat) (f1 : Int64) : Met l yX11_blown wf_o_X11_blown ({ frames := 1, cells := 0, slots := 0, locals := 22 }) (va_Pc [.ref h0, .int p1, .int p2] (fun U => U.heap.size = sz ∧ va_P (dC, dI) vwCl [(h0, .inr (11, [.ref h1, .ref h2, .ref h3, .ref h4, .ref h5, .int f0, .ref h6, .ref h7, .ref h8, .ref h9, .ref h10, .ref h11, .ref h12, .ref h13, .ref h14, .long f1]))] U.heap ∧ va_K (dC, dI) vwCl [] U ∧ va_D (fun _ => True) [(h0, .inr (11, [.ref h1, .ref h2, .ref h3, .ref h4, .ref h5, .int f0, .ref h6, .ref h7, .ref h8, .ref h9, .ref h10, .ref h11, .ref h12, .ref h13, .ref h14, .long f1]))])) (va_Qi (fun (r : Int32) (u : Unit) => (r = (bv_blS p1 p2))) (fun (_ : Unit) t => va_P (dC, dI) vwCl [(h0, .inr (11, [.ref h1, .ref h2, .ref h3, .ref h4, .ref h5, .int f0, .ref h6, .ref h7, .ref h8, .ref h9, .ref h10, .ref h11, .ref h12, .ref h13, .ref h14, .long f1]))] t.heap ∧ va_K (dC, dI) vwCl [] t ∧ va_D (va_A [(h0, .inr (11, [.ref h1, .ref h2, .ref h3, .ref h4, .ref h5, .int f0, .ref h6, .ref h7, .ref h8, .ref h9, .ref h10, .ref h11, .ref h12, .ref h13, .ref h14, .long f1]))] sz) [(h0, .inr (11, [.ref h1, .ref h2, .ref h3, .ref h4, .ref h5, .int f0, .ref h6, .ref h7, .ref h8, .ref h9, .ref h10, .ref h11, .ref h12, .ref h13, .ref h14, .long f1]))]) (va_A [(h0, .inr (11, [.ref h1, .ref h2, .ref h3, .ref h4, .ref h5, .int f0, .ref h6, .ref h7, .ref h8, .ref h9, .ref h10, .ref h11, .ref h12, .ref h13, .ref h14, .long f1]))] sz)) 0 0 (va_A [(h0, .inr (11, [.ref h1, .ref h2, .ref h3, .ref h4, .ref h5, .int f0, .ref h6, .ref h7, .ref h8, .ref h9, .ref h10, .ref h11, .ref h12, .ref h13, .ref h14, .long f1]))] sz) := by
  refine Met.ofW (cc := cX11_blown) (maxL := 13) (ret := (some .int)) (by decide +kernel) rfl ?_
  intro p e s m args below meth c s₁ B hml hv
  obtain ⟨rfl, hsz, hP, hK, hD0⟩ := hv
  have hx := B.exec
  have hb := B.bytes
  have hr := B.returns
  have hts := atoms_spec (ws := wf_o_X11_blown) B.pre
  have hown : s.vm.findClass RX11 = some m.cls := findClass_of_methodNamed B.named
  have hlocks := B.notSynchronized
  subst hsz
  have hD := hD0.self (sz := s.heap.size)
  generalize hAe : va_A [(h0, .inr (11, [.ref h1, .ref h2, .ref h3, .ref h4, .ref h5, .int f0, .ref h6, .ref h7, .ref h8, .ref h9, .ref h10, .ref h11, .ref h12, .ref h13, .ref h14, .long f1]))] s.heap.size = A at hD ⊢
  have hA : ∀ q : Nat, s.heap.size ≤ q → A q := fun q h => by rw [← hAe]; exact Or.inr h
  have hP : va_P (dC, dI) vwCl [(h0, .inr (11, [.ref h1, .ref h2, .ref h3, .ref h4, .ref h5, .int f0, .ref h6, .ref h7, .ref h8, .ref h9, .ref h10, .ref h11, .ref h12, .ref h13, .ref h14, .long f1]))] s.heap := hP
  have hl := lv_entry ([.ref h0, .int p1, .int p2]) (n := 13) (Nat.le_of_ble_eq_true rfl)
  rw [lg_entry_eq]
  generalize (lg_sl ([.ref h0, .int p1, .int p2]) ++ List.replicate (13 - (lg_sl ([.ref h0, .int p1, .int p2])).length) Slot.unset).toArray = ls at hl ⊢
  have hl : lv_has ls 13 [(0, .ref h0), (1, .int p1), (2, .int p2)] := hl
  obtain ⟨H, hHe⟩ : ∃ H : Heap, s.heap = H := ⟨_, rfl⟩
  have hS : va_S A s.heap H [] := by rw [hHe]; exact va_S.rf
  have hP : va_P (dC, dI) vwCl [(h0, .inr (11, [.ref h1, .ref h2, .ref h3, .ref h4, .ref h5, .int f0, .ref h6, .ref h7, .ref h8, .ref h9, .ref h10, .ref h11, .ref h12, .ref h13, .ref h14, .long f1]))] H := by rw [← hHe]; exact hP
  rw [hHe]
  refine lv_iload_n hx hb dX11_blown_0 rfl (lv_at hl 1 rfl) ?_
  as_aux_lemma =>
  refine lv_iconst (v := 0) hx hb dX11_blown_1 (by decide +kernel) ?_
  refine lv_bipush (v := 18) hx hb dX11_blown_2 (by decide +kernel) ?_
  have hPc := hP.sub (ws' := []) [] rfl
  have hDc := hD.sub (ws' := []) [] (by decide +kernel) rfl
  have hKc := hK.sub (tys' := []) [] rfl
  have hFc := va_free (wc := []) hD hS hA [] rfl
  refine va_calli (va_runS (As := [.int p1, .int 0, .int 18]) (rest := []) ⟨hx, hb, hml, hown, hts⟩ (o_X11_isWithin l dC dI H.size p1 0 18) (va_cwS 3 hts gf_o_X11_blown_o_X11_isWithin rfl rfl rfl (by decide +kernel) ⟨Nat.le_of_ble_eq_true rfl, Nat.le_of_ble_eq_true rfl⟩) ⟨fun a U g mk q => by obtain ⟨q0, q1, qP, qK, qD⟩ := q; exact ⟨q0, q1, qP, va_K.moved (u := U) (U := U.calling g mk a) (Vm.Alike.refl U.vm) qK, qD⟩, fun U hU hW => ⟨rfl, by rw [hU], by rw [hU]; exact hPc, va_K.moved hW.alike hKc, hDc.weaken (fun _ _ _ _ => trivial)⟩⟩ rfl rfl hl.1 rfl (lv_room (Nat.le_of_ble_eq_true rfl)) dX11_blown_4 ⟨Nat.le_of_ble_eq_true rfl, Nat.le_of_ble_eq_true rfl⟩) hS (fun q _ h => hFc q h) hFc (fun r_1 u t H1 locs ht hvm hw hB hz1 hk1 hS => ?_)
  rcases hw with ⟨c_2, hw⟩ | ⟨c_3, c_4, hw⟩ | ⟨c_5, c_6, hw⟩
  · obtain ⟨hP1, hK1, hD1⟩ := hB
    rw [ht] at hP1
    have hK1 := va_K.moved hvm.symm hK1
    obtain ⟨hP, hD⟩ := va_join (wr := [(h0, .inr (11, [.ref h1, .ref h2, .ref h3, .ref h4, .ref h5, .int f0, .ref h6, .ref h7, .ref h8, .ref h9, .ref h10, .ref h11, .ref h12, .ref h13, .ref h14, .long f1]))]) (w1 := []) hP hD [] [0] rfl rfl (by decide +kernel) (by decide +kernel) hk1 hFc hP1 hD1
    generalize H1 = H at hP hS ⊢
    as_aux_lemma =>
    have hP : va_P (dC, dI) vwCl [(h0, .inr (11, [.ref h1, .ref h2, .ref h3, .ref h4, .ref h5, .int f0, .ref h6, .ref h7, .ref h8, .ref h9, .ref h10, .ref h11, .ref h12, .ref h13, .ref h14, .long f1]))] H := hP
    have hD : va_D A [(h0, .inr (11, [.ref h1, .ref h2, .ref h3, .ref h4, .ref h5, .int f0, .ref h6, .ref h7, .ref h8, .ref h9, .ref h10, .ref h11, .ref h12, .ref h13, .ref h14, .long f1]))] := hD
    rw [hw]
    refine lv_if_eq (tgt := 19) hx hb dX11_blown_7 (by decide +kernel) (fun c_7 => ?_) (fun c_7 => absurd c_7 (by decide +kernel))
    refine lv_iconst (v := (-1)) hx hb dX11_blown_19 (by decide +kernel) ?_
    have hP9 := hP.sub (ws' := [(h0, .inr (11, [.ref h1, .ref h2, .ref h3, .ref h4, .ref h5, .int f0, .ref h6, .ref h7, .ref h8, .ref h9, .ref h10, .ref h11, .ref h12, .ref h13, .ref h14, .long f1]))]) [0] rfl
    have hD9 := hD.sub (ws' := [(h0, .inr (11, [.ref h1, .ref h2, .ref h3, .ref h4, .ref h5, .int f0, .ref h6, .ref h7, .ref h8, .ref h9, .ref h10, .ref h11, .ref h12, .ref h13, .ref h14, .long f1]))]) [0] (by decide +kernel) rfl
    have hK9 := hK.sub (tys' := []) [] rfl
    exact W.iret (v := (-1)) hx hb hr (fun t ht hW => ⟨⟨(-1), (), rfl, (bv_r1 c_2), by rw [ht]; exact hP9, va_K.moved hW.alike hK9, hD9⟩, hS.F ht⟩) hS.2.2 dX11_blown_20
  · obtain ⟨hP1, hK1, hD1⟩ := hB
    rw [ht] at hP1
    have hK1 := va_K.moved hvm.symm hK1
    obtain ⟨hP, hD⟩ := va_join (wr := [(h0, .inr (11, [.ref h1, .ref h2, .ref h3, .ref h4, .ref h5, .int f0, .ref h6, .ref h7, .ref h8, .ref h9, .ref h10, .ref h11, .ref h12, .ref h13, .ref h14, .long f1]))]) (w1 := []) hP hD [] [0] rfl rfl (by decide +kernel) (by decide +kernel) hk1 hFc hP1 hD1
    generalize H1 = H at hP hS ⊢
    as_aux_lemma =>
    have hP : va_P (dC, dI) vwCl [(h0, .inr (11, [.ref h1, .ref h2, .ref h3, .ref h4, .ref h5, .int f0, .ref h6, .ref h7, .ref h8, .ref h9, .ref h10, .ref h11, .ref h12, .ref h13, .ref h14, .long f1]))] H := hP
    have hD : va_D A [(h0, .inr (11, [.ref h1, .ref h2, .ref h3, .ref h4, .ref h5, .int f0, .ref h6, .ref h7, .ref h8, .ref h9, .ref h10, .ref h11, .ref h12, .ref h13, .ref h14, .long f1]))] := hD
    rw [hw]
    refine lv_if_eq (tgt := 19) hx hb dX11_blown_7 (by decide +kernel) (fun c_8 => ?_) (fun c_8 => absurd c_8 (by decide +kernel))
    refine lv_iconst (v := (-1)) hx hb dX11_blown_19 (by decide +kernel) ?_
    have hP9 := hP.sub (ws' := [(h0, .inr (11, [.ref h1, .ref h2, .ref h3, .ref h4, .ref h5, .int f0, .ref h6, .ref h7, .ref h8, .ref h9, .ref h10, .ref h11, .ref h12, .ref h13, .ref h14, .long f1]))]) [0] rfl
    have hD9 := hD.sub (ws' := [(h0, .inr (11, [.ref h1, .ref h2, .ref h3, .ref h4, .ref h5, .int f0, .ref h6, .ref h7, .ref h8, .ref h9, .ref h10, .ref h11, .ref h12, .ref h13, .ref h14, .long f1]))]) [0] (by decide +kernel) rfl
    have hK9 := hK.sub (tys' := []) [] rfl
    exact W.iret (v := (-1)) hx hb hr (fun t ht hW => ⟨⟨(-1), (), rfl, (bv_r2 c_4), by rw [ht]; exact hP9, va_K.moved hW.alike hK9, hD9⟩, hS.F ht⟩) hS.2.2 dX11_blown_20
  · obtain ⟨hP1, hK1, hD1⟩ := hB
    rw [ht] at hP1
    have hK1 := va_K.moved hvm.symm hK1
    obtain ⟨hP, hD⟩ := va_join (wr := [(h0, .inr (11, [.ref h1, .ref h2, .ref h3, .ref h4, .ref h5, .int f0, .ref h6, .ref h7, .ref h8, .ref h9, .ref h10, .ref h11, .ref h12, .ref h13, .ref h14, .long f1]))]) (w1 := []) hP hD [] [0] rfl rfl (by decide +kernel) (by decide +kernel) hk1 hFc hP1 hD1
    generalize H1 = H at hP hS ⊢
    as_aux_lemma =>
    have hP : va_P (dC, dI) vwCl [(h0, .inr (11, [.ref h1, .ref h2, .ref h3, .ref h4, .ref h5, .int f0, .ref h6, .ref h7, .ref h8, .ref h9, .ref h10, .ref h11, .ref h12, .ref h13, .ref h14, .long f1]))] H := hP
    have hD : va_D A [(h0, .inr (11, [.ref h1, .ref h2, .ref h3, .ref h4, .ref h5, .int f0, .ref h6, .ref h7, .ref h8, .ref h9, .ref h10, .ref h11, .ref h12, .ref h13, .ref h14, .long f1]))] := hD
    rw [hw]
    refine lv_if_eq (tgt := 19) hx hb dX11_blown_7 (by decide +kernel) (fun c_9 => absurd c_9 (by decide +kernel)) (fun c_9 => ?_)
    refine lv_iload_n hx hb dX11_blown_10 rfl (lv_at hl 2 rfl) ?_
    refine lv_iconst (v := 0) hx hb dX11_blown_11 (by decide +kernel) ?_
    refine lv_iload_n hx hb dX11_blown_12 rfl (lv_at hl 1 rfl) ?_
    have hPc := hP.sub (ws' := []) [] rfl
    have hDc := hD.sub (ws' := []) [] (by decide +kernel) rfl
    have hKc := hK.sub (tys' := []) [] rfl
    have hFc := va_free (wc := []) hD hS hA [] rfl
    refine va_calli (va_runS (As := [.int p2, .int 0, .int p1]) (rest := []) ⟨hx, hb, hml, hown, hts⟩ (o_X11_isWithin l dC dI H.size p2 0 p1) (va_cwS 3 hts gf_o_X11_blown_o_X11_isWithin rfl rfl rfl (by decide +kernel) ⟨Nat.le_of_ble_eq_true rfl, Nat.le_of_ble_eq_true rfl⟩) ⟨fun a U g mk q => by obtain ⟨q0, q1, qP, qK, qD⟩ := q; exact ⟨q0, q1, qP, va_K.moved (u := U) (U := U.calling g mk a) (Vm.Alike.refl U.vm) qK, qD⟩, fun U hU hW => ⟨rfl, by rw [hU], by rw [hU]; exact hPc, va_K.moved hW.alike hKc, hDc.weaken (fun _ _ _ _ => trivial)⟩⟩ rfl rfl hl.1 rfl (lv_room (Nat.le_of_ble_eq_true rfl)) dX11_blown_13 ⟨Nat.le_of_ble_eq_true rfl, Nat.le_of_ble_eq_true rfl⟩) hS (fun q _ h => hFc q h) hFc (fun r_10 u t H1 locs ht hvm hw hB hz1 hk1 hS => ?_)
    rcases hw with ⟨c_11, hw⟩ | ⟨c_12, c_13, hw⟩ | ⟨c_14, c_15, hw⟩
    · obtain ⟨hP1, hK1, hD1⟩ := hB
      rw [ht] at hP1
      have hK1 := va_K.moved hvm.symm hK1
      obtain ⟨hP, hD⟩ := va_join (wr := [(h0, .inr (11, [.ref h1, .ref h2, .ref h3, .ref h4, .ref h5, .int f0, .ref h6, .ref h7, .ref h8, .ref h9, .ref h10, .ref h11, .ref h12, .ref h13, .ref h14, .long f1]))]) (w1 := []) hP hD [] [0] rfl rfl (by decide +kernel) (by decide +kernel) hk1 hFc hP1 hD1
      generalize H1 = H at hP hS ⊢
      as_aux_lemma =>
      have hP : va_P (dC, dI) vwCl [(h0, .inr (11, [.ref h1, .ref h2, .ref h3, .ref h4, .ref h5, .int f0, .ref h6, .ref h7, .ref h8, .ref h9, .ref h10, .ref h11, .ref h12, .ref h13, .ref h14, .long f1]))] H := hP
      have hD : va_D A [(h0, .inr (11, [.ref h1, .ref h2, .ref h3, .ref h4, .ref h5, .int f0, .ref h6, .ref h7, .ref h8, .ref h9, .ref h10, .ref h11, .ref h12, .ref h13, .ref h14, .long f1]))] := hD
      rw [hw]
      refine lv_if_ne (tgt := 21) hx hb dX11_blown_16 (by decide +kernel) (fun c_16 => absurd c_16 (by decide +kernel)) (fun c_16 => ?_)
      refine lv_iconst (v := (-1)) hx hb dX11_blown_19 (by decide +kernel) ?_
      have hP9 := hP.sub (ws' := [(h0, .inr (11, [.ref h1, .ref h2, .ref h3, .ref h4, .ref h5, .int f0, .ref h6, .ref h7, .ref h8, .ref h9, .ref h10, .ref h11, .ref h12, .ref h13, .ref h14, .long f1]))]) [0] rfl
      have hD9 := hD.sub (ws' := [(h0, .inr (11, [.ref h1, .ref h2, .ref h3, .ref h4, .ref h5, .int f0, .ref h6, .ref h7, .ref h8, .ref h9, .ref h10, .ref h11, .ref h12, .ref h13, .ref h14, .long f1]))]) [0] (by decide +kernel) rfl
      have hK9 := hK.sub (tys' := []) [] rfl
      exact W.iret (v := (-1)) hx hb hr (fun t ht hW => ⟨⟨(-1), (), rfl, (bv_r3 c_11), by rw [ht]; exact hP9, va_K.moved hW.alike hK9, hD9⟩, hS.F ht⟩) hS.2.2 dX11_blown_20
    · obtain ⟨hP1, hK1, hD1⟩ := hB
      rw [ht] at hP1
      have hK1 := va_K.moved hvm.symm hK1
      obtain ⟨hP, hD⟩ := va_join (wr := [(h0, .inr (11, [.ref h1, .ref h2, .ref h3, .ref h4, .ref h5, .int f0, .ref h6, .ref h7, .ref h8, .ref h9, .ref h10, .ref h11, .ref h12, .ref h13, .ref h14, .long f1]))]) (w1 := []) hP hD [] [0] rfl rfl (by decide +kernel) (by decide +kernel) hk1 hFc hP1 hD1
      generalize H1 = H at hP hS ⊢
      as_aux_lemma =>
      have hP : va_P (dC, dI) vwCl [(h0, .inr (11, [.ref h1, .ref h2, .ref h3, .ref h4, .ref h5, .int f0, .ref h6, .ref h7, .ref h8, .ref h9, .ref h10, .ref h11, .ref h12, .ref h13, .ref h14, .long f1]))] H := hP
      have hD : va_D A [(h0, .inr (11, [.ref h1, .ref h2, .ref h3, .ref h4, .ref h5, .int f0, .ref h6, .ref h7, .ref h8, .ref h9, .ref h10, .ref h11, .ref h12, .ref h13, .ref h14, .long f1]))] := hD
      rw [hw]
      refine lv_if_ne (tgt := 21) hx hb dX11_blown_16 (by decide +kernel) (fun c_17 => absurd c_17 (by decide +kernel)) (fun c_17 => ?_)
      refine lv_iconst (v := (-1)) hx hb dX11_blown_19 (by decide +kernel) ?_
      have hP9 := hP.sub (ws' := [(h0, .inr (11, [.ref h1, .ref h2, .ref h3, .ref h4, .ref h5, .int f0, .ref h6, .ref h7, .ref h8, .ref h9, .ref h10, .ref h11, .ref h12, .ref h13, .ref h14, .long f1]))]) [0] rfl
      have hD9 := hD.sub (ws' := [(h0, .inr (11, [.ref h1, .ref h2, .ref h3, .ref h4, .ref h5, .int f0, .ref h6, .ref h7, .ref h8, .ref h9, .ref h10, .ref h11, .ref h12, .ref h13, .ref h14, .long f1]))]) [0] (by decide +kernel) rfl
      have hK9 := hK.sub (tys' := []) [] rfl
      exact W.iret (v := (-1)) hx hb hr (fun t ht hW => ⟨⟨(-1), (), rfl, (bv_r4 c_13), by rw [ht]; exact hP9, va_K.moved hW.alike hK9, hD9⟩, hS.F ht⟩) hS.2.2 dX11_blown_20
    · obtain ⟨hP1, hK1, hD1⟩ := hB
      rw [ht] at hP1
      have hK1 := va_K.moved hvm.symm hK1
      obtain ⟨hP, hD⟩ := va_join (wr := [(h0, .inr (11, [.ref h1, .ref h2, .ref h3, .ref h4, .ref h5, .int f0, .ref h6, .ref h7, .ref h8, .ref h9, .ref h10, .ref h11, .ref h12, .ref h13, .ref h14, .long f1]))]) (w1 := []) hP hD [] [0] rfl rfl (by decide +kernel) (by decide +kernel) hk1 hFc hP1 hD1
      generalize H1 = H at hP hS ⊢
      as_aux_lemma =>
      have hP : va_P (dC, dI) vwCl [(h0, .inr (11, [.ref h1, .ref h2, .ref h3, .ref h4, .ref h5, .int f0, .ref h6, .ref h7, .ref h8, .ref h9, .ref h10, .ref h11, .ref h12, .ref h13, .ref h14, .long f1]))] H := hP
      have hD : va_D A [(h0, .inr (11, [.ref h1, .ref h2, .ref h3, .ref h4, .ref h5, .int f0, .ref h6, .ref h7, .ref h8, .ref h9, .ref h10, .ref h11, .ref h12, .ref h13, .ref h14, .long f1]))] := hD
      rw [hw]
      refine lv_if_ne (tgt := 21) hx hb dX11_blown_16 (by decide +kernel) (fun c_18 => ?_) (fun c_18 => absurd c_18 (by decide +kernel))
      obtain ⟨n, k, hn, hkn, en, ek, hsp⟩ := bv_in c_5 c_6 c_14 c_15
      rw [hsp]
      rw [en, ek] at hl
      refine bt_X11_blown hx hb hown (fun w hw => (List.mem_cons.mp hw).elim (fun e => by rw [e]; exact hts _ (List.mem_of_getElem? (i := 5) rfl)) (fun hw => (List.mem_cons.mp hw).elim (fun e => by rw [e]; exact hts _ (List.mem_of_getElem? (i := 6) rfl)) (fun hw => absurd hw List.not_mem_nil))) hn hkn hl (fun ls => ?_)
      have hP9 := hP.sub (ws' := [(h0, .inr (11, [.ref h1, .ref h2, .ref h3, .ref h4, .ref h5, .int f0, .ref h6, .ref h7, .ref h8, .ref h9, .ref h10, .ref h11, .ref h12, .ref h13, .ref h14, .long f1]))]) [0] rfl
      have hD9 := hD.sub (ws' := [(h0, .inr (11, [.ref h1, .ref h2, .ref h3, .ref h4, .ref h5, .int f0, .ref h6, .ref h7, .ref h8, .ref h9, .ref h10, .ref h11, .ref h12, .ref h13, .ref h14, .long f1]))]) [0] (by decide +kernel) rfl
      have hK9 := hK.sub (tys' := []) [] rfl
      exact W.iret (v := bv_bl n k) hx hb hr (fun t ht hW => ⟨⟨bv_bl n k, (), rfl, rfl, by rw [ht]; exact hP9, va_K.moved hW.alike hK9, hD9⟩, hS.F ht⟩) hS.2.2 dX11_blown_121
noncomputable def wf_o_X12_blown : List Cond := List.cons (.code yX12_blown cX12_blown 13 (some .int)) (@HAppend.hAppend (List Cond) (List Cond) (List Cond) _ [.fieldLink RX12 111 "BuoyVoteModel" "thrown" "I", .constantLong RX12 518 (18), .methodLink RX12 232 yX12_isIn, .static yX12_isIn, .initialized RX12, .code yX12_isIn cX12_isIn 6 (some .boolean), .constantLong RX12 410 (8), .constantLong RX12 290 (2), .constantLong RX12 360 (5), .constantLong RX12 352 (10)] wsX120)
theorem iw_o_X12_blown_X12 : ∀ w ∈ wsX120, w ∈ wf_o_X12_blown := fun w h => List.mem_cons_of_mem _ (List.mem_append_right _ h)
set_option maxRecDepth 20000 in
theorem gf_o_X12_blown_o_X12_isIn : GoodIn wf_o_X12_blown (va_wsS RX12 232 yX12_isIn wf_o_X12_isIn) := goodIn_app (gi_l [3, 4, 5] rfl rfl) (gi_cons (j := 6) rfl rfl gi_nil)
set_option maxHeartbeats 4000000 in
set_option maxRecDepth 100000 in
theorem o_X12_blown (l : Launch) (dC : Nat → ClassId) (dI : Nat → Nat → Nat) (sz : Nat) (h0 : Nat) (p1 : Int32) (p2 : Int32) (f0 : Int32) (h1 : Nat) (h2 : Nat) (h3 : Nat) (h4 : Nat) (h5 : Nat) (f1 : Int32) (f2 : Int32) (f3 : Int32) (f4 : Int32) (f5 : Int32) (f6 : Int32) (f7 : Int32) (f8 : Int32) (f9 : Int32) (h6 : Nat) (h7 : Nat) (f10 : Int32) (h8 : Nat) (h9 : Nat) (h10 : Nat) (h11 : Nat) (h12 : Nat) (h13 : Nat) (h14 : Nat) (h15 : Nat) (f11 : Int32) (f12 : Int32) (f13 : Int32) (f14 : Int32) (f15 : Int32) (f16 : Int32) (h16 : Nat) (h17 : Nat) (f17 : Int32) (h18 : Nat) (h19 : Nat) (h20 : Nat) (h21 : Nat) (h22 : Nat) (h23 : Nat) (f18 : Int32) (f19 : Int64) (f20 : Int32) (f21 : Int32) (h24 : Nat) (h25 : Nat) (h26 : Nat) (h27 : Nat) (h28 : Nat) (h29 : Nat) (f22 : Int32) (h30 : Nat) (f23 : Int32) : Met l yX12_blown wf_o_X12_blown ({ frames := 1, cells := 0, slots := 0, locals := 25 }) (va_Pc [.ref h0, .int p1, .int p2] (fun U => U.heap.size = sz ∧ va_P (dC, dI) vwCl [(h0, .inr (12, [.int f0, .ref h1, .ref h2, .ref h3, .ref h4, .ref h5, .int f1, .int f2, .int f3, .int f4, .int f5, .int f6, .int f7, .int f8, .int f9, .ref h6, .ref h7, .int f10, .ref h8, .ref h9, .ref h10, .ref h11, .ref h12, .ref h13, .ref h14, .ref h15, .int f11, .int f12, .int f13, .int f14, .int f15, .int f16, .ref h16, .ref h17, .int f17, .ref h18, .ref h19, .ref h20, .ref h21, .ref h22, .ref h23, .int f18, .long f19, .int f20, .int f21, .ref h24, .ref h25, .ref h26, .ref h27, .ref h28, .ref h29, .int f22, .ref h30, .int f23]))] U.heap ∧ va_K (dC, dI) vwCl [] U ∧ va_D (fun _ => True) [(h0, .inr (12, [.int f0, .ref h1, .ref h2, .ref h3, .ref h4, .ref h5, .int f1, .int f2, .int f3, .int f4, .int f5, .int f6, .int f7, .int f8, .int f9, .ref h6, .ref h7, .int f10, .ref h8, .ref h9, .ref h10, .ref h11, .ref h12, .ref h13, .ref h14, .ref h15, .int f11, .int f12, .int f13, .int f14, .int f15, .int f16, .ref h16, .ref h17, .int f17, .ref h18, .ref h19, .ref h20, .ref h21, .ref h22, .ref h23, .int f18, .long f19, .int f20, .int f21, .ref h24, .ref h25, .ref h26, .ref h27, .ref h28, .ref h29, .int f22, .ref h30, .int f23]))])) (va_Qi (fun (r : Int32) (u : Unit) => (r = (bv_blS p1 p2))) (fun (_ : Unit) t => va_P (dC, dI) vwCl [(h0, .inr (12, [.int 0, .ref h1, .ref h2, .ref h3, .ref h4, .ref h5, .int f1, .int f2, .int f3, .int f4, .int f5, .int f6, .int f7, .int f8, .int f9, .ref h6, .ref h7, .int f10, .ref h8, .ref h9, .ref h10, .ref h11, .ref h12, .ref h13, .ref h14, .ref h15, .int f11, .int f12, .int f13, .int f14, .int f15, .int f16, .ref h16, .ref h17, .int f17, .ref h18, .ref h19, .ref h20, .ref h21, .ref h22, .ref h23, .int f18, .long f19, .int f20, .int f21, .ref h24, .ref h25, .ref h26, .ref h27, .ref h28, .ref h29, .int f22, .ref h30, .int f23]))] t.heap ∧ va_K (dC, dI) vwCl [] t ∧ va_D (va_A [(h0, .inr (12, [.int f0, .ref h1, .ref h2, .ref h3, .ref h4, .ref h5, .int f1, .int f2, .int f3, .int f4, .int f5, .int f6, .int f7, .int f8, .int f9, .ref h6, .ref h7, .int f10, .ref h8, .ref h9, .ref h10, .ref h11, .ref h12, .ref h13, .ref h14, .ref h15, .int f11, .int f12, .int f13, .int f14, .int f15, .int f16, .ref h16, .ref h17, .int f17, .ref h18, .ref h19, .ref h20, .ref h21, .ref h22, .ref h23, .int f18, .long f19, .int f20, .int f21, .ref h24, .ref h25, .ref h26, .ref h27, .ref h28, .ref h29, .int f22, .ref h30, .int f23]))] sz) [(h0, .inr (12, [.int 0, .ref h1, .ref h2, .ref h3, .ref h4, .ref h5, .int f1, .int f2, .int f3, .int f4, .int f5, .int f6, .int f7, .int f8, .int f9, .ref h6, .ref h7, .int f10, .ref h8, .ref h9, .ref h10, .ref h11, .ref h12, .ref h13, .ref h14, .ref h15, .int f11, .int f12, .int f13, .int f14, .int f15, .int f16, .ref h16, .ref h17, .int f17, .ref h18, .ref h19, .ref h20, .ref h21, .ref h22, .ref h23, .int f18, .long f19, .int f20, .int f21, .ref h24, .ref h25, .ref h26, .ref h27, .ref h28, .ref h29, .int f22, .ref h30, .int f23]))]) (va_A [(h0, .inr (12, [.int f0, .ref h1, .ref h2, .ref h3, .ref h4, .ref h5, .int f1, .int f2, .int f3, .int f4, .int f5, .int f6, .int f7, .int f8, .int f9, .ref h6, .ref h7, .int f10, .ref h8, .ref h9, .ref h10, .ref h11, .ref h12, .ref h13, .ref h14, .ref h15, .int f11, .int f12, .int f13, .int f14, .int f15, .int f16, .ref h16, .ref h17, .int f17, .ref h18, .ref h19, .ref h20, .ref h21, .ref h22, .ref h23, .int f18, .long f19, .int f20, .int f21, .ref h24, .ref h25, .ref h26, .ref h27, .ref h28, .ref h29, .int f22, .ref h30, .int f23]))] sz)) 0 0 (va_A [(h0, .inr (12, [.int f0, .ref h1, .ref h2, .ref h3, .ref h4, .ref h5, .int f1, .int f2, .int f3, .int f4, .int f5, .int f6, .int f7, .int f8, .int f9, .ref h6, .ref h7, .int f10, .ref h8, .ref h9, .ref h10, .ref h11, .ref h12, .ref h13, .ref h14, .ref h15, .int f11, .int f12, .int f13, .int f14, .int f15, .int f16, .ref h16, .ref h17, .int f17, .ref h18, .ref h19, .ref h20, .ref h21, .ref h22, .ref h23, .int f18, .long f19, .int f20, .int f21, .ref h24, .ref h25, .ref h26, .ref h27, .ref h28, .ref h29, .int f22, .ref h30, .int f23]))] sz) := by
  refine Met.ofW (cc := cX12_blown) (maxL := 13) (ret := (some .int)) (by decide +kernel) rfl ?_
  intro p e s m args below meth c s₁ B hml hv
  obtain ⟨rfl, hsz, hP, hK, hD0⟩ := hv
  have hx := B.exec
  have hb := B.bytes
  have hr := B.returns
  have hts := atoms_spec (ws := wf_o_X12_blown) B.pre
  have hown : s.vm.findClass RX12 = some m.cls := findClass_of_methodNamed B.named
  have hlocks := B.notSynchronized
  subst hsz
  have hD := hD0.self (sz := s.heap.size)
  generalize hAe : va_A [(h0, .inr (12, [.int f0, .ref h1, .ref h2, .ref h3, .ref h4, .ref h5, .int f1, .int f2, .int f3, .int f4, .int f5, .int f6, .int f7, .int f8, .int f9, .ref h6, .ref h7, .int f10, .ref h8, .ref h9, .ref h10, .ref h11, .ref h12, .ref h13, .ref h14, .ref h15, .int f11, .int f12, .int f13, .int f14, .int f15, .int f16, .ref h16, .ref h17, .int f17, .ref h18, .ref h19, .ref h20, .ref h21, .ref h22, .ref h23, .int f18, .long f19, .int f20, .int f21, .ref h24, .ref h25, .ref h26, .ref h27, .ref h28, .ref h29, .int f22, .ref h30, .int f23]))] s.heap.size = A at hD ⊢
  have hA : ∀ q : Nat, s.heap.size ≤ q → A q := fun q h => by rw [← hAe]; exact Or.inr h
  have hP : va_P (dC, dI) vwCl [(h0, .inr (12, [.int f0, .ref h1, .ref h2, .ref h3, .ref h4, .ref h5, .int f1, .int f2, .int f3, .int f4, .int f5, .int f6, .int f7, .int f8, .int f9, .ref h6, .ref h7, .int f10, .ref h8, .ref h9, .ref h10, .ref h11, .ref h12, .ref h13, .ref h14, .ref h15, .int f11, .int f12, .int f13, .int f14, .int f15, .int f16, .ref h16, .ref h17, .int f17, .ref h18, .ref h19, .ref h20, .ref h21, .ref h22, .ref h23, .int f18, .long f19, .int f20, .int f21, .ref h24, .ref h25, .ref h26, .ref h27, .ref h28, .ref h29, .int f22, .ref h30, .int f23]))] s.heap := hP
  have hl := lv_entry ([.ref h0, .int p1, .int p2]) (n := 13) (Nat.le_of_ble_eq_true rfl)
  rw [lg_entry_eq]
  generalize (lg_sl ([.ref h0, .int p1, .int p2]) ++ List.replicate (13 - (lg_sl ([.ref h0, .int p1, .int p2])).length) Slot.unset).toArray = ls at hl ⊢
  have hl : lv_has ls 13 [(0, .ref h0), (1, .int p1), (2, .int p2)] := hl
  obtain ⟨H, hHe⟩ : ∃ H : Heap, s.heap = H := ⟨_, rfl⟩
  have hS : va_S A s.heap H [] := by rw [hHe]; exact va_S.rf
  have hP : va_P (dC, dI) vwCl [(h0, .inr (12, [.int f0, .ref h1, .ref h2, .ref h3, .ref h4, .ref h5, .int f1, .int f2, .int f3, .int f4, .int f5, .int f6, .int f7, .int f8, .int f9, .ref h6, .ref h7, .int f10, .ref h8, .ref h9, .ref h10, .ref h11, .ref h12, .ref h13, .ref h14, .ref h15, .int f11, .int f12, .int f13, .int f14, .int f15, .int f16, .ref h16, .ref h17, .int f17, .ref h18, .ref h19, .ref h20, .ref h21, .ref h22, .ref h23, .int f18, .long f19, .int f20, .int f21, .ref h24, .ref h25, .ref h26, .ref h27, .ref h28, .ref h29, .int f22, .ref h30, .int f23]))] H := by rw [← hHe]; exact hP
  rw [hHe]
  refine lv_aload_n hx hb dX12_blown_0 rfl (lv_at hl 0 rfl) ?_
  as_aux_lemma =>
  refine lv_iconst (v := 0) hx hb dX12_blown_1 (by decide +kernel) ?_
  refine va_put (D := (dC, dI)) (ci := 12) (v := .int 0) (ty := .int) (C := RX12) (T := TX12) (N := 54) hx hb hts iw_o_X12_blown_X12 tyX12 tyX12_ok nmX12 hown hK hP hD hS 0 rfl rfl 0 (by decide +kernel) (hts (.fieldLink RX12 111 "BuoyVoteModel" "thrown" "I") (List.mem_of_getElem? (i := 1) rfl)) (fun _ h9 => h9) rfl (by decide +kernel) rfl rfl (Nat.le_of_ble_eq_true rfl) dX12_blown_2 (fun H locs hP hD hS => ?_)
  have hP : va_P (dC, dI) vwCl [(h0, .inr (12, [.int 0, .ref h1, .ref h2, .ref h3, .ref h4, .ref h5, .int f1, .int f2, .int f3, .int f4, .int f5, .int f6, .int f7, .int f8, .int f9, .ref h6, .ref h7, .int f10, .ref h8, .ref h9, .ref h10, .ref h11, .ref h12, .ref h13, .ref h14, .ref h15, .int f11, .int f12, .int f13, .int f14, .int f15, .int f16, .ref h16, .ref h17, .int f17, .ref h18, .ref h19, .ref h20, .ref h21, .ref h22, .ref h23, .int f18, .long f19, .int f20, .int f21, .ref h24, .ref h25, .ref h26, .ref h27, .ref h28, .ref h29, .int f22, .ref h30, .int f23]))] H := hP
  have hD : va_D A [(h0, .inr (12, [.int 0, .ref h1, .ref h2, .ref h3, .ref h4, .ref h5, .int f1, .int f2, .int f3, .int f4, .int f5, .int f6, .int f7, .int f8, .int f9, .ref h6, .ref h7, .int f10, .ref h8, .ref h9, .ref h10, .ref h11, .ref h12, .ref h13, .ref h14, .ref h15, .int f11, .int f12, .int f13, .int f14, .int f15, .int f16, .ref h16, .ref h17, .int f17, .ref h18, .ref h19, .ref h20, .ref h21, .ref h22, .ref h23, .int f18, .long f19, .int f20, .int f21, .ref h24, .ref h25, .ref h26, .ref h27, .ref h28, .ref h29, .int f22, .ref h30, .int f23]))] := hD
  refine lv_iload_n hx hb dX12_blown_5 rfl (lv_at hl 1 rfl) ?_
  refine lv_i2l (v := (p1.toInt64)) hx hb dX12_blown_6 rfl ?_
  refine lv_lconst (v := 0) hx hb dX12_blown_7 (by decide +kernel) ?_
  refine lv_ldc2 hx hb hown (hts (.constantLong RX12 518 (18)) (List.mem_of_getElem? (i := 2) rfl)) dX12_blown_8 ?_
  have hPc := hP.sub (ws' := []) [] rfl
  have hDc := hD.sub (ws' := []) [] (by decide +kernel) rfl
  have hKc := hK.sub (tys' := []) [] rfl
  have hFc := va_free (wc := []) hD hS hA [] rfl
  refine va_calli (va_runS (As := [.long (p1.toInt64), .long 0, .long 18]) (rest := []) ⟨hx, hb, hml, hown, hts⟩ (o_X12_isIn l dC dI H.size (p1.toInt64) 0 18) (va_cwS 3 hts gf_o_X12_blown_o_X12_isIn rfl rfl rfl (by decide +kernel) ⟨Nat.le_of_ble_eq_true rfl, Nat.le_of_ble_eq_true rfl⟩) ⟨fun a U g mk q => by obtain ⟨q0, q1, qP, qK, qD⟩ := q; exact ⟨q0, q1, qP, va_K.moved (u := U) (U := U.calling g mk a) (Vm.Alike.refl U.vm) qK, qD⟩, fun U hU hW => ⟨rfl, by rw [hU], by rw [hU]; exact hPc, va_K.moved hW.alike hKc, hDc.weaken (fun _ _ _ _ => trivial)⟩⟩ rfl rfl hl.1 rfl (lv_room (Nat.le_of_ble_eq_true rfl)) dX12_blown_11 ⟨Nat.le_of_ble_eq_true rfl, Nat.le_of_ble_eq_true rfl⟩) hS (fun q _ h => hFc q h) hFc (fun r_1 u t H1 locs ht hvm hw hB hz1 hk1 hS => ?_)
  rcases hw with ⟨c_2, hw⟩ | ⟨c_3, c_4, hw⟩ | ⟨c_5, c_6, hw⟩
  · obtain ⟨hP1, hK1, hD1⟩ := hB
    rw [ht] at hP1
    have hK1 := va_K.moved hvm.symm hK1
    obtain ⟨hP, hD⟩ := va_join (wr := [(h0, .inr (12, [.int 0, .ref h1, .ref h2, .ref h3, .ref h4, .ref h5, .int f1, .int f2, .int f3, .int f4, .int f5, .int f6, .int f7, .int f8, .int f9, .ref h6, .ref h7, .int f10, .ref h8, .ref h9, .ref h10, .ref h11, .ref h12, .ref h13, .ref h14, .ref h15, .int f11, .int f12, .int f13, .int f14, .int f15, .int f16, .ref h16, .ref h17, .int f17, .ref h18, .ref h19, .ref h20, .ref h21, .ref h22, .ref h23, .int f18, .long f19, .int f20, .int f21, .ref h24, .ref h25, .ref h26, .ref h27, .ref h28, .ref h29, .int f22, .ref h30, .int f23]))]) (w1 := []) hP hD [] [0] rfl rfl (by decide +kernel) (by decide +kernel) hk1 hFc hP1 hD1
    generalize H1 = H at hP hS ⊢
    as_aux_lemma =>
    have hP : va_P (dC, dI) vwCl [(h0, .inr (12, [.int 0, .ref h1, .ref h2, .ref h3, .ref h4, .ref h5, .int f1, .int f2, .int f3, .int f4, .int f5, .int f6, .int f7, .int f8, .int f9, .ref h6, .ref h7, .int f10, .ref h8, .ref h9, .ref h10, .ref h11, .ref h12, .ref h13, .ref h14, .ref h15, .int f11, .int f12, .int f13, .int f14, .int f15, .int f16, .ref h16, .ref h17, .int f17, .ref h18, .ref h19, .ref h20, .ref h21, .ref h22, .ref h23, .int f18, .long f19, .int f20, .int f21, .ref h24, .ref h25, .ref h26, .ref h27, .ref h28, .ref h29, .int f22, .ref h30, .int f23]))] H := hP
    have hD : va_D A [(h0, .inr (12, [.int 0, .ref h1, .ref h2, .ref h3, .ref h4, .ref h5, .int f1, .int f2, .int f3, .int f4, .int f5, .int f6, .int f7, .int f8, .int f9, .ref h6, .ref h7, .int f10, .ref h8, .ref h9, .ref h10, .ref h11, .ref h12, .ref h13, .ref h14, .ref h15, .int f11, .int f12, .int f13, .int f14, .int f15, .int f16, .ref h16, .ref h17, .int f17, .ref h18, .ref h19, .ref h20, .ref h21, .ref h22, .ref h23, .int f18, .long f19, .int f20, .int f21, .ref h24, .ref h25, .ref h26, .ref h27, .ref h28, .ref h29, .int f22, .ref h30, .int f23]))] := hD
    rw [hw]
    refine lv_if_eq (tgt := 28) hx hb dX12_blown_14 (by decide +kernel) (fun c_7 => ?_) (fun c_7 => absurd c_7 (by decide +kernel))
    refine lv_iconst (v := (-1)) hx hb dX12_blown_28 (by decide +kernel) ?_
    have hP9 := hP.sub (ws' := [(h0, .inr (12, [.int 0, .ref h1, .ref h2, .ref h3, .ref h4, .ref h5, .int f1, .int f2, .int f3, .int f4, .int f5, .int f6, .int f7, .int f8, .int f9, .ref h6, .ref h7, .int f10, .ref h8, .ref h9, .ref h10, .ref h11, .ref h12, .ref h13, .ref h14, .ref h15, .int f11, .int f12, .int f13, .int f14, .int f15, .int f16, .ref h16, .ref h17, .int f17, .ref h18, .ref h19, .ref h20, .ref h21, .ref h22, .ref h23, .int f18, .long f19, .int f20, .int f21, .ref h24, .ref h25, .ref h26, .ref h27, .ref h28, .ref h29, .int f22, .ref h30, .int f23]))]) [0] rfl
    have hD9 := hD.sub (ws' := [(h0, .inr (12, [.int 0, .ref h1, .ref h2, .ref h3, .ref h4, .ref h5, .int f1, .int f2, .int f3, .int f4, .int f5, .int f6, .int f7, .int f8, .int f9, .ref h6, .ref h7, .int f10, .ref h8, .ref h9, .ref h10, .ref h11, .ref h12, .ref h13, .ref h14, .ref h15, .int f11, .int f12, .int f13, .int f14, .int f15, .int f16, .ref h16, .ref h17, .int f17, .ref h18, .ref h19, .ref h20, .ref h21, .ref h22, .ref h23, .int f18, .long f19, .int f20, .int f21, .ref h24, .ref h25, .ref h26, .ref h27, .ref h28, .ref h29, .int f22, .ref h30, .int f23]))]) [0] (by decide +kernel) rfl
    have hK9 := hK.sub (tys' := []) [] rfl
    exact W.iret (v := (-1)) hx hb hr (fun t ht hW => ⟨⟨(-1), (), rfl, (bv_r1 (bv_l0.mp c_2)), by rw [ht]; exact hP9, va_K.moved hW.alike hK9, hD9⟩, hS.F ht⟩) hS.2.2 dX12_blown_29
  · obtain ⟨hP1, hK1, hD1⟩ := hB
    rw [ht] at hP1
    have hK1 := va_K.moved hvm.symm hK1
    obtain ⟨hP, hD⟩ := va_join (wr := [(h0, .inr (12, [.int 0, .ref h1, .ref h2, .ref h3, .ref h4, .ref h5, .int f1, .int f2, .int f3, .int f4, .int f5, .int f6, .int f7, .int f8, .int f9, .ref h6, .ref h7, .int f10, .ref h8, .ref h9, .ref h10, .ref h11, .ref h12, .ref h13, .ref h14, .ref h15, .int f11, .int f12, .int f13, .int f14, .int f15, .int f16, .ref h16, .ref h17, .int f17, .ref h18, .ref h19, .ref h20, .ref h21, .ref h22, .ref h23, .int f18, .long f19, .int f20, .int f21, .ref h24, .ref h25, .ref h26, .ref h27, .ref h28, .ref h29, .int f22, .ref h30, .int f23]))]) (w1 := []) hP hD [] [0] rfl rfl (by decide +kernel) (by decide +kernel) hk1 hFc hP1 hD1
    generalize H1 = H at hP hS ⊢
    as_aux_lemma =>
    have hP : va_P (dC, dI) vwCl [(h0, .inr (12, [.int 0, .ref h1, .ref h2, .ref h3, .ref h4, .ref h5, .int f1, .int f2, .int f3, .int f4, .int f5, .int f6, .int f7, .int f8, .int f9, .ref h6, .ref h7, .int f10, .ref h8, .ref h9, .ref h10, .ref h11, .ref h12, .ref h13, .ref h14, .ref h15, .int f11, .int f12, .int f13, .int f14, .int f15, .int f16, .ref h16, .ref h17, .int f17, .ref h18, .ref h19, .ref h20, .ref h21, .ref h22, .ref h23, .int f18, .long f19, .int f20, .int f21, .ref h24, .ref h25, .ref h26, .ref h27, .ref h28, .ref h29, .int f22, .ref h30, .int f23]))] H := hP
    have hD : va_D A [(h0, .inr (12, [.int 0, .ref h1, .ref h2, .ref h3, .ref h4, .ref h5, .int f1, .int f2, .int f3, .int f4, .int f5, .int f6, .int f7, .int f8, .int f9, .ref h6, .ref h7, .int f10, .ref h8, .ref h9, .ref h10, .ref h11, .ref h12, .ref h13, .ref h14, .ref h15, .int f11, .int f12, .int f13, .int f14, .int f15, .int f16, .ref h16, .ref h17, .int f17, .ref h18, .ref h19, .ref h20, .ref h21, .ref h22, .ref h23, .int f18, .long f19, .int f20, .int f21, .ref h24, .ref h25, .ref h26, .ref h27, .ref h28, .ref h29, .int f22, .ref h30, .int f23]))] := hD
    rw [hw]
    refine lv_if_eq (tgt := 28) hx hb dX12_blown_14 (by decide +kernel) (fun c_8 => ?_) (fun c_8 => absurd c_8 (by decide +kernel))
    refine lv_iconst (v := (-1)) hx hb dX12_blown_28 (by decide +kernel) ?_
    have hP9 := hP.sub (ws' := [(h0, .inr (12, [.int 0, .ref h1, .ref h2, .ref h3, .ref h4, .ref h5, .int f1, .int f2, .int f3, .int f4, .int f5, .int f6, .int f7, .int f8, .int f9, .ref h6, .ref h7, .int f10, .ref h8, .ref h9, .ref h10, .ref h11, .ref h12, .ref h13, .ref h14, .ref h15, .int f11, .int f12, .int f13, .int f14, .int f15, .int f16, .ref h16, .ref h17, .int f17, .ref h18, .ref h19, .ref h20, .ref h21, .ref h22, .ref h23, .int f18, .long f19, .int f20, .int f21, .ref h24, .ref h25, .ref h26, .ref h27, .ref h28, .ref h29, .int f22, .ref h30, .int f23]))]) [0] rfl
    have hD9 := hD.sub (ws' := [(h0, .inr (12, [.int 0, .ref h1, .ref h2, .ref h3, .ref h4, .ref h5, .int f1, .int f2, .int f3, .int f4, .int f5, .int f6, .int f7, .int f8, .int f9, .ref h6, .ref h7, .int f10, .ref h8, .ref h9, .ref h10, .ref h11, .ref h12, .ref h13, .ref h14, .ref h15, .int f11, .int f12, .int f13, .int f14, .int f15, .int f16, .ref h16, .ref h17, .int f17, .ref h18, .ref h19, .ref h20, .ref h21, .ref h22, .ref h23, .int f18, .long f19, .int f20, .int f21, .ref h24, .ref h25, .ref h26, .ref h27, .ref h28, .ref h29, .int f22, .ref h30, .int f23]))]) [0] (by decide +kernel) rfl
    have hK9 := hK.sub (tys' := []) [] rfl
    exact W.iret (v := (-1)) hx hb hr (fun t ht hW => ⟨⟨(-1), (), rfl, (bv_r2 (bv_l18.mp c_4)), by rw [ht]; exact hP9, va_K.moved hW.alike hK9, hD9⟩, hS.F ht⟩) hS.2.2 dX12_blown_29
  · obtain ⟨hP1, hK1, hD1⟩ := hB
    rw [ht] at hP1
    have hK1 := va_K.moved hvm.symm hK1
    obtain ⟨hP, hD⟩ := va_join (wr := [(h0, .inr (12, [.int 0, .ref h1, .ref h2, .ref h3, .ref h4, .ref h5, .int f1, .int f2, .int f3, .int f4, .int f5, .int f6, .int f7, .int f8, .int f9, .ref h6, .ref h7, .int f10, .ref h8, .ref h9, .ref h10, .ref h11, .ref h12, .ref h13, .ref h14, .ref h15, .int f11, .int f12, .int f13, .int f14, .int f15, .int f16, .ref h16, .ref h17, .int f17, .ref h18, .ref h19, .ref h20, .ref h21, .ref h22, .ref h23, .int f18, .long f19, .int f20, .int f21, .ref h24, .ref h25, .ref h26, .ref h27, .ref h28, .ref h29, .int f22, .ref h30, .int f23]))]) (w1 := []) hP hD [] [0] rfl rfl (by decide +kernel) (by decide +kernel) hk1 hFc hP1 hD1
    generalize H1 = H at hP hS ⊢
    as_aux_lemma =>
    have hP : va_P (dC, dI) vwCl [(h0, .inr (12, [.int 0, .ref h1, .ref h2, .ref h3, .ref h4, .ref h5, .int f1, .int f2, .int f3, .int f4, .int f5, .int f6, .int f7, .int f8, .int f9, .ref h6, .ref h7, .int f10, .ref h8, .ref h9, .ref h10, .ref h11, .ref h12, .ref h13, .ref h14, .ref h15, .int f11, .int f12, .int f13, .int f14, .int f15, .int f16, .ref h16, .ref h17, .int f17, .ref h18, .ref h19, .ref h20, .ref h21, .ref h22, .ref h23, .int f18, .long f19, .int f20, .int f21, .ref h24, .ref h25, .ref h26, .ref h27, .ref h28, .ref h29, .int f22, .ref h30, .int f23]))] H := hP
    have hD : va_D A [(h0, .inr (12, [.int 0, .ref h1, .ref h2, .ref h3, .ref h4, .ref h5, .int f1, .int f2, .int f3, .int f4, .int f5, .int f6, .int f7, .int f8, .int f9, .ref h6, .ref h7, .int f10, .ref h8, .ref h9, .ref h10, .ref h11, .ref h12, .ref h13, .ref h14, .ref h15, .int f11, .int f12, .int f13, .int f14, .int f15, .int f16, .ref h16, .ref h17, .int f17, .ref h18, .ref h19, .ref h20, .ref h21, .ref h22, .ref h23, .int f18, .long f19, .int f20, .int f21, .ref h24, .ref h25, .ref h26, .ref h27, .ref h28, .ref h29, .int f22, .ref h30, .int f23]))] := hD
    rw [hw]
    refine lv_if_eq (tgt := 28) hx hb dX12_blown_14 (by decide +kernel) (fun c_9 => absurd c_9 (by decide +kernel)) (fun c_9 => ?_)
    refine lv_iload_n hx hb dX12_blown_17 rfl (lv_at hl 2 rfl) ?_
    refine lv_i2l (v := (p2.toInt64)) hx hb dX12_blown_18 rfl ?_
    refine lv_lconst (v := 0) hx hb dX12_blown_19 (by decide +kernel) ?_
    refine lv_iload_n hx hb dX12_blown_20 rfl (lv_at hl 1 rfl) ?_
    refine lv_i2l (v := (p1.toInt64)) hx hb dX12_blown_21 rfl ?_
    have hPc := hP.sub (ws' := []) [] rfl
    have hDc := hD.sub (ws' := []) [] (by decide +kernel) rfl
    have hKc := hK.sub (tys' := []) [] rfl
    have hFc := va_free (wc := []) hD hS hA [] rfl
    refine va_calli (va_runS (As := [.long (p2.toInt64), .long 0, .long (p1.toInt64)]) (rest := []) ⟨hx, hb, hml, hown, hts⟩ (o_X12_isIn l dC dI H.size (p2.toInt64) 0 (p1.toInt64)) (va_cwS 3 hts gf_o_X12_blown_o_X12_isIn rfl rfl rfl (by decide +kernel) ⟨Nat.le_of_ble_eq_true rfl, Nat.le_of_ble_eq_true rfl⟩) ⟨fun a U g mk q => by obtain ⟨q0, q1, qP, qK, qD⟩ := q; exact ⟨q0, q1, qP, va_K.moved (u := U) (U := U.calling g mk a) (Vm.Alike.refl U.vm) qK, qD⟩, fun U hU hW => ⟨rfl, by rw [hU], by rw [hU]; exact hPc, va_K.moved hW.alike hKc, hDc.weaken (fun _ _ _ _ => trivial)⟩⟩ rfl rfl hl.1 rfl (lv_room (Nat.le_of_ble_eq_true rfl)) dX12_blown_22 ⟨Nat.le_of_ble_eq_true rfl, Nat.le_of_ble_eq_true rfl⟩) hS (fun q _ h => hFc q h) hFc (fun r_10 u t H1 locs ht hvm hw hB hz1 hk1 hS => ?_)
    as_aux_lemma =>
    rcases hw with ⟨c_11, hw⟩ | ⟨c_12, c_13, hw⟩ | ⟨c_14, c_15, hw⟩
    · obtain ⟨hP1, hK1, hD1⟩ := hB
      rw [ht] at hP1
      have hK1 := va_K.moved hvm.symm hK1
      obtain ⟨hP, hD⟩ := va_join (wr := [(h0, .inr (12, [.int 0, .ref h1, .ref h2, .ref h3, .ref h4, .ref h5, .int f1, .int f2, .int f3, .int f4, .int f5, .int f6, .int f7, .int f8, .int f9, .ref h6, .ref h7, .int f10, .ref h8, .ref h9, .ref h10, .ref h11, .ref h12, .ref h13, .ref h14, .ref h15, .int f11, .int f12, .int f13, .int f14, .int f15, .int f16, .ref h16, .ref h17, .int f17, .ref h18, .ref h19, .ref h20, .ref h21, .ref h22, .ref h23, .int f18, .long f19, .int f20, .int f21, .ref h24, .ref h25, .ref h26, .ref h27, .ref h28, .ref h29, .int f22, .ref h30, .int f23]))]) (w1 := []) hP hD [] [0] rfl rfl (by decide +kernel) (by decide +kernel) hk1 hFc hP1 hD1
      generalize H1 = H at hP hS ⊢
      as_aux_lemma =>
      have hP : va_P (dC, dI) vwCl [(h0, .inr (12, [.int 0, .ref h1, .ref h2, .ref h3, .ref h4, .ref h5, .int f1, .int f2, .int f3, .int f4, .int f5, .int f6, .int f7, .int f8, .int f9, .ref h6, .ref h7, .int f10, .ref h8, .ref h9, .ref h10, .ref h11, .ref h12, .ref h13, .ref h14, .ref h15, .int f11, .int f12, .int f13, .int f14, .int f15, .int f16, .ref h16, .ref h17, .int f17, .ref h18, .ref h19, .ref h20, .ref h21, .ref h22, .ref h23, .int f18, .long f19, .int f20, .int f21, .ref h24, .ref h25, .ref h26, .ref h27, .ref h28, .ref h29, .int f22, .ref h30, .int f23]))] H := hP
      have hD : va_D A [(h0, .inr (12, [.int 0, .ref h1, .ref h2, .ref h3, .ref h4, .ref h5, .int f1, .int f2, .int f3, .int f4, .int f5, .int f6, .int f7, .int f8, .int f9, .ref h6, .ref h7, .int f10, .ref h8, .ref h9, .ref h10, .ref h11, .ref h12, .ref h13, .ref h14, .ref h15, .int f11, .int f12, .int f13, .int f14, .int f15, .int f16, .ref h16, .ref h17, .int f17, .ref h18, .ref h19, .ref h20, .ref h21, .ref h22, .ref h23, .int f18, .long f19, .int f20, .int f21, .ref h24, .ref h25, .ref h26, .ref h27, .ref h28, .ref h29, .int f22, .ref h30, .int f23]))] := hD
      rw [hw]
      refine lv_if_ne (tgt := 30) hx hb dX12_blown_25 (by decide +kernel) (fun c_16 => absurd c_16 (by decide +kernel)) (fun c_16 => ?_)
      refine lv_iconst (v := (-1)) hx hb dX12_blown_28 (by decide +kernel) ?_
      have hP9 := hP.sub (ws' := [(h0, .inr (12, [.int 0, .ref h1, .ref h2, .ref h3, .ref h4, .ref h5, .int f1, .int f2, .int f3, .int f4, .int f5, .int f6, .int f7, .int f8, .int f9, .ref h6, .ref h7, .int f10, .ref h8, .ref h9, .ref h10, .ref h11, .ref h12, .ref h13, .ref h14, .ref h15, .int f11, .int f12, .int f13, .int f14, .int f15, .int f16, .ref h16, .ref h17, .int f17, .ref h18, .ref h19, .ref h20, .ref h21, .ref h22, .ref h23, .int f18, .long f19, .int f20, .int f21, .ref h24, .ref h25, .ref h26, .ref h27, .ref h28, .ref h29, .int f22, .ref h30, .int f23]))]) [0] rfl
      have hD9 := hD.sub (ws' := [(h0, .inr (12, [.int 0, .ref h1, .ref h2, .ref h3, .ref h4, .ref h5, .int f1, .int f2, .int f3, .int f4, .int f5, .int f6, .int f7, .int f8, .int f9, .ref h6, .ref h7, .int f10, .ref h8, .ref h9, .ref h10, .ref h11, .ref h12, .ref h13, .ref h14, .ref h15, .int f11, .int f12, .int f13, .int f14, .int f15, .int f16, .ref h16, .ref h17, .int f17, .ref h18, .ref h19, .ref h20, .ref h21, .ref h22, .ref h23, .int f18, .long f19, .int f20, .int f21, .ref h24, .ref h25, .ref h26, .ref h27, .ref h28, .ref h29, .int f22, .ref h30, .int f23]))]) [0] (by decide +kernel) rfl
      have hK9 := hK.sub (tys' := []) [] rfl
      exact W.iret (v := (-1)) hx hb hr (fun t ht hW => ⟨⟨(-1), (), rfl, (bv_r3 (bv_l0.mp c_11)), by rw [ht]; exact hP9, va_K.moved hW.alike hK9, hD9⟩, hS.F ht⟩) hS.2.2 dX12_blown_29
    · obtain ⟨hP1, hK1, hD1⟩ := hB
      rw [ht] at hP1
      have hK1 := va_K.moved hvm.symm hK1
      obtain ⟨hP, hD⟩ := va_join (wr := [(h0, .inr (12, [.int 0, .ref h1, .ref h2, .ref h3, .ref h4, .ref h5, .int f1, .int f2, .int f3, .int f4, .int f5, .int f6, .int f7, .int f8, .int f9, .ref h6, .ref h7, .int f10, .ref h8, .ref h9, .ref h10, .ref h11, .ref h12, .ref h13, .ref h14, .ref h15, .int f11, .int f12, .int f13, .int f14, .int f15, .int f16, .ref h16, .ref h17, .int f17, .ref h18, .ref h19, .ref h20, .ref h21, .ref h22, .ref h23, .int f18, .long f19, .int f20, .int f21, .ref h24, .ref h25, .ref h26, .ref h27, .ref h28, .ref h29, .int f22, .ref h30, .int f23]))]) (w1 := []) hP hD [] [0] rfl rfl (by decide +kernel) (by decide +kernel) hk1 hFc hP1 hD1
      generalize H1 = H at hP hS ⊢
      as_aux_lemma =>
      have hP : va_P (dC, dI) vwCl [(h0, .inr (12, [.int 0, .ref h1, .ref h2, .ref h3, .ref h4, .ref h5, .int f1, .int f2, .int f3, .int f4, .int f5, .int f6, .int f7, .int f8, .int f9, .ref h6, .ref h7, .int f10, .ref h8, .ref h9, .ref h10, .ref h11, .ref h12, .ref h13, .ref h14, .ref h15, .int f11, .int f12, .int f13, .int f14, .int f15, .int f16, .ref h16, .ref h17, .int f17, .ref h18, .ref h19, .ref h20, .ref h21, .ref h22, .ref h23, .int f18, .long f19, .int f20, .int f21, .ref h24, .ref h25, .ref h26, .ref h27, .ref h28, .ref h29, .int f22, .ref h30, .int f23]))] H := hP
      have hD : va_D A [(h0, .inr (12, [.int 0, .ref h1, .ref h2, .ref h3, .ref h4, .ref h5, .int f1, .int f2, .int f3, .int f4, .int f5, .int f6, .int f7, .int f8, .int f9, .ref h6, .ref h7, .int f10, .ref h8, .ref h9, .ref h10, .ref h11, .ref h12, .ref h13, .ref h14, .ref h15, .int f11, .int f12, .int f13, .int f14, .int f15, .int f16, .ref h16, .ref h17, .int f17, .ref h18, .ref h19, .ref h20, .ref h21, .ref h22, .ref h23, .int f18, .long f19, .int f20, .int f21, .ref h24, .ref h25, .ref h26, .ref h27, .ref h28, .ref h29, .int f22, .ref h30, .int f23]))] := hD
      rw [hw]
      refine lv_if_ne (tgt := 30) hx hb dX12_blown_25 (by decide +kernel) (fun c_17 => absurd c_17 (by decide +kernel)) (fun c_17 => ?_)
      refine lv_iconst (v := (-1)) hx hb dX12_blown_28 (by decide +kernel) ?_
      have hP9 := hP.sub (ws' := [(h0, .inr (12, [.int 0, .ref h1, .ref h2, .ref h3, .ref h4, .ref h5, .int f1, .int f2, .int f3, .int f4, .int f5, .int f6, .int f7, .int f8, .int f9, .ref h6, .ref h7, .int f10, .ref h8, .ref h9, .ref h10, .ref h11, .ref h12, .ref h13, .ref h14, .ref h15, .int f11, .int f12, .int f13, .int f14, .int f15, .int f16, .ref h16, .ref h17, .int f17, .ref h18, .ref h19, .ref h20, .ref h21, .ref h22, .ref h23, .int f18, .long f19, .int f20, .int f21, .ref h24, .ref h25, .ref h26, .ref h27, .ref h28, .ref h29, .int f22, .ref h30, .int f23]))]) [0] rfl
      have hD9 := hD.sub (ws' := [(h0, .inr (12, [.int 0, .ref h1, .ref h2, .ref h3, .ref h4, .ref h5, .int f1, .int f2, .int f3, .int f4, .int f5, .int f6, .int f7, .int f8, .int f9, .ref h6, .ref h7, .int f10, .ref h8, .ref h9, .ref h10, .ref h11, .ref h12, .ref h13, .ref h14, .ref h15, .int f11, .int f12, .int f13, .int f14, .int f15, .int f16, .ref h16, .ref h17, .int f17, .ref h18, .ref h19, .ref h20, .ref h21, .ref h22, .ref h23, .int f18, .long f19, .int f20, .int f21, .ref h24, .ref h25, .ref h26, .ref h27, .ref h28, .ref h29, .int f22, .ref h30, .int f23]))]) [0] (by decide +kernel) rfl
      have hK9 := hK.sub (tys' := []) [] rfl
      exact W.iret (v := (-1)) hx hb hr (fun t ht hW => ⟨⟨(-1), (), rfl, (bv_r4 (bv_ll.mp c_13)), by rw [ht]; exact hP9, va_K.moved hW.alike hK9, hD9⟩, hS.F ht⟩) hS.2.2 dX12_blown_29
    · obtain ⟨hP1, hK1, hD1⟩ := hB
      rw [ht] at hP1
      have hK1 := va_K.moved hvm.symm hK1
      obtain ⟨hP, hD⟩ := va_join (wr := [(h0, .inr (12, [.int 0, .ref h1, .ref h2, .ref h3, .ref h4, .ref h5, .int f1, .int f2, .int f3, .int f4, .int f5, .int f6, .int f7, .int f8, .int f9, .ref h6, .ref h7, .int f10, .ref h8, .ref h9, .ref h10, .ref h11, .ref h12, .ref h13, .ref h14, .ref h15, .int f11, .int f12, .int f13, .int f14, .int f15, .int f16, .ref h16, .ref h17, .int f17, .ref h18, .ref h19, .ref h20, .ref h21, .ref h22, .ref h23, .int f18, .long f19, .int f20, .int f21, .ref h24, .ref h25, .ref h26, .ref h27, .ref h28, .ref h29, .int f22, .ref h30, .int f23]))]) (w1 := []) hP hD [] [0] rfl rfl (by decide +kernel) (by decide +kernel) hk1 hFc hP1 hD1
      generalize H1 = H at hP hS ⊢
      as_aux_lemma =>
      have hP : va_P (dC, dI) vwCl [(h0, .inr (12, [.int 0, .ref h1, .ref h2, .ref h3, .ref h4, .ref h5, .int f1, .int f2, .int f3, .int f4, .int f5, .int f6, .int f7, .int f8, .int f9, .ref h6, .ref h7, .int f10, .ref h8, .ref h9, .ref h10, .ref h11, .ref h12, .ref h13, .ref h14, .ref h15, .int f11, .int f12, .int f13, .int f14, .int f15, .int f16, .ref h16, .ref h17, .int f17, .ref h18, .ref h19, .ref h20, .ref h21, .ref h22, .ref h23, .int f18, .long f19, .int f20, .int f21, .ref h24, .ref h25, .ref h26, .ref h27, .ref h28, .ref h29, .int f22, .ref h30, .int f23]))] H := hP
      have hD : va_D A [(h0, .inr (12, [.int 0, .ref h1, .ref h2, .ref h3, .ref h4, .ref h5, .int f1, .int f2, .int f3, .int f4, .int f5, .int f6, .int f7, .int f8, .int f9, .ref h6, .ref h7, .int f10, .ref h8, .ref h9, .ref h10, .ref h11, .ref h12, .ref h13, .ref h14, .ref h15, .int f11, .int f12, .int f13, .int f14, .int f15, .int f16, .ref h16, .ref h17, .int f17, .ref h18, .ref h19, .ref h20, .ref h21, .ref h22, .ref h23, .int f18, .long f19, .int f20, .int f21, .ref h24, .ref h25, .ref h26, .ref h27, .ref h28, .ref h29, .int f22, .ref h30, .int f23]))] := hD
      rw [hw]
      refine lv_if_ne (tgt := 30) hx hb dX12_blown_25 (by decide +kernel) (fun c_18 => ?_) (fun c_18 => absurd c_18 (by decide +kernel))
      obtain ⟨n, k, hn, hkn, en, ek, hsp⟩ := bv_in (fun q => c_5 (bv_l0.mpr q)) (fun q => c_6 (bv_l18.mpr q)) (fun q => c_14 (bv_l0.mpr q)) (fun q => c_15 (bv_ll.mpr q))
      rw [hsp]
      rw [en, ek] at hl
      refine bt_X12_blown hx hb hown (fun w hw => (List.mem_cons.mp hw).elim (fun e => by rw [e]; exact hts _ (List.mem_of_getElem? (i := 7) rfl)) (fun hw => (List.mem_cons.mp hw).elim (fun e => by rw [e]; exact hts _ (List.mem_of_getElem? (i := 8) rfl)) (fun hw => (List.mem_cons.mp hw).elim (fun e => by rw [e]; exact hts _ (List.mem_of_getElem? (i := 9) rfl)) (fun hw => (List.mem_cons.mp hw).elim (fun e => by rw [e]; exact hts _ (List.mem_of_getElem? (i := 10) rfl)) (fun hw => absurd hw List.not_mem_nil))))) hn hkn hl (fun ls => ?_)
      have hP9 := hP.sub (ws' := [(h0, .inr (12, [.int 0, .ref h1, .ref h2, .ref h3, .ref h4, .ref h5, .int f1, .int f2, .int f3, .int f4, .int f5, .int f6, .int f7, .int f8, .int f9, .ref h6, .ref h7, .int f10, .ref h8, .ref h9, .ref h10, .ref h11, .ref h12, .ref h13, .ref h14, .ref h15, .int f11, .int f12, .int f13, .int f14, .int f15, .int f16, .ref h16, .ref h17, .int f17, .ref h18, .ref h19, .ref h20, .ref h21, .ref h22, .ref h23, .int f18, .long f19, .int f20, .int f21, .ref h24, .ref h25, .ref h26, .ref h27, .ref h28, .ref h29, .int f22, .ref h30, .int f23]))]) [0] rfl
      have hD9 := hD.sub (ws' := [(h0, .inr (12, [.int 0, .ref h1, .ref h2, .ref h3, .ref h4, .ref h5, .int f1, .int f2, .int f3, .int f4, .int f5, .int f6, .int f7, .int f8, .int f9, .ref h6, .ref h7, .int f10, .ref h8, .ref h9, .ref h10, .ref h11, .ref h12, .ref h13, .ref h14, .ref h15, .int f11, .int f12, .int f13, .int f14, .int f15, .int f16, .ref h16, .ref h17, .int f17, .ref h18, .ref h19, .ref h20, .ref h21, .ref h22, .ref h23, .int f18, .long f19, .int f20, .int f21, .ref h24, .ref h25, .ref h26, .ref h27, .ref h28, .ref h29, .int f22, .ref h30, .int f23]))]) [0] (by decide +kernel) rfl
      have hK9 := hK.sub (tys' := []) [] rfl
      exact W.iret (v := bv_bl n k) hx hb hr (fun t ht hW => ⟨⟨bv_bl n k, (), rfl, rfl, by rw [ht]; exact hP9, va_K.moved hW.alike hK9, hD9⟩, hS.F ht⟩) hS.2.2 dX12_blown_135
noncomputable def wd_o_X11_blown (a0 : Nat) (a1 : Nat) (a2 : Nat) (a3 : Nat) (a4 : Nat) (a5 : Nat) (a6 : Int32) (a7 : Nat) (a8 : Nat) (a9 : Nat) (a10 : Nat) (a11 : Nat) (a12 : Nat) (a13 : Nat) (a14 : Nat) (a15 : Nat) (a16 : Int64) : va_W := [(a0, .inr (11, [.ref a1, .ref a2, .ref a3, .ref a4, .ref a5, .int a6, .ref a7, .ref a8, .ref a9, .ref a10, .ref a11, .ref a12, .ref a13, .ref a14, .ref a15, .long a16]))]
noncomputable def wd_o_X12_blown (a0 : Nat) (a1 : Int32) (a2 : Nat) (a3 : Nat) (a4 : Nat) (a5 : Nat) (a6 : Nat) (a7 : Int32) (a8 : Int32) (a9 : Int32) (a10 : Int32) (a11 : Int32) (a12 : Int32) (a13 : Int32) (a14 : Int32) (a15 : Int32) (a16 : Nat) (a17 : Nat) (a18 : Int32) (a19 : Nat) (a20 : Nat) (a21 : Nat) (a22 : Nat) (a23 : Nat) (a24 : Nat) (a25 : Nat) (a26 : Nat) (a27 : Int32) (a28 : Int32) (a29 : Int32) (a30 : Int32) (a31 : Int32) (a32 : Int32) (a33 : Nat) (a34 : Nat) (a35 : Int32) (a36 : Nat) (a37 : Nat) (a38 : Nat) (a39 : Nat) (a40 : Nat) (a41 : Nat) (a42 : Int32) (a43 : Int64) (a44 : Int32) (a45 : Int32) (a46 : Nat) (a47 : Nat) (a48 : Nat) (a49 : Nat) (a50 : Nat) (a51 : Nat) (a52 : Int32) (a53 : Nat) (a54 : Int32) : va_W := [(a0, .inr (12, [.int a1, .ref a2, .ref a3, .ref a4, .ref a5, .ref a6, .int a7, .int a8, .int a9, .int a10, .int a11, .int a12, .int a13, .int a14, .int a15, .ref a16, .ref a17, .int a18, .ref a19, .ref a20, .ref a21, .ref a22, .ref a23, .ref a24, .ref a25, .ref a26, .int a27, .int a28, .int a29, .int a30, .int a31, .int a32, .ref a33, .ref a34, .int a35, .ref a36, .ref a37, .ref a38, .ref a39, .ref a40, .ref a41, .int a42, .long a43, .int a44, .int a45, .ref a46, .ref a47, .ref a48, .ref a49, .ref a50, .ref a51, .int a52, .ref a53, .int a54]))]
