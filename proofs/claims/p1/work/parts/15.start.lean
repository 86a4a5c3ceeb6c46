set_option maxHeartbeats 4000000 in
set_option maxRecDepth 100000 in
theorem bv_env_ok {p : Program} {s : State} {m : MethodId} {meth : Method} {c : Code} {b L : Nat} {xs : Nat → Int32} {A : Nat → Prop} (C0 : lw_At p s m meth c b L xs) (hA0 : ∀ a : Nat, a < s.heap.size → ¬ A a) : ∃ ta0 ta1 ts0 tv0 ts1 tv1 ts2 tv2 ts3 tv3 ts4 tv4 : Nat, bv_env ta0 ta1 ts0 tv0 ts1 tv1 ts2 tv2 ts3 tv3 ts4 tv4 A s s.heap := by
  obtain ⟨-, -, -, -, -, hts, -, -, -, hgv⟩ := C0
  have hs := flat_of_before _ hgv
  obtain ⟨ta0, eta0, hTta0⟩ := va_Tof (args := #[Value.ref b]) (s := s) (tm := (.static "BuoyVote$Borough" "USUAL" "[I")) (ty := .int) (N := 16) (f := (fun j => .int ([2, 0, 6, 8, 0, 0, 3, 0, 0, 0, 3, 2, 0, 0, 2, 3].getD j 0))) (A := A) (by decide) (hs (.arrayOf (.static "BuoyVote$Borough" "USUAL" "[I") .int) (by decide +kernel)) (va_eqt (hs (.eq (.length (.static "BuoyVote$Borough" "USUAL" "[I")) (.int 16)) (by decide +kernel))) (fun j hj => match j, hj with | 0, _ => va_eqt (hs (.eq (.elem (.static "BuoyVote$Borough" "USUAL" "[I") (.int 0)) (.int 2)) (by decide +kernel)) | 1, _ => va_eqt (hs (.eq (.elem (.static "BuoyVote$Borough" "USUAL" "[I") (.int 1)) (.int 0)) (by decide +kernel)) | 2, _ => va_eqt (hs (.eq (.elem (.static "BuoyVote$Borough" "USUAL" "[I") (.int 2)) (.int 6)) (by decide +kernel)) | 3, _ => va_eqt (hs (.eq (.elem (.static "BuoyVote$Borough" "USUAL" "[I") (.int 3)) (.int 8)) (by decide +kernel)) | 4, _ => va_eqt (hs (.eq (.elem (.static "BuoyVote$Borough" "USUAL" "[I") (.int 4)) (.int 0)) (by decide +kernel)) | 5, _ => va_eqt (hs (.eq (.elem (.static "BuoyVote$Borough" "USUAL" "[I") (.int 5)) (.int 0)) (by decide +kernel)) | 6, _ => va_eqt (hs (.eq (.elem (.static "BuoyVote$Borough" "USUAL" "[I") (.int 6)) (.int 3)) (by decide +kernel)) | 7, _ => va_eqt (hs (.eq (.elem (.static "BuoyVote$Borough" "USUAL" "[I") (.int 7)) (.int 0)) (by decide +kernel)) | 8, _ => va_eqt (hs (.eq (.elem (.static "BuoyVote$Borough" "USUAL" "[I") (.int 8)) (.int 0)) (by decide +kernel)) | 9, _ => va_eqt (hs (.eq (.elem (.static "BuoyVote$Borough" "USUAL" "[I") (.int 9)) (.int 0)) (by decide +kernel)) | 10, _ => va_eqt (hs (.eq (.elem (.static "BuoyVote$Borough" "USUAL" "[I") (.int 10)) (.int 3)) (by decide +kernel)) | 11, _ => va_eqt (hs (.eq (.elem (.static "BuoyVote$Borough" "USUAL" "[I") (.int 11)) (.int 2)) (by decide +kernel)) | 12, _ => va_eqt (hs (.eq (.elem (.static "BuoyVote$Borough" "USUAL" "[I") (.int 12)) (.int 0)) (by decide +kernel)) | 13, _ => va_eqt (hs (.eq (.elem (.static "BuoyVote$Borough" "USUAL" "[I") (.int 13)) (.int 0)) (by decide +kernel)) | 14, _ => va_eqt (hs (.eq (.elem (.static "BuoyVote$Borough" "USUAL" "[I") (.int 14)) (.int 2)) (by decide +kernel)) | 15, _ => va_eqt (hs (.eq (.elem (.static "BuoyVote$Borough" "USUAL" "[I") (.int 15)) (.int 3)) (by decide +kernel)) | j + 16, h => absurd h (by omega)) hA0
  have hZta0 : va_Z "BuoyVote$Borough" "USUAL" "[I" (.ref ta0) A s s.heap := va_Zof (hts (.laysStatic "BuoyVote$Borough" "USUAL" "[I") (List.mem_of_getElem? (i := 561) (by decide +kernel))) (hts (.initialized "BuoyVote$Borough") (List.mem_of_getElem? (i := 114) (by decide +kernel))) eta0 hA0
  obtain ⟨ta1, eta1, hTta1⟩ := va_Tof (args := #[Value.ref b]) (s := s) (tm := (.static "BuoyVote$Borough" "FIRST" "[I")) (ty := .int) (N := 3) (f := (fun j => .int ([0, 4, 12].getD j 0))) (A := A) (by decide) (hs (.arrayOf (.static "BuoyVote$Borough" "FIRST" "[I") .int) (by decide +kernel)) (va_eqt (hs (.eq (.length (.static "BuoyVote$Borough" "FIRST" "[I")) (.int 3)) (by decide +kernel))) (fun j hj => match j, hj with | 0, _ => va_eqt (hs (.eq (.elem (.static "BuoyVote$Borough" "FIRST" "[I") (.int 0)) (.int 0)) (by decide +kernel)) | 1, _ => va_eqt (hs (.eq (.elem (.static "BuoyVote$Borough" "FIRST" "[I") (.int 1)) (.int 4)) (by decide +kernel)) | 2, _ => va_eqt (hs (.eq (.elem (.static "BuoyVote$Borough" "FIRST" "[I") (.int 2)) (.int 12)) (by decide +kernel)) | j + 3, h => absurd h (by omega)) hA0
  have hZta1 : va_Z "BuoyVote$Borough" "FIRST" "[I" (.ref ta1) A s s.heap := va_Zof (hts (.laysStatic "BuoyVote$Borough" "FIRST" "[I") (List.mem_of_getElem? (i := 563) (by decide +kernel))) (hts (.initialized "BuoyVote$Borough") (List.mem_of_getElem? (i := 114) (by decide +kernel))) eta1 hA0
  have hCS : va_Z "java/lang/String" "COMPACT_STRINGS" "Z" (.int 1) A s s.heap := va_Zof (hts (.laysStatic "java/lang/String" "COMPACT_STRINGS" "Z") (List.mem_of_getElem? (i := 559) (by decide +kernel))) (hts (.initialized "java/lang/String") (List.mem_of_getElem? (i := 125) (by decide +kernel))) (va_eqi (hs (.eq (.static "java/lang/String" "COMPACT_STRINGS" "Z") (.int 1)) (by decide +kernel))) hA0
  have hSF : va_Zq "jdk/internal/util/Preconditions" "SIOOBE_FORMATTER" "Ljava/util/function/BiFunction;" A s s.heap := va_Zqof (hts (.laysStatic "jdk/internal/util/Preconditions" "SIOOBE_FORMATTER" "Ljava/util/function/BiFunction;") (List.mem_of_getElem? (i := 627) (by decide +kernel))) (hts (.initialized "jdk/internal/util/Preconditions") (List.mem_of_getElem? (i := 129) (by decide +kernel))) (hs (.isRef (.static "jdk/internal/util/Preconditions" "SIOOBE_FORMATTER" "Ljava/util/function/BiFunction;")) (by decide +kernel)) hA0
  have g0 : ∀ i : Nat, i < 1 → i = 0 := fun i hi => by omega
  obtain ⟨aK0, aV0, hS0, ev0⟩ := vk_Sof (args := #[Value.ref b]) (s := s) (N := 1) (tm := fun _ => (.string "BuoyVote$Borough" 122)) (len := [4]) (byt := [[119, 100, 116, 104]]) (A := A) (fun i hi => by rw [g0 i hi]; decide) (fun i hi => (hs (.exactly (.string "BuoyVote$Borough" 122) "java/lang/String") (by decide +kernel))) (fun i hi => (hs (.eq (.field (.string "BuoyVote$Borough" 122) "java/lang/String" "coder" "B") (.int 0)) (by decide +kernel))) (fun i hi => (hs (.arrayOf (.field (.string "BuoyVote$Borough" 122) "java/lang/String" "value" "[B") .byte) (by decide +kernel))) (fun i hi => by rw [g0 i hi]; exact (hs (.eq (.length (.field (.string "BuoyVote$Borough" 122) "java/lang/String" "value" "[B")) (.int 4)) (by decide +kernel))) (fun i hi => by rw [g0 i hi]; exact fun j hj => match j, (show j < 4 from hj) with | 0, _ => hs (.eq (.elem (.field (.string "BuoyVote$Borough" 122) "java/lang/String" "value" "[B") (.int 0)) (.int 119)) (by decide +kernel) | 1, _ => hs (.eq (.elem (.field (.string "BuoyVote$Borough" 122) "java/lang/String" "value" "[B") (.int 1)) (.int 100)) (by decide +kernel) | 2, _ => hs (.eq (.elem (.field (.string "BuoyVote$Borough" 122) "java/lang/String" "value" "[B") (.int 2)) (.int 116)) (by decide +kernel) | 3, _ => hs (.eq (.elem (.field (.string "BuoyVote$Borough" 122) "java/lang/String" "value" "[B") (.int 3)) (.int 104)) (by decide +kernel) | j + 4, h => absurd h (by omega)) (fun i j hi hj h => absurd ((g0 i hi).trans (g0 j hj).symm) h) hA0
  obtain ⟨hO0, hC0, hV0, hB0⟩ := hS0.1 0 (by decide)
  have hR0 : vk_R RX0 122 "wdth" (aK0 0) s := vk_R.of (hts (.stringRef "BuoyVote$Borough" 122 "wdth") (List.mem_of_getElem? (i := 547) (by decide +kernel))) (ev0 0 (by decide))
  have g1 : ∀ i : Nat, i < 1 → i = 0 := fun i hi => by omega
  obtain ⟨aK1, aV1, hS1, ev1⟩ := vk_Sof (args := #[Value.ref b]) (s := s) (N := 1) (tm := fun _ => (.string "BuoyVote$Borough" 70)) (len := [3]) (byt := [[115, 98, 99]]) (A := A) (fun i hi => by rw [g1 i hi]; decide) (fun i hi => (hs (.exactly (.string "BuoyVote$Borough" 70) "java/lang/String") (by decide +kernel))) (fun i hi => (hs (.eq (.field (.string "BuoyVote$Borough" 70) "java/lang/String" "coder" "B") (.int 0)) (by decide +kernel))) (fun i hi => (hs (.arrayOf (.field (.string "BuoyVote$Borough" 70) "java/lang/String" "value" "[B") .byte) (by decide +kernel))) (fun i hi => by rw [g1 i hi]; exact (hs (.eq (.length (.field (.string "BuoyVote$Borough" 70) "java/lang/String" "value" "[B")) (.int 3)) (by decide +kernel))) (fun i hi => by rw [g1 i hi]; exact fun j hj => match j, (show j < 3 from hj) with | 0, _ => hs (.eq (.elem (.field (.string "BuoyVote$Borough" 70) "java/lang/String" "value" "[B") (.int 0)) (.int 115)) (by decide +kernel) | 1, _ => hs (.eq (.elem (.field (.string "BuoyVote$Borough" 70) "java/lang/String" "value" "[B") (.int 1)) (.int 98)) (by decide +kernel) | 2, _ => hs (.eq (.elem (.field (.string "BuoyVote$Borough" 70) "java/lang/String" "value" "[B") (.int 2)) (.int 99)) (by decide +kernel) | j + 3, h => absurd h (by omega)) (fun i j hi hj h => absurd ((g1 i hi).trans (g1 j hj).symm) h) hA0
  obtain ⟨hO1, hC1, hV1, hB1⟩ := hS1.1 0 (by decide)
  have hR1 : vk_R RX0 70 "sbc" (aK1 0) s := vk_R.of (hts (.stringRef "BuoyVote$Borough" 70 "sbc") (List.mem_of_getElem? (i := 572) (by decide +kernel))) (ev1 0 (by decide))
  have g2 : ∀ i : Nat, i < 1 → i = 0 := fun i hi => by omega
  obtain ⟨aK2, aV2, hS2, ev2⟩ := vk_Sof (args := #[Value.ref b]) (s := s) (N := 1) (tm := fun _ => (.string "BuoyVoteModel" 26)) (len := [1]) (byt := [[121]]) (A := A) (fun i hi => by rw [g2 i hi]; decide) (fun i hi => (hs (.exactly (.string "BuoyVoteModel" 26) "java/lang/String") (by decide +kernel))) (fun i hi => (hs (.eq (.field (.string "BuoyVoteModel" 26) "java/lang/String" "coder" "B") (.int 0)) (by decide +kernel))) (fun i hi => (hs (.arrayOf (.field (.string "BuoyVoteModel" 26) "java/lang/String" "value" "[B") .byte) (by decide +kernel))) (fun i hi => by rw [g2 i hi]; exact (hs (.eq (.length (.field (.string "BuoyVoteModel" 26) "java/lang/String" "value" "[B")) (.int 1)) (by decide +kernel))) (fun i hi => by rw [g2 i hi]; exact fun j hj => match j, (show j < 1 from hj) with | 0, _ => hs (.eq (.elem (.field (.string "BuoyVoteModel" 26) "java/lang/String" "value" "[B") (.int 0)) (.int 121)) (by decide +kernel) | j + 1, h => absurd h (by omega)) (fun i j hi hj h => absurd ((g2 i hi).trans (g2 j hj).symm) h) hA0
  obtain ⟨hO2, hC2, hV2, hB2⟩ := hS2.1 0 (by decide)
  have hR2 : vk_R RX12 26 "y" (aK2 0) s := vk_R.of (hts (.stringRef "BuoyVoteModel" 26 "y") (List.mem_of_getElem? (i := 1475) (by decide +kernel))) (ev2 0 (by decide))
  have g3 : ∀ i : Nat, i < 1 → i = 0 := fun i hi => by omega
  obtain ⟨aK3, aV3, hS3, ev3⟩ := vk_Sof (args := #[Value.ref b]) (s := s) (N := 1) (tm := fun _ => (.string "BuoyVoteModel" 32)) (len := [6]) (byt := [[118, 108, 114, 100, 112, 104]]) (A := A) (fun i hi => by rw [g3 i hi]; decide) (fun i hi => (hs (.exactly (.string "BuoyVoteModel" 32) "java/lang/String") (by decide +kernel))) (fun i hi => (hs (.eq (.field (.string "BuoyVoteModel" 32) "java/lang/String" "coder" "B") (.int 0)) (by decide +kernel))) (fun i hi => (hs (.arrayOf (.field (.string "BuoyVoteModel" 32) "java/lang/String" "value" "[B") .byte) (by decide +kernel))) (fun i hi => by rw [g3 i hi]; exact (hs (.eq (.length (.field (.string "BuoyVoteModel" 32) "java/lang/String" "value" "[B")) (.int 6)) (by decide +kernel))) (fun i hi => by rw [g3 i hi]; exact fun j hj => match j, (show j < 6 from hj) with | 0, _ => hs (.eq (.elem (.field (.string "BuoyVoteModel" 32) "java/lang/String" "value" "[B") (.int 0)) (.int 118)) (by decide +kernel) | 1, _ => hs (.eq (.elem (.field (.string "BuoyVoteModel" 32) "java/lang/String" "value" "[B") (.int 1)) (.int 108)) (by decide +kernel) | 2, _ => hs (.eq (.elem (.field (.string "BuoyVoteModel" 32) "java/lang/String" "value" "[B") (.int 2)) (.int 114)) (by decide +kernel) | 3, _ => hs (.eq (.elem (.field (.string "BuoyVoteModel" 32) "java/lang/String" "value" "[B") (.int 3)) (.int 100)) (by decide +kernel) | 4, _ => hs (.eq (.elem (.field (.string "BuoyVoteModel" 32) "java/lang/String" "value" "[B") (.int 4)) (.int 112)) (by decide +kernel) | 5, _ => hs (.eq (.elem (.field (.string "BuoyVoteModel" 32) "java/lang/String" "value" "[B") (.int 5)) (.int 104)) (by decide +kernel) | j + 6, h => absurd h (by omega)) (fun i j hi hj h => absurd ((g3 i hi).trans (g3 j hj).symm) h) hA0
  obtain ⟨hO3, hC3, hV3, hB3⟩ := hS3.1 0 (by decide)
  have hR3 : vk_R RX12 32 "vlrdph" (aK3 0) s := vk_R.of (hts (.stringRef "BuoyVoteModel" 32 "vlrdph") (List.mem_of_getElem? (i := 1476) (by decide +kernel))) (ev3 0 (by decide))
  have g4 : ∀ i : Nat, i < 1 → i = 0 := fun i hi => by omega
  obtain ⟨aK4, aV4, hS4, ev4⟩ := vk_Sof (args := #[Value.ref b]) (s := s) (N := 1) (tm := fun _ => (.string "BuoyVoteModel" 282)) (len := [4]) (byt := [[103, 115, 99, 104]]) (A := A) (fun i hi => by rw [g4 i hi]; decide) (fun i hi => (hs (.exactly (.string "BuoyVoteModel" 282) "java/lang/String") (by decide +kernel))) (fun i hi => (hs (.eq (.field (.string "BuoyVoteModel" 282) "java/lang/String" "coder" "B") (.int 0)) (by decide +kernel))) (fun i hi => (hs (.arrayOf (.field (.string "BuoyVoteModel" 282) "java/lang/String" "value" "[B") .byte) (by decide +kernel))) (fun i hi => by rw [g4 i hi]; exact (hs (.eq (.length (.field (.string "BuoyVoteModel" 282) "java/lang/String" "value" "[B")) (.int 4)) (by decide +kernel))) (fun i hi => by rw [g4 i hi]; exact fun j hj => match j, (show j < 4 from hj) with | 0, _ => hs (.eq (.elem (.field (.string "BuoyVoteModel" 282) "java/lang/String" "value" "[B") (.int 0)) (.int 103)) (by decide +kernel) | 1, _ => hs (.eq (.elem (.field (.string "BuoyVoteModel" 282) "java/lang/String" "value" "[B") (.int 1)) (.int 115)) (by decide +kernel) | 2, _ => hs (.eq (.elem (.field (.string "BuoyVoteModel" 282) "java/lang/String" "value" "[B") (.int 2)) (.int 99)) (by decide +kernel) | 3, _ => hs (.eq (.elem (.field (.string "BuoyVoteModel" 282) "java/lang/String" "value" "[B") (.int 3)) (.int 104)) (by decide +kernel) | j + 4, h => absurd h (by omega)) (fun i j hi hj h => absurd ((g4 i hi).trans (g4 j hj).symm) h) hA0
  obtain ⟨hO4, hC4, hV4, hB4⟩ := hS4.1 0 (by decide)
  have hR4 : vk_R RX12 282 "gsch" (aK4 0) s := vk_R.of (hts (.stringRef "BuoyVoteModel" 282 "gsch") (List.mem_of_getElem? (i := 1815) (by decide +kernel))) (ev4 0 (by decide))
  exact ⟨ta0, ta1, aK0 0, aV0 0, aK1 0, aV1 0, aK2 0, aV2 0, aK3 0, aV3 0, aK4 0, aV4 0, va_AO.of (hts (.arrayOver (.object "BuoyVote$Law")) (List.mem_of_getElem? (i := 201) (by decide +kernel))), va_AO.of (hts (.arrayOver (.object "BuoyVote$Plan")) (List.mem_of_getElem? (i := 233) (by decide +kernel))), va_AO.of (hts (.arrayOver (.object "BuoyVote$Sea")) (List.mem_of_getElem? (i := 351) (by decide +kernel))), hZta0, hTta0, hZta1, hTta1, hCS, hSF, hR0, hO0, hC0, hV0, hB0, hR1, hO1, hC1, hV1, hB1, hR2, hO2, hC2, hV2, hB2, hR3, hO3, hC3, hV3, hB3, hR4, hO4, hC4, hV4, hB4⟩
set_option maxHeartbeats 4000000 in
set_option maxRecDepth 100000 in
theorem lk_short {p : Program} {l : Launch} {e : Env} {s : State} {m : MethodId} {below : List Frame} {meth : Method} {c : Code} {dC : Nat → ClassId} {dI : Nat → Nat → Nat} {b : Nat} {xs : Nat → Int32} {A : Nat → Prop} {L : Nat} (hL : L ≤ 5) (C0 : lw_At p s m meth c b L xs) (hA : ∀ q : Nat, s.heap.size ≤ q → A q) (hA2 : ∀ q : Nat, A q → s.heap.size ≤ q) (hbA : ¬ A b) {ts2 ts3 : Nat} {q_1 q_3 q_5 q_6 q_8 q_12 q_14 q_16 q_19 q_17 q_18 q_20 q_21 q_22 q_23 q_4 q_24 q_7 q_9 q_25 q_10 q_26 q_27 q_28 q_29 q_11 q_30 q_13 q_31 q_32 q_33 q_34 q_35 q_36 q_37 q_15 q_38 q_39 q_40 q_41 q_42 q_43 q_44 q_45 q_46 q_47 q_48 q_49 q_50 q_51 q_52 q_53 q_54 q_55 q_56 q_57 q_58 q_59 q_66 q_68 q_71 q_72 q_73 q_74 q_69 q_75 q_76 q_77 q_78 q_79 q_80 q_70 q_81 q_82 q_83 q_84 q_85 q_86 q_87 q_88 q_89 q_90 q_91 q_92 q_93 q_94 q_98 : Nat} {k_60 k_61 k_62 k_63 k_64 k_65 k_95 k_96 k_97 k_99 : ClassId} {H : Heap} {locs : List Loc} (hK : va_K (dC, dI) vwCl [(k_60, .int), (k_61, .int), (k_62, .object RX4), (k_63, .int), (k_64, .object RX6), (k_65, .int), (k_95, .byte), (k_96, .int), (k_97, .int), (k_99, .long)] s) (hP : va_P (dC, dI) vwCl [(q_1, .inr (11, [.ref q_3, .ref q_5, .ref q_6, .ref q_8, .ref q_12, .int 0, .ref q_14, .ref q_16, .ref q_19, .ref q_17, .ref q_18, .ref q_20, .ref q_21, .ref q_22, .ref q_23, .long 0])), (q_3, .inr (9, [.ref q_4, .int 0, .int 0, .int (-1)])), (q_4, .inl (k_60, 240, .inl (fun _ => 0))), (q_5, .inr (0, [.ref q_24, .int 0, .int 0, .int 0])), (q_6, .inr (0, [.ref q_7, .int 0, .int 0, .int 0])), (q_7, .inl (k_61, 80, .inl (fun _ => 0))), (q_8, .inr (5, [.ref q_9, .int 0, .int (-1), .ref q_25])), (q_9, .inl (k_62, 5, .inr (.inr (.inr (.inr (va_up (va_up (va_up (va_up (va_up (fun _ => none) (0 : Int32).toNatClampNeg (some q_10)) (1 : Int32).toNatClampNeg (some q_26)) (2 : Int32).toNatClampNeg (some q_27)) (3 : Int32).toNatClampNeg (some q_28)) (4 : Int32).toNatClampNeg (some q_29))))))), (q_10, .inr (4, [.ref q_11, .int 0, .ref q_30])), (q_11, .inl (k_63, 240, .inl (fun _ => 0))), (q_12, .inl (k_64, 5, .inr (.inr (.inr (.inr (va_up (va_up (va_up (va_up (va_up (fun _ => none) (0 : Int32).toNatClampNeg (some q_13)) (1 : Int32).toNatClampNeg (some q_31)) (2 : Int32).toNatClampNeg (some q_32)) (3 : Int32).toNatClampNeg (some q_33)) (4 : Int32).toNatClampNeg (some q_34))))))), (q_13, .inr (6, [.ref q_35, .int 0])), (q_14, .inr (10, [.ref q_5, .ref q_8, .ref q_36, .ref q_37, .ref q_15, .ref q_38])), (q_15, .inl (k_65, 3, .inl (fun _ => 0))), (q_16, .inr (7, [.int 0, .int 0, .int 0, .int 0, .ref q_39, .ref q_40, .ref q_41, .ref q_42, .ref q_43, .ref q_44, .ref q_45, .ref q_46, .ref q_47])), (q_17, .inr (3, [.ref q_48, .int 0, .int 0, .ref q_49, .ref q_50, .ref q_51, .int 0])), (q_18, .inr (8, [.ref q_5, .ref q_8, .ref q_52, .ref q_53, .ref q_54, .ref q_55, .int 0, .ref q_56, .int 0, .ref q_57, .ref q_58, .ref q_59])), (q_66, .inr (12, [.int 0, .ref q_68, .ref q_71, .ref q_72, .ref q_73, .ref q_68, .int 0, .int 0, .int 0, .int 0, .int 0, .int 0, .int 0, .int 0, .int 0, .ref ts2, .ref ts3, .int 0, .ref q_74, .ref q_69, .ref q_75, .ref q_76, .ref q_77, .ref q_78, .ref q_79, .ref q_80, .int 0, .int 0, .int 0, .int 0, .int 0, .int 0, .ref q_70, .ref q_81, .int (-1), .ref q_82, .ref q_83, .ref q_84, .ref q_85, .ref q_86, .ref q_87, .int 0, .long 0, .int 0, .int 0, .ref q_88, .ref q_89, .ref q_90, .ref q_91, .ref q_92, .ref q_93, .int 0, .ref q_94, .int 0])), (q_68, .inl (k_95, 240, .inl (fun _ => 0))), (q_69, .inl (k_96, 4, .inl (fun _ => 0))), (q_70, .inl (k_97, 242, .inl (fun _ => 0))), (q_98, .inl (k_99, 1, .inr (.inl (fun _ => 0))))] H) (hD : va_D A [(q_1, .inr (11, [.ref q_3, .ref q_5, .ref q_6, .ref q_8, .ref q_12, .int 0, .ref q_14, .ref q_16, .ref q_19, .ref q_17, .ref q_18, .ref q_20, .ref q_21, .ref q_22, .ref q_23, .long 0])), (q_3, .inr (9, [.ref q_4, .int 0, .int 0, .int (-1)])), (q_4, .inl (k_60, 240, .inl (fun _ => 0))), (q_5, .inr (0, [.ref q_24, .int 0, .int 0, .int 0])), (q_6, .inr (0, [.ref q_7, .int 0, .int 0, .int 0])), (q_7, .inl (k_61, 80, .inl (fun _ => 0))), (q_8, .inr (5, [.ref q_9, .int 0, .int (-1), .ref q_25])), (q_9, .inl (k_62, 5, .inr (.inr (.inr (.inr (va_up (va_up (va_up (va_up (va_up (fun _ => none) (0 : Int32).toNatClampNeg (some q_10)) (1 : Int32).toNatClampNeg (some q_26)) (2 : Int32).toNatClampNeg (some q_27)) (3 : Int32).toNatClampNeg (some q_28)) (4 : Int32).toNatClampNeg (some q_29))))))), (q_10, .inr (4, [.ref q_11, .int 0, .ref q_30])), (q_11, .inl (k_63, 240, .inl (fun _ => 0))), (q_12, .inl (k_64, 5, .inr (.inr (.inr (.inr (va_up (va_up (va_up (va_up (va_up (fun _ => none) (0 : Int32).toNatClampNeg (some q_13)) (1 : Int32).toNatClampNeg (some q_31)) (2 : Int32).toNatClampNeg (some q_32)) (3 : Int32).toNatClampNeg (some q_33)) (4 : Int32).toNatClampNeg (some q_34))))))), (q_13, .inr (6, [.ref q_35, .int 0])), (q_14, .inr (10, [.ref q_5, .ref q_8, .ref q_36, .ref q_37, .ref q_15, .ref q_38])), (q_15, .inl (k_65, 3, .inl (fun _ => 0))), (q_16, .inr (7, [.int 0, .int 0, .int 0, .int 0, .ref q_39, .ref q_40, .ref q_41, .ref q_42, .ref q_43, .ref q_44, .ref q_45, .ref q_46, .ref q_47])), (q_17, .inr (3, [.ref q_48, .int 0, .int 0, .ref q_49, .ref q_50, .ref q_51, .int 0])), (q_18, .inr (8, [.ref q_5, .ref q_8, .ref q_52, .ref q_53, .ref q_54, .ref q_55, .int 0, .ref q_56, .int 0, .ref q_57, .ref q_58, .ref q_59])), (q_66, .inr (12, [.int 0, .ref q_68, .ref q_71, .ref q_72, .ref q_73, .ref q_68, .int 0, .int 0, .int 0, .int 0, .int 0, .int 0, .int 0, .int 0, .int 0, .ref ts2, .ref ts3, .int 0, .ref q_74, .ref q_69, .ref q_75, .ref q_76, .ref q_77, .ref q_78, .ref q_79, .ref q_80, .int 0, .int 0, .int 0, .int 0, .int 0, .int 0, .ref q_70, .ref q_81, .int (-1), .ref q_82, .ref q_83, .ref q_84, .ref q_85, .ref q_86, .ref q_87, .int 0, .long 0, .int 0, .int 0, .ref q_88, .ref q_89, .ref q_90, .ref q_91, .ref q_92, .ref q_93, .int 0, .ref q_94, .int 0])), (q_68, .inl (k_95, 240, .inl (fun _ => 0))), (q_69, .inl (k_96, 4, .inl (fun _ => 0))), (q_70, .inl (k_97, 242, .inl (fun _ => 0))), (q_98, .inl (k_99, 1, .inr (.inl (fun _ => 0))))]) (hS : va_S A s.heap H locs) {ls : Array Slot} (hl : lv_has ls 7 [(4, .int 0), (3, .ref q_98), (2, .ref q_66), (1, .ref q_1), (0, .ref b)]) : W p l e room_1 s m #[Value.ref b] below meth c H locs 524 37706 (lw_Z below #[Value.ref b] s) (F0 m 23 ls []) := by
  obtain ⟨hx, hb, hr, hml, hown, hts, hX, hbl, hlocks, hgv⟩ := id C0
  have hts : ∀ w ∈ wf_law, w.before #[Value.ref b] s = true := fun w h => hts w (wf_law_in w h)
  have hown : s.vm.findClass RL = some m.cls := hown
  rcases (show L = 0 ∨ L = 1 ∨ L = 2 ∨ L = 3 ∨ L = 4 ∨ L = 5 by omega) with rfl | rfl | rfl | rfl | rfl | rfl
  · refine lv_iload hx hb dL_law_23 (lv_at hl 0 rfl) ?_
    refine lv_aload_n hx hb dL_law_25 rfl (lv_at hl 4 rfl) ?_
    refine va_slen hx hb hX hbl hbA hS dL_law_26 ?_
    refine lv_topi (fun x_1 ex_1 => ?_)
    obtain rfl : x_1 = 0 := ex_1.trans (by decide)
    refine lv_bipush (v := 6) hx hb dL_law_27 (by decide) ?_
    refine lv_isub hx hb dL_law_29 ?_
    refine lv_topi (fun x_2 ex_2 => ?_)
    obtain rfl : x_2 = (-6) := ex_2.trans (by decide)
    refine lv_icmp_gt (tgt := 1932) hx hb dL_law_30 (by decide) (fun c_3 => ?_) (fun c_3 => absurd c_3 (by decide))
    refine lv_iconst (v := 1) hx hb dL_law_1932 (by decide) ?_
    refine va_forget (fun q hq => hA2 _ (hS.2.2 q hq)) ?_
    refine W.widen (k := 600002) (n := 7302231) (Nat.le_of_ble_eq_true rfl) (Nat.le_of_ble_eq_true rfl) ?_
    exact lw_ret hx hb hr hlocks dL_law_1933
  · refine lv_iload hx hb dL_law_23 (lv_at hl 0 rfl) ?_
    refine lv_aload_n hx hb dL_law_25 rfl (lv_at hl 4 rfl) ?_
    refine va_slen hx hb hX hbl hbA hS dL_law_26 ?_
    refine lv_topi (fun x_1 ex_1 => ?_)
    obtain rfl : x_1 = 1 := ex_1.trans (by decide)
    refine lv_bipush (v := 6) hx hb dL_law_27 (by decide) ?_
    refine lv_isub hx hb dL_law_29 ?_
    refine lv_topi (fun x_2 ex_2 => ?_)
    obtain rfl : x_2 = (-5) := ex_2.trans (by decide)
    refine lv_icmp_gt (tgt := 1932) hx hb dL_law_30 (by decide) (fun c_3 => ?_) (fun c_3 => absurd c_3 (by decide))
    refine lv_iconst (v := 1) hx hb dL_law_1932 (by decide) ?_
    refine va_forget (fun q hq => hA2 _ (hS.2.2 q hq)) ?_
    refine W.widen (k := 600002) (n := 7302231) (Nat.le_of_ble_eq_true rfl) (Nat.le_of_ble_eq_true rfl) ?_
    exact lw_ret hx hb hr hlocks dL_law_1933
  · refine lv_iload hx hb dL_law_23 (lv_at hl 0 rfl) ?_
    refine lv_aload_n hx hb dL_law_25 rfl (lv_at hl 4 rfl) ?_
    refine va_slen hx hb hX hbl hbA hS dL_law_26 ?_
    refine lv_topi (fun x_1 ex_1 => ?_)
    obtain rfl : x_1 = 2 := ex_1.trans (by decide)
    refine lv_bipush (v := 6) hx hb dL_law_27 (by decide) ?_
    refine lv_isub hx hb dL_law_29 ?_
    refine lv_topi (fun x_2 ex_2 => ?_)
    obtain rfl : x_2 = (-4) := ex_2.trans (by decide)
    refine lv_icmp_gt (tgt := 1932) hx hb dL_law_30 (by decide) (fun c_3 => ?_) (fun c_3 => absurd c_3 (by decide))
    refine lv_iconst (v := 1) hx hb dL_law_1932 (by decide) ?_
    refine va_forget (fun q hq => hA2 _ (hS.2.2 q hq)) ?_
    refine W.widen (k := 600002) (n := 7302231) (Nat.le_of_ble_eq_true rfl) (Nat.le_of_ble_eq_true rfl) ?_
    exact lw_ret hx hb hr hlocks dL_law_1933
  · refine lv_iload hx hb dL_law_23 (lv_at hl 0 rfl) ?_
    refine lv_aload_n hx hb dL_law_25 rfl (lv_at hl 4 rfl) ?_
    refine va_slen hx hb hX hbl hbA hS dL_law_26 ?_
    refine lv_topi (fun x_1 ex_1 => ?_)
    obtain rfl : x_1 = 3 := ex_1.trans (by decide)
    refine lv_bipush (v := 6) hx hb dL_law_27 (by decide) ?_
    refine lv_isub hx hb dL_law_29 ?_
    refine lv_topi (fun x_2 ex_2 => ?_)
    obtain rfl : x_2 = (-3) := ex_2.trans (by decide)
    refine lv_icmp_gt (tgt := 1932) hx hb dL_law_30 (by decide) (fun c_3 => ?_) (fun c_3 => absurd c_3 (by decide))
    refine lv_iconst (v := 1) hx hb dL_law_1932 (by decide) ?_
    refine va_forget (fun q hq => hA2 _ (hS.2.2 q hq)) ?_
    refine W.widen (k := 600002) (n := 7302231) (Nat.le_of_ble_eq_true rfl) (Nat.le_of_ble_eq_true rfl) ?_
    exact lw_ret hx hb hr hlocks dL_law_1933
  · refine lv_iload hx hb dL_law_23 (lv_at hl 0 rfl) ?_
    refine lv_aload_n hx hb dL_law_25 rfl (lv_at hl 4 rfl) ?_
    refine va_slen hx hb hX hbl hbA hS dL_law_26 ?_
    refine lv_topi (fun x_1 ex_1 => ?_)
    obtain rfl : x_1 = 4 := ex_1.trans (by decide)
    refine lv_bipush (v := 6) hx hb dL_law_27 (by decide) ?_
    refine lv_isub hx hb dL_law_29 ?_
    refine lv_topi (fun x_2 ex_2 => ?_)
    obtain rfl : x_2 = (-2) := ex_2.trans (by decide)
    refine lv_icmp_gt (tgt := 1932) hx hb dL_law_30 (by decide) (fun c_3 => ?_) (fun c_3 => absurd c_3 (by decide))
    refine lv_iconst (v := 1) hx hb dL_law_1932 (by decide) ?_
    refine va_forget (fun q hq => hA2 _ (hS.2.2 q hq)) ?_
    refine W.widen (k := 600002) (n := 7302231) (Nat.le_of_ble_eq_true rfl) (Nat.le_of_ble_eq_true rfl) ?_
    exact lw_ret hx hb hr hlocks dL_law_1933
  · refine lv_iload hx hb dL_law_23 (lv_at hl 0 rfl) ?_
    refine lv_aload_n hx hb dL_law_25 rfl (lv_at hl 4 rfl) ?_
    refine va_slen hx hb hX hbl hbA hS dL_law_26 ?_
    refine lv_topi (fun x_1 ex_1 => ?_)
    obtain rfl : x_1 = 5 := ex_1.trans (by decide)
    refine lv_bipush (v := 6) hx hb dL_law_27 (by decide) ?_
    refine lv_isub hx hb dL_law_29 ?_
    refine lv_topi (fun x_2 ex_2 => ?_)
    obtain rfl : x_2 = (-1) := ex_2.trans (by decide)
    refine lv_icmp_gt (tgt := 1932) hx hb dL_law_30 (by decide) (fun c_3 => ?_) (fun c_3 => absurd c_3 (by decide))
    refine lv_iconst (v := 1) hx hb dL_law_1932 (by decide) ?_
    refine va_forget (fun q hq => hA2 _ (hS.2.2 q hq)) ?_
    refine W.widen (k := 600002) (n := 7302231) (Nat.le_of_ble_eq_true rfl) (Nat.le_of_ble_eq_true rfl) ?_
    exact lw_ret hx hb hr hlocks dL_law_1933
set_option maxHeartbeats 8000000 in
set_option maxRecDepth 100000 in
theorem lk_six {p : Program} {l : Launch} {e : Env} {s : State} {m : MethodId} {below : List Frame} {meth : Method} {c : Code} {dC : Nat → ClassId} {dI : Nat → Nat → Nat} {b : Nat} {xs : Nat → Int32} {A : Nat → Prop} (C0 : lw_At p s m meth c b 6 xs) (hA : ∀ q : Nat, s.heap.size ≤ q → A q) (hA2 : ∀ q : Nat, A q → s.heap.size ≤ q) (hbA : ¬ A b) {ta0 ta1 ts0 tv0 ts1 tv1 ts2 tv2 ts3 tv3 ts4 tv4 : Nat} (hE : bv_env ta0 ta1 ts0 tv0 ts1 tv1 ts2 tv2 ts3 tv3 ts4 tv4 A s s.heap) (htr : l.stackTraces = false) (hE0 : vx_Zq Bundle.tN "UNASSIGNED_STACK" Bundle.steD A s s.heap) (hE1 : vx_Zq Bundle.tN "SUPPRESSED_SENTINEL" Bundle.listD A s s.heap) (hE2 : va_Nw (.castable "java/util/NoSuchElementException" "java/util/NoSuchElementException") s) (hE3 : va_Nw (.declares ⟨"java/lang/RuntimeException", "<init>", "()V"⟩) s) (hE4 : va_Nw (.declares ⟨"java/lang/Exception", "<init>", "()V"⟩) s) (hE5 : va_Nw (.declares ⟨"java/lang/Throwable", "<init>", "()V"⟩) s) {q_1 q_3 q_5 q_6 q_8 q_12 q_14 q_16 q_19 q_17 q_18 q_20 q_21 q_22 q_23 q_4 q_24 q_7 q_9 q_25 q_10 q_26 q_27 q_28 q_29 q_11 q_30 q_13 q_31 q_32 q_33 q_34 q_35 q_36 q_37 q_15 q_38 q_39 q_40 q_41 q_42 q_43 q_44 q_45 q_46 q_47 q_48 q_49 q_50 q_51 q_52 q_53 q_54 q_55 q_56 q_57 q_58 q_59 q_66 q_68 q_71 q_72 q_73 q_74 q_69 q_75 q_76 q_77 q_78 q_79 q_80 q_70 q_81 q_82 q_83 q_84 q_85 q_86 q_87 q_88 q_89 q_90 q_91 q_92 q_93 q_94 q_98 : Nat} {k_60 k_61 k_62 k_63 k_64 k_65 k_95 k_96 k_97 k_99 : ClassId} {H : Heap} {locs : List Loc} (hK : va_K (dC, dI) vwCl [(k_60, .int), (k_61, .int), (k_62, .object RX4), (k_63, .int), (k_64, .object RX6), (k_65, .int), (k_95, .byte), (k_96, .int), (k_97, .int), (k_99, .long)] s) (hP : va_P (dC, dI) vwCl [(q_1, .inr (11, [.ref q_3, .ref q_5, .ref q_6, .ref q_8, .ref q_12, .int 0, .ref q_14, .ref q_16, .ref q_19, .ref q_17, .ref q_18, .ref q_20, .ref q_21, .ref q_22, .ref q_23, .long 0])), (q_3, .inr (9, [.ref q_4, .int 0, .int 0, .int (-1)])), (q_4, .inl (k_60, 240, .inl (fun _ => 0))), (q_5, .inr (0, [.ref q_24, .int 0, .int 0, .int 0])), (q_6, .inr (0, [.ref q_7, .int 0, .int 0, .int 0])), (q_7, .inl (k_61, 80, .inl (fun _ => 0))), (q_8, .inr (5, [.ref q_9, .int 0, .int (-1), .ref q_25])), (q_9, .inl (k_62, 5, .inr (.inr (.inr (.inr (va_up (va_up (va_up (va_up (va_up (fun _ => none) (0 : Int32).toNatClampNeg (some q_10)) (1 : Int32).toNatClampNeg (some q_26)) (2 : Int32).toNatClampNeg (some q_27)) (3 : Int32).toNatClampNeg (some q_28)) (4 : Int32).toNatClampNeg (some q_29))))))), (q_10, .inr (4, [.ref q_11, .int 0, .ref q_30])), (q_11, .inl (k_63, 240, .inl (fun _ => 0))), (q_12, .inl (k_64, 5, .inr (.inr (.inr (.inr (va_up (va_up (va_up (va_up (va_up (fun _ => none) (0 : Int32).toNatClampNeg (some q_13)) (1 : Int32).toNatClampNeg (some q_31)) (2 : Int32).toNatClampNeg (some q_32)) (3 : Int32).toNatClampNeg (some q_33)) (4 : Int32).toNatClampNeg (some q_34))))))), (q_13, .inr (6, [.ref q_35, .int 0])), (q_14, .inr (10, [.ref q_5, .ref q_8, .ref q_36, .ref q_37, .ref q_15, .ref q_38])), (q_15, .inl (k_65, 3, .inl (fun _ => 0))), (q_16, .inr (7, [.int 0, .int 0, .int 0, .int 0, .ref q_39, .ref q_40, .ref q_41, .ref q_42, .ref q_43, .ref q_44, .ref q_45, .ref q_46, .ref q_47])), (q_17, .inr (3, [.ref q_48, .int 0, .int 0, .ref q_49, .ref q_50, .ref q_51, .int 0])), (q_18, .inr (8, [.ref q_5, .ref q_8, .ref q_52, .ref q_53, .ref q_54, .ref q_55, .int 0, .ref q_56, .int 0, .ref q_57, .ref q_58, .ref q_59])), (q_66, .inr (12, [.int 0, .ref q_68, .ref q_71, .ref q_72, .ref q_73, .ref q_68, .int 0, .int 0, .int 0, .int 0, .int 0, .int 0, .int 0, .int 0, .int 0, .ref ts2, .ref ts3, .int 0, .ref q_74, .ref q_69, .ref q_75, .ref q_76, .ref q_77, .ref q_78, .ref q_79, .ref q_80, .int 0, .int 0, .int 0, .int 0, .int 0, .int 0, .ref q_70, .ref q_81, .int (-1), .ref q_82, .ref q_83, .ref q_84, .ref q_85, .ref q_86, .ref q_87, .int 0, .long 0, .int 0, .int 0, .ref q_88, .ref q_89, .ref q_90, .ref q_91, .ref q_92, .ref q_93, .int 0, .ref q_94, .int 0])), (q_68, .inl (k_95, 240, .inl (fun _ => 0))), (q_69, .inl (k_96, 4, .inl (fun _ => 0))), (q_70, .inl (k_97, 242, .inl (fun _ => 0))), (q_98, .inl (k_99, 1, .inr (.inl (fun _ => 0))))] H) (hD : va_D A [(q_1, .inr (11, [.ref q_3, .ref q_5, .ref q_6, .ref q_8, .ref q_12, .int 0, .ref q_14, .ref q_16, .ref q_19, .ref q_17, .ref q_18, .ref q_20, .ref q_21, .ref q_22, .ref q_23, .long 0])), (q_3, .inr (9, [.ref q_4, .int 0, .int 0, .int (-1)])), (q_4, .inl (k_60, 240, .inl (fun _ => 0))), (q_5, .inr (0, [.ref q_24, .int 0, .int 0, .int 0])), (q_6, .inr (0, [.ref q_7, .int 0, .int 0, .int 0])), (q_7, .inl (k_61, 80, .inl (fun _ => 0))), (q_8, .inr (5, [.ref q_9, .int 0, .int (-1), .ref q_25])), (q_9, .inl (k_62, 5, .inr (.inr (.inr (.inr (va_up (va_up (va_up (va_up (va_up (fun _ => none) (0 : Int32).toNatClampNeg (some q_10)) (1 : Int32).toNatClampNeg (some q_26)) (2 : Int32).toNatClampNeg (some q_27)) (3 : Int32).toNatClampNeg (some q_28)) (4 : Int32).toNatClampNeg (some q_29))))))), (q_10, .inr (4, [.ref q_11, .int 0, .ref q_30])), (q_11, .inl (k_63, 240, .inl (fun _ => 0))), (q_12, .inl (k_64, 5, .inr (.inr (.inr (.inr (va_up (va_up (va_up (va_up (va_up (fun _ => none) (0 : Int32).toNatClampNeg (some q_13)) (1 : Int32).toNatClampNeg (some q_31)) (2 : Int32).toNatClampNeg (some q_32)) (3 : Int32).toNatClampNeg (some q_33)) (4 : Int32).toNatClampNeg (some q_34))))))), (q_13, .inr (6, [.ref q_35, .int 0])), (q_14, .inr (10, [.ref q_5, .ref q_8, .ref q_36, .ref q_37, .ref q_15, .ref q_38])), (q_15, .inl (k_65, 3, .inl (fun _ => 0))), (q_16, .inr (7, [.int 0, .int 0, .int 0, .int 0, .ref q_39, .ref q_40, .ref q_41, .ref q_42, .ref q_43, .ref q_44, .ref q_45, .ref q_46, .ref q_47])), (q_17, .inr (3, [.ref q_48, .int 0, .int 0, .ref q_49, .ref q_50, .ref q_51, .int 0])), (q_18, .inr (8, [.ref q_5, .ref q_8, .ref q_52, .ref q_53, .ref q_54, .ref q_55, .int 0, .ref q_56, .int 0, .ref q_57, .ref q_58, .ref q_59])), (q_66, .inr (12, [.int 0, .ref q_68, .ref q_71, .ref q_72, .ref q_73, .ref q_68, .int 0, .int 0, .int 0, .int 0, .int 0, .int 0, .int 0, .int 0, .int 0, .ref ts2, .ref ts3, .int 0, .ref q_74, .ref q_69, .ref q_75, .ref q_76, .ref q_77, .ref q_78, .ref q_79, .ref q_80, .int 0, .int 0, .int 0, .int 0, .int 0, .int 0, .ref q_70, .ref q_81, .int (-1), .ref q_82, .ref q_83, .ref q_84, .ref q_85, .ref q_86, .ref q_87, .int 0, .long 0, .int 0, .int 0, .ref q_88, .ref q_89, .ref q_90, .ref q_91, .ref q_92, .ref q_93, .int 0, .ref q_94, .int 0])), (q_68, .inl (k_95, 240, .inl (fun _ => 0))), (q_69, .inl (k_96, 4, .inl (fun _ => 0))), (q_70, .inl (k_97, 242, .inl (fun _ => 0))), (q_98, .inl (k_99, 1, .inr (.inl (fun _ => 0))))]) (hS : va_S A s.heap H locs) {ls : Array Slot} (hl : lv_has ls 7 [(4, .int 0), (3, .ref q_98), (2, .ref q_66), (1, .ref q_1), (0, .ref b)]) : W p l e room_1 s m #[Value.ref b] below meth c H locs 524 37706 (lw_Z below #[Value.ref b] s) (F0 m 23 ls []) := by
  obtain ⟨hx, hb, hr, hml, hown, hts, hX, hbl, hlocks, hgv⟩ := id C0
  have hts : ∀ w ∈ wf_law, w.before #[Value.ref b] s = true := fun w h => hts w (wf_law_in w h)
  have hown : s.vm.findClass RL = some m.cls := hown
  refine lv_iload hx hb dL_law_23 (lv_at hl 0 rfl) ?_
  refine lv_aload_n hx hb dL_law_25 rfl (lv_at hl 4 rfl) ?_
  refine va_slen hx hb hX hbl hbA hS dL_law_26 ?_
  refine lv_topi (fun x_1 ex_1 => ?_)
  obtain rfl : x_1 = 6 := ex_1.trans (by decide)
  refine lv_bipush (v := 6) hx hb dL_law_27 (by decide) ?_
  refine lv_isub hx hb dL_law_29 ?_
  refine lv_topi (fun x_2 ex_2 => ?_)
  obtain rfl : x_2 = 0 := ex_2.trans (by decide)
  refine lv_icmp_gt (tgt := 1932) hx hb dL_law_30 (by decide) (fun c_3 => absurd c_3 (by decide)) (fun c_3 => ?_)
  refine lv_aload_n hx hb dL_law_33 rfl (lv_at hl 4 rfl) ?_
  refine lv_iload hx hb dL_law_34 (lv_at hl 0 rfl) ?_
  refine va_sld hx hb hX hbl hbA hS (by unfold vp_in; decide) dL_law_36 ?_
  refine lv_topi (fun x_4 ex_4 => ?_)
  refine lv_bipush (v := 63) hx hb dL_law_37 (by decide) ?_
  refine lv_iand hx hb dL_law_39 ?_
  refine lv_topi (fun x_5 ex_5 => ?_)
  by_cases c_6 : x_5 = (0 : Int32)
  · have hsw : x_5.toInt = 0 := by rw [c_6]; rfl
    refine lv_tableIn (off := 204) (tgt := 244) hx hb dL_law_40 (by rw [hsw]; decide) (by rw [hsw]; decide) (by rw [hsw]; decide) (by decide) ?_
    exact lk_0 C0 hA hA2 hbA hK hP hD hS hl
  by_cases c_7 : x_5 = (1 : Int32)
  · have hsw : x_5.toInt = 1 := by rw [c_7]; rfl
    refine lv_tableIn (off := 277) (tgt := 317) hx hb dL_law_40 (by rw [hsw]; decide) (by rw [hsw]; decide) (by rw [hsw]; decide) (by decide) ?_
    exact lk_1 C0 hA hA2 hbA hK hP hD hS hl
  by_cases c_8 : x_5 = (2 : Int32)
  · have hsw : x_5.toInt = 2 := by rw [c_8]; rfl
    refine lv_tableIn (off := 302) (tgt := 342) hx hb dL_law_40 (by rw [hsw]; decide) (by rw [hsw]; decide) (by rw [hsw]; decide) (by decide) ?_
    exact lk_2 C0 hA hA2 hbA hE hK hP hD hS hl
  by_cases c_9 : x_5 = (3 : Int32)
  · have hsw : x_5.toInt = 3 := by rw [c_9]; rfl
    refine lv_tableIn (off := 327) (tgt := 367) hx hb dL_law_40 (by rw [hsw]; decide) (by rw [hsw]; decide) (by rw [hsw]; decide) (by decide) ?_
    exact lk_3 C0 hA hA2 hbA hE hK hP hD hS hl
  by_cases c_10 : x_5 = (4 : Int32)
  · have hsw : x_5.toInt = 4 := by rw [c_10]; rfl
    refine lv_tableIn (off := 352) (tgt := 392) hx hb dL_law_40 (by rw [hsw]; decide) (by rw [hsw]; decide) (by rw [hsw]; decide) (by decide) ?_
    exact lk_4 C0 hA hA2 hbA hK hP hD hS hl
  by_cases c_11 : x_5 = (5 : Int32)
  · have hsw : x_5.toInt = 5 := by rw [c_11]; rfl
    refine lv_tableIn (off := 377) (tgt := 417) hx hb dL_law_40 (by rw [hsw]; decide) (by rw [hsw]; decide) (by rw [hsw]; decide) (by decide) ?_
    exact lk_5 C0 hA hA2 hbA htr hE0 hE1 hE2 hE3 hE4 hE5 hK hP hD hS hl
  by_cases c_12 : x_5 = (6 : Int32)
  · have hsw : x_5.toInt = 6 := by rw [c_12]; rfl
    refine lv_tableIn (off := 445) (tgt := 485) hx hb dL_law_40 (by rw [hsw]; decide) (by rw [hsw]; decide) (by rw [hsw]; decide) (by decide) ?_
    exact lk_6 C0 hA hA2 hbA hK hP hD hS hl
  by_cases c_13 : x_5 = (7 : Int32)
  · have hsw : x_5.toInt = 7 := by rw [c_13]; rfl
    refine lv_tableIn (off := 482) (tgt := 522) hx hb dL_law_40 (by rw [hsw]; decide) (by rw [hsw]; decide) (by rw [hsw]; decide) (by decide) ?_
    exact lk_7 C0 hA hA2 hbA hK hP hD hS hl
  by_cases c_14 : x_5 = (8 : Int32)
  · have hsw : x_5.toInt = 8 := by rw [c_14]; rfl
    refine lv_tableIn (off := 507) (tgt := 547) hx hb dL_law_40 (by rw [hsw]; decide) (by rw [hsw]; decide) (by rw [hsw]; decide) (by decide) ?_
    exact lk_8 C0 hA hA2 hbA hK hP hD hS hl
  by_cases c_15 : x_5 = (9 : Int32)
  · have hsw : x_5.toInt = 9 := by rw [c_15]; rfl
    refine lv_tableIn (off := 544) (tgt := 584) hx hb dL_law_40 (by rw [hsw]; decide) (by rw [hsw]; decide) (by rw [hsw]; decide) (by decide) ?_
    exact lk_9 C0 hA hA2 hbA hK hP hD hS hl
  by_cases c_16 : x_5 = (10 : Int32)
  · have hsw : x_5.toInt = 10 := by rw [c_16]; rfl
    refine lv_tableIn (off := 581) (tgt := 621) hx hb dL_law_40 (by rw [hsw]; decide) (by rw [hsw]; decide) (by rw [hsw]; decide) (by decide) ?_
    exact lk_10 C0 hA hA2 hbA hK hP hD hS hl
  by_cases c_17 : x_5 = (11 : Int32)
  · have hsw : x_5.toInt = 11 := by rw [c_17]; rfl
    refine lv_tableIn (off := 630) (tgt := 670) hx hb dL_law_40 (by rw [hsw]; decide) (by rw [hsw]; decide) (by rw [hsw]; decide) (by decide) ?_
    exact lk_11 C0 hA hA2 hbA hK hP hD hS hl
  by_cases c_18 : x_5 = (12 : Int32)
  · have hsw : x_5.toInt = 12 := by rw [c_18]; rfl
    refine lv_tableIn (off := 667) (tgt := 707) hx hb dL_law_40 (by rw [hsw]; decide) (by rw [hsw]; decide) (by rw [hsw]; decide) (by decide) ?_
    exact lk_12 C0 hA hA2 hbA hK hP hD hS hl
  by_cases c_19 : x_5 = (13 : Int32)
  · have hsw : x_5.toInt = 13 := by rw [c_19]; rfl
    refine lv_tableIn (off := 704) (tgt := 744) hx hb dL_law_40 (by rw [hsw]; decide) (by rw [hsw]; decide) (by rw [hsw]; decide) (by decide) ?_
    exact lk_13 C0 hA hA2 hbA hK hP hD hS hl
  by_cases c_20 : x_5 = (14 : Int32)
  · have hsw : x_5.toInt = 14 := by rw [c_20]; rfl
    refine lv_tableIn (off := 741) (tgt := 781) hx hb dL_law_40 (by rw [hsw]; decide) (by rw [hsw]; decide) (by rw [hsw]; decide) (by decide) ?_
    exact lk_14 C0 hA hA2 hbA hK hP hD hS hl
  by_cases c_21 : x_5 = (15 : Int32)
  · have hsw : x_5.toInt = 15 := by rw [c_21]; rfl
    refine lv_tableIn (off := 766) (tgt := 806) hx hb dL_law_40 (by rw [hsw]; decide) (by rw [hsw]; decide) (by rw [hsw]; decide) (by decide) ?_
    exact lk_15 C0 hA hA2 hbA hK hP hD hS hl
  by_cases c_22 : x_5 = (16 : Int32)
  · have hsw : x_5.toInt = 16 := by rw [c_22]; rfl
    refine lv_tableIn (off := 835) (tgt := 875) hx hb dL_law_40 (by rw [hsw]; decide) (by rw [hsw]; decide) (by rw [hsw]; decide) (by decide) ?_
    exact lk_16 C0 hA hA2 hbA hK hP hD hS hl
  by_cases c_23 : x_5 = (17 : Int32)
  · have hsw : x_5.toInt = 17 := by rw [c_23]; rfl
    refine lv_tableIn (off := 848) (tgt := 888) hx hb dL_law_40 (by rw [hsw]; decide) (by rw [hsw]; decide) (by rw [hsw]; decide) (by decide) ?_
    exact lk_17 C0 hA hA2 hbA hK hP hD hS hl
  by_cases c_24 : x_5 = (18 : Int32)
  · have hsw : x_5.toInt = 18 := by rw [c_24]; rfl
    refine lv_tableIn (off := 885) (tgt := 925) hx hb dL_law_40 (by rw [hsw]; decide) (by rw [hsw]; decide) (by rw [hsw]; decide) (by decide) ?_
    exact lk_18 C0 hA hA2 hbA hK hP hD hS hl
  by_cases c_25 : x_5 = (19 : Int32)
  · have hsw : x_5.toInt = 19 := by rw [c_25]; rfl
    refine lv_tableIn (off := 934) (tgt := 974) hx hb dL_law_40 (by rw [hsw]; decide) (by rw [hsw]; decide) (by rw [hsw]; decide) (by decide) ?_
    exact lk_19 C0 hA hA2 hbA hK hP hD hS hl
  by_cases c_26 : x_5 = (20 : Int32)
  · have hsw : x_5.toInt = 20 := by rw [c_26]; rfl
    refine lv_tableIn (off := 971) (tgt := 1011) hx hb dL_law_40 (by rw [hsw]; decide) (by rw [hsw]; decide) (by rw [hsw]; decide) (by decide) ?_
    exact lk_20 C0 hA hA2 hbA hK hP hD hS hl
  by_cases c_27 : x_5 = (21 : Int32)
  · have hsw : x_5.toInt = 21 := by rw [c_27]; rfl
    refine lv_tableIn (off := 996) (tgt := 1036) hx hb dL_law_40 (by rw [hsw]; decide) (by rw [hsw]; decide) (by rw [hsw]; decide) (by decide) ?_
    exact lk_21 C0 hA hA2 hbA hK hP hD hS hl
  by_cases c_28 : x_5 = (22 : Int32)
  · have hsw : x_5.toInt = 22 := by rw [c_28]; rfl
    refine lv_tableIn (off := 1021) (tgt := 1061) hx hb dL_law_40 (by rw [hsw]; decide) (by rw [hsw]; decide) (by rw [hsw]; decide) (by decide) ?_
    exact lk_22 C0 hA hA2 hbA hK hP hD hS hl
  by_cases c_29 : x_5 = (23 : Int32)
  · have hsw : x_5.toInt = 23 := by rw [c_29]; rfl
    refine lv_tableIn (off := 1034) (tgt := 1074) hx hb dL_law_40 (by rw [hsw]; decide) (by rw [hsw]; decide) (by rw [hsw]; decide) (by decide) ?_
    exact lk_23 C0 hA hA2 hbA hK hP hD hS hl
  by_cases c_30 : x_5 = (24 : Int32)
  · have hsw : x_5.toInt = 24 := by rw [c_30]; rfl
    refine lv_tableIn (off := 1071) (tgt := 1111) hx hb dL_law_40 (by rw [hsw]; decide) (by rw [hsw]; decide) (by rw [hsw]; decide) (by decide) ?_
    exact lk_24 C0 hA hA2 hbA hK hP hD hS hl
  by_cases c_31 : x_5 = (25 : Int32)
  · have hsw : x_5.toInt = 25 := by rw [c_31]; rfl
    refine lv_tableIn (off := 1108) (tgt := 1148) hx hb dL_law_40 (by rw [hsw]; decide) (by rw [hsw]; decide) (by rw [hsw]; decide) (by decide) ?_
    exact lk_25 C0 hA hA2 hbA hK hP hD hS hl
  by_cases c_32 : x_5 = (26 : Int32)
  · have hsw : x_5.toInt = 26 := by rw [c_32]; rfl
    refine lv_tableIn (off := 1157) (tgt := 1197) hx hb dL_law_40 (by rw [hsw]; decide) (by rw [hsw]; decide) (by rw [hsw]; decide) (by decide) ?_
    exact lk_26 C0 hA hA2 hbA hK hP hD hS hl
  by_cases c_33 : x_5 = (27 : Int32)
  · have hsw : x_5.toInt = 27 := by rw [c_33]; rfl
    refine lv_tableIn (off := 1194) (tgt := 1234) hx hb dL_law_40 (by rw [hsw]; decide) (by rw [hsw]; decide) (by rw [hsw]; decide) (by decide) ?_
    exact lk_27 C0 hA hA2 hbA hK hP hD hS hl
  by_cases c_34 : x_5 = (28 : Int32)
  · have hsw : x_5.toInt = 28 := by rw [c_34]; rfl
    refine lv_tableIn (off := 1267) (tgt := 1307) hx hb dL_law_40 (by rw [hsw]; decide) (by rw [hsw]; decide) (by rw [hsw]; decide) (by decide) ?_
    exact lk_28 C0 hA hA2 hbA hK hP hD hS hl
  by_cases c_35 : x_5 = (29 : Int32)
  · have hsw : x_5.toInt = 29 := by rw [c_35]; rfl
    refine lv_tableIn (off := 1316) (tgt := 1356) hx hb dL_law_40 (by rw [hsw]; decide) (by rw [hsw]; decide) (by rw [hsw]; decide) (by decide) ?_
    exact lk_29 C0 hA hA2 hbA hK hP hD hS hl
  by_cases c_36 : x_5 = (30 : Int32)
  · have hsw : x_5.toInt = 30 := by rw [c_36]; rfl
    refine lv_tableIn (off := 1365) (tgt := 1405) hx hb dL_law_40 (by rw [hsw]; decide) (by rw [hsw]; decide) (by rw [hsw]; decide) (by decide) ?_
    exact lk_30 C0 hA hA2 hbA hK hP hD hS hl
  by_cases c_37 : x_5 = (31 : Int32)
  · have hsw : x_5.toInt = 31 := by rw [c_37]; rfl
    refine lv_tableIn (off := 1426) (tgt := 1466) hx hb dL_law_40 (by rw [hsw]; decide) (by rw [hsw]; decide) (by rw [hsw]; decide) (by decide) ?_
    exact lk_31 C0 hA hA2 hbA hK hP hD hS hl
  by_cases c_38 : x_5 = (32 : Int32)
  · have hsw : x_5.toInt = 32 := by rw [c_38]; rfl
    refine lv_tableIn (off := 1463) (tgt := 1503) hx hb dL_law_40 (by rw [hsw]; decide) (by rw [hsw]; decide) (by rw [hsw]; decide) (by decide) ?_
    exact lk_32 C0 hA hA2 hbA hK hP hD hS hl
  by_cases c_39 : x_5 = (33 : Int32)
  · have hsw : x_5.toInt = 33 := by rw [c_39]; rfl
    refine lv_tableIn (off := 1488) (tgt := 1528) hx hb dL_law_40 (by rw [hsw]; decide) (by rw [hsw]; decide) (by rw [hsw]; decide) (by decide) ?_
    exact lk_33 C0 hA hA2 hbA hK hP hD hS hl
  by_cases c_40 : x_5 = (34 : Int32)
  · have hsw : x_5.toInt = 34 := by rw [c_40]; rfl
    refine lv_tableIn (off := 1525) (tgt := 1565) hx hb dL_law_40 (by rw [hsw]; decide) (by rw [hsw]; decide) (by rw [hsw]; decide) (by decide) ?_
    exact lk_34 C0 hA hA2 hbA hK hP hD hS hl
  by_cases c_41 : x_5 = (35 : Int32)
  · have hsw : x_5.toInt = 35 := by rw [c_41]; rfl
    refine lv_tableIn (off := 1574) (tgt := 1614) hx hb dL_law_40 (by rw [hsw]; decide) (by rw [hsw]; decide) (by rw [hsw]; decide) (by decide) ?_
    exact lk_35 C0 hA hA2 hbA hK hP hD hS hl
  by_cases c_42 : x_5 = (36 : Int32)
  · have hsw : x_5.toInt = 36 := by rw [c_42]; rfl
    refine lv_tableIn (off := 1599) (tgt := 1639) hx hb dL_law_40 (by rw [hsw]; decide) (by rw [hsw]; decide) (by rw [hsw]; decide) (by decide) ?_
    exact lk_36 C0 hA hA2 hbA hK hP hD hS hl
  by_cases c_43 : x_5 = (37 : Int32)
  · have hsw : x_5.toInt = 37 := by rw [c_43]; rfl
    refine lv_tableIn (off := 1636) (tgt := 1676) hx hb dL_law_40 (by rw [hsw]; decide) (by rw [hsw]; decide) (by rw [hsw]; decide) (by decide) ?_
    exact lk_37 C0 hA hA2 hbA hK hP hD hS hl
  by_cases c_44 : x_5 = (38 : Int32)
  · have hsw : x_5.toInt = 38 := by rw [c_44]; rfl
    refine lv_tableIn (off := 1661) (tgt := 1701) hx hb dL_law_40 (by rw [hsw]; decide) (by rw [hsw]; decide) (by rw [hsw]; decide) (by decide) ?_
    exact lk_38 C0 hA hA2 hbA hK hP hD hS hl
  by_cases c_45 : x_5 = (39 : Int32)
  · have hsw : x_5.toInt = 39 := by rw [c_45]; rfl
    refine lv_tableIn (off := 1698) (tgt := 1738) hx hb dL_law_40 (by rw [hsw]; decide) (by rw [hsw]; decide) (by rw [hsw]; decide) (by decide) ?_
    exact lk_39 C0 hA hA2 hbA hK hP hD hS hl
  by_cases c_46 : x_5 = (40 : Int32)
  · have hsw : x_5.toInt = 40 := by rw [c_46]; rfl
    refine lv_tableIn (off := 1723) (tgt := 1763) hx hb dL_law_40 (by rw [hsw]; decide) (by rw [hsw]; decide) (by rw [hsw]; decide) (by decide) ?_
    exact lk_40 C0 hA hA2 hbA hK hP hD hS hl
  by_cases c_47 : x_5 = (41 : Int32)
  · have hsw : x_5.toInt = 41 := by rw [c_47]; rfl
    refine lv_tableIn (off := 1760) (tgt := 1800) hx hb dL_law_40 (by rw [hsw]; decide) (by rw [hsw]; decide) (by rw [hsw]; decide) (by decide) ?_
    exact lk_41 C0 hA hA2 hbA hK hP hD hS hl
  by_cases c_48 : x_5 = (42 : Int32)
  · have hsw : x_5.toInt = 42 := by rw [c_48]; rfl
    refine lv_tableIn (off := 1797) (tgt := 1837) hx hb dL_law_40 (by rw [hsw]; decide) (by rw [hsw]; decide) (by rw [hsw]; decide) (by decide) ?_
    exact lk_42 C0 hA hA2 hbA hK hP hD hS hl
  by_cases c_49 : x_5 = (43 : Int32)
  · have hsw : x_5.toInt = 43 := by rw [c_49]; rfl
    refine lv_tableIn (off := 1822) (tgt := 1862) hx hb dL_law_40 (by rw [hsw]; decide) (by rw [hsw]; decide) (by rw [hsw]; decide) (by decide) ?_
    exact lk_43 C0 hA hA2 hbA hK hP hD hS hl
  by_cases c_50 : x_5 = (44 : Int32)
  · have hsw : x_5.toInt = 44 := by rw [c_50]; rfl
    refine lv_tableIn (off := 1835) (tgt := 1875) hx hb dL_law_40 (by rw [hsw]; decide) (by rw [hsw]; decide) (by rw [hsw]; decide) (by decide) ?_
    exact lk_44 C0 hA hA2 hbA hK hP hD hS hl
  by_cases c_51 : x_5 = (45 : Int32)
  · have hsw : x_5.toInt = 45 := by rw [c_51]; rfl
    refine lv_tableIn (off := 1848) (tgt := 1888) hx hb dL_law_40 (by rw [hsw]; decide) (by rw [hsw]; decide) (by rw [hsw]; decide) (by decide) ?_
    exact lk_45 C0 hA hA2 hbA hK hP hD hS hl
  by_cases c_52 : x_5 = (46 : Int32)
  · have hsw : x_5.toInt = 46 := by rw [c_52]; rfl
    refine lv_tableIn (off := 1861) (tgt := 1901) hx hb dL_law_40 (by rw [hsw]; decide) (by rw [hsw]; decide) (by rw [hsw]; decide) (by decide) ?_
    exact lk_46 C0 hA hA2 hbA hK hP hD hS hl
  have hsw : x_5.toInt < 0 ∨ 46 < x_5.toInt := by
    have g0 := lv_neT c_6 (a := 0) (by decide)
    have g1 := lv_neT c_7 (a := 1) (by decide)
    have g2 := lv_neT c_8 (a := 2) (by decide)
    have g3 := lv_neT c_9 (a := 3) (by decide)
    have g4 := lv_neT c_10 (a := 4) (by decide)
    have g5 := lv_neT c_11 (a := 5) (by decide)
    have g6 := lv_neT c_12 (a := 6) (by decide)
    have g7 := lv_neT c_13 (a := 7) (by decide)
    have g8 := lv_neT c_14 (a := 8) (by decide)
    have g9 := lv_neT c_15 (a := 9) (by decide)
    have g10 := lv_neT c_16 (a := 10) (by decide)
    have g11 := lv_neT c_17 (a := 11) (by decide)
    have g12 := lv_neT c_18 (a := 12) (by decide)
    have g13 := lv_neT c_19 (a := 13) (by decide)
    have g14 := lv_neT c_20 (a := 14) (by decide)
    have g15 := lv_neT c_21 (a := 15) (by decide)
    have g16 := lv_neT c_22 (a := 16) (by decide)
    have g17 := lv_neT c_23 (a := 17) (by decide)
    have g18 := lv_neT c_24 (a := 18) (by decide)
    have g19 := lv_neT c_25 (a := 19) (by decide)
    have g20 := lv_neT c_26 (a := 20) (by decide)
    have g21 := lv_neT c_27 (a := 21) (by decide)
    have g22 := lv_neT c_28 (a := 22) (by decide)
    have g23 := lv_neT c_29 (a := 23) (by decide)
    have g24 := lv_neT c_30 (a := 24) (by decide)
    have g25 := lv_neT c_31 (a := 25) (by decide)
    have g26 := lv_neT c_32 (a := 26) (by decide)
    have g27 := lv_neT c_33 (a := 27) (by decide)
    have g28 := lv_neT c_34 (a := 28) (by decide)
    have g29 := lv_neT c_35 (a := 29) (by decide)
    have g30 := lv_neT c_36 (a := 30) (by decide)
    have g31 := lv_neT c_37 (a := 31) (by decide)
    have g32 := lv_neT c_38 (a := 32) (by decide)
    have g33 := lv_neT c_39 (a := 33) (by decide)
    have g34 := lv_neT c_40 (a := 34) (by decide)
    have g35 := lv_neT c_41 (a := 35) (by decide)
    have g36 := lv_neT c_42 (a := 36) (by decide)
    have g37 := lv_neT c_43 (a := 37) (by decide)
    have g38 := lv_neT c_44 (a := 38) (by decide)
    have g39 := lv_neT c_45 (a := 39) (by decide)
    have g40 := lv_neT c_46 (a := 40) (by decide)
    have g41 := lv_neT c_47 (a := 41) (by decide)
    have g42 := lv_neT c_48 (a := 42) (by decide)
    have g43 := lv_neT c_49 (a := 43) (by decide)
    have g44 := lv_neT c_50 (a := 44) (by decide)
    have g45 := lv_neT c_51 (a := 45) (by decide)
    have g46 := lv_neT c_52 (a := 46) (by decide)
    omega
  refine lv_tableOut (tgt := 1926) hx hb dL_law_40 hsw (by decide) ?_
  refine lv_iinc (v := 6) (lv' := [(4, .int 6), (3, .ref q_98), (2, .ref q_66), (1, .ref q_1), (0, .ref b)]) hx hb dL_law_1926 hl (k := 0) rfl (by decide) (by decide) rfl (fun ls hl => ?_)
  refine lv_goto (tgt := 23) hx hb dL_law_1929 (by decide) ?_
  refine lv_iload hx hb dL_law_23 (lv_at hl 0 rfl) ?_
  refine lv_aload_n hx hb dL_law_25 rfl (lv_at hl 4 rfl) ?_
  refine va_slen hx hb hX hbl hbA hS dL_law_26 ?_
  refine lv_topi (fun x_53 ex_53 => ?_)
  obtain rfl : x_53 = 6 := ex_53.trans (by decide)
  refine lv_bipush (v := 6) hx hb dL_law_27 (by decide) ?_
  refine lv_isub hx hb dL_law_29 ?_
  refine lv_topi (fun x_54 ex_54 => ?_)
  obtain rfl : x_54 = 0 := ex_54.trans (by decide)
  refine lv_icmp_gt (tgt := 1932) hx hb dL_law_30 (by decide) (fun c_55 => ?_) (fun c_55 => absurd c_55 (by decide))
  refine lv_iconst (v := 1) hx hb dL_law_1932 (by decide) ?_
  refine va_forget (fun q hq => hA2 _ (hS.2.2 q hq)) ?_
  refine W.widen (k := 600002) (n := 7302231) (Nat.le_of_ble_eq_true rfl) (Nat.le_of_ble_eq_true rfl) ?_
  exact lw_ret hx hb hr hlocks dL_law_1933
set_option maxHeartbeats 4000000 in
set_option maxRecDepth 100000 in
theorem whole_start {p : Program} {e : Env} {s : State} {m : MethodId} {below : List Frame} {meth : Method} {c : Code} (l : Launch) (htr : l.stackTraces = false) {b L : Nat} {xs : Nat → Int32} (hL : L ≤ 6) (C0 : lw_At p s m meth c b L xs) : W p l e room_1 s m #[Value.ref b] below meth c s.heap [] 0 0 (lw_Z below #[Value.ref b] s) (entryFrame m ([Value.ref b] : List Value).toArray 7) := by
  obtain ⟨A, hAd⟩ : ∃ A : Nat → Prop, A = fun q : Nat => s.heap.size ≤ q := ⟨_, rfl⟩
  have hA : ∀ q : Nat, s.heap.size ≤ q → A q := fun q h => by rw [hAd]; exact h
  have hA2 : ∀ q : Nat, A q → s.heap.size ≤ q := fun q h => by rw [hAd] at h; exact h
  have hA0 : ∀ a : Nat, a < s.heap.size → ¬ A a := fun a h q => absurd (hA2 a q) (Nat.not_le.mpr h)
  obtain ⟨ta0, ta1, ts0, tv0, ts1, tv1, ts2, tv2, ts3, tv3, ts4, tv4, hE⟩ := bv_env_ok C0 hA0
  obtain ⟨hx, hb, hr, hml, hown, hts, hX, hbl, hlocks, hgv⟩ := id C0
  have hs := flat_of_before _ hgv
  have hbA : ¬ A b := hA0 b hbl
  have hE0 : vx_Zq Bundle.tN "UNASSIGNED_STACK" Bundle.steD A s s.heap := vx_Zqof (hts (.laysStatic Bundle.tN "UNASSIGNED_STACK" Bundle.steD) (by decide +kernel)) (hts (.initialized Bundle.tN) (by decide +kernel)) (hs (.isRef (.static Bundle.tN "UNASSIGNED_STACK" Bundle.steD)) (by decide +kernel)) hA0
  have hE1 : vx_Zq Bundle.tN "SUPPRESSED_SENTINEL" Bundle.listD A s s.heap := vx_Zqof (hts (.laysStatic Bundle.tN "SUPPRESSED_SENTINEL" Bundle.listD) (by decide +kernel)) (hts (.initialized Bundle.tN) (by decide +kernel)) (hs (.isRef (.static Bundle.tN "SUPPRESSED_SENTINEL" Bundle.listD)) (by decide +kernel)) hA0
  have hE2 : va_Nw (.castable "java/util/NoSuchElementException" "java/util/NoSuchElementException") s := va_Nw.of rfl (hts (.castable "java/util/NoSuchElementException" "java/util/NoSuchElementException") (by decide +kernel))
  have hE3 : va_Nw (.declares ⟨"java/lang/RuntimeException", "<init>", "()V"⟩) s := va_Nw.of rfl (hts (.declares ⟨"java/lang/RuntimeException", "<init>", "()V"⟩) (by decide +kernel))
  have hE4 : va_Nw (.declares ⟨"java/lang/Exception", "<init>", "()V"⟩) s := va_Nw.of rfl (hts (.declares ⟨"java/lang/Exception", "<init>", "()V"⟩) (by decide +kernel))
  have hE5 : va_Nw (.declares ⟨"java/lang/Throwable", "<init>", "()V"⟩) s := va_Nw.of rfl (hts (.declares ⟨"java/lang/Throwable", "<init>", "()V"⟩) (by decide +kernel))
  obtain ⟨c0, iS0, hKn0⟩ := u_known (C := RX0) (T := TX0) (N := 4) (n := 4) hts (fun w h => wf_law_in w (iw_law_X0 w h)) (hts (.instantiable RX0 4) (List.mem_of_getElem? (i := 168) (by decide +kernel)))
  obtain ⟨c1, iS1, hKn1⟩ := u_known (C := RX1) (T := TX1) (N := 4) (n := 4) hts (fun w h => wf_law_in w (iw_law_X1 w h)) (hts (.instantiable RX1 4) (List.mem_of_getElem? (i := 446) (by decide +kernel)))
  obtain ⟨c2, iS2, hKn2⟩ := u_known (C := RX2) (T := TX2) (N := 6) (n := 6) hts (fun w h => wf_law_in w (iw_law_X2 w h)) (hts (.instantiable RX2 6) (List.mem_of_getElem? (i := 421) (by decide +kernel)))
  obtain ⟨c3, iS3, hKn3⟩ := u_known (C := RX3) (T := TX3) (N := 7) (n := 7) hts (fun w h => wf_law_in w (iw_law_X3 w h)) (hts (.instantiable RX3 7) (List.mem_of_getElem? (i := 345) (by decide +kernel)))
  obtain ⟨c4, iS4, hKn4⟩ := u_known (C := RX4) (T := TX4) (N := 3) (n := 3) hts (fun w h => wf_law_in w (iw_law_X4 w h)) (hts (.instantiable RX4 3) (List.mem_of_getElem? (i := 202) (by decide +kernel)))
  obtain ⟨c5, iS5, hKn5⟩ := u_known (C := RX5) (T := TX5) (N := 4) (n := 4) hts (fun w h => wf_law_in w (iw_law_X5 w h)) (hts (.instantiable RX5 4) (List.mem_of_getElem? (i := 195) (by decide +kernel)))
  obtain ⟨c6, iS6, hKn6⟩ := u_known (C := RX6) (T := TX6) (N := 2) (n := 2) hts (fun w h => wf_law_in w (iw_law_X6 w h)) (hts (.instantiable RX6 2) (List.mem_of_getElem? (i := 234) (by decide +kernel)))
  obtain ⟨c7, iS7, hKn7⟩ := u_known (C := RX7) (T := TX7) (N := 13) (n := 13) hts (fun w h => wf_law_in w (iw_law_X7 w h)) (hts (.instantiable RX7 13) (List.mem_of_getElem? (i := 276) (by decide +kernel)))
  obtain ⟨c8, iS8, hKn8⟩ := u_known (C := RX8) (T := TX8) (N := 12) (n := 12) hts (fun w h => wf_law_in w (iw_law_X8 w h)) (hts (.instantiable RX8 12) (List.mem_of_getElem? (i := 377) (by decide +kernel)))
  obtain ⟨c9, iS9, hKn9⟩ := u_known (C := RX9) (T := TX9) (N := 4) (n := 4) hts (fun w h => wf_law_in w (iw_law_X9 w h)) (hts (.instantiable RX9 4) (List.mem_of_getElem? (i := 146) (by decide +kernel)))
  obtain ⟨c10, iS10, hKn10⟩ := u_known (C := RX10) (T := TX10) (N := 6) (n := 6) hts (fun w h => wf_law_in w (iw_law_X10 w h)) (hts (.instantiable RX10 6) (List.mem_of_getElem? (i := 248) (by decide +kernel)))
  obtain ⟨c11, iS11, hKn11⟩ := u_known (C := RX11) (T := TX11) (N := 16) (n := 16) hts (fun w h => wf_law_in w (iw_law_X11 w h)) (hts (.instantiable RX11 16) (List.mem_of_getElem? (i := 138) (by decide +kernel)))
  obtain ⟨c12, iS12, hKn12⟩ := u_known (C := RX12) (T := TX12) (N := 54) (n := 54) hts (fun w h => wf_law_in w (iw_law_X12 w h)) (hts (.instantiable RX12 54) (List.mem_of_getElem? (i := 1470) (by decide +kernel)))
  obtain ⟨dC, dI, hKc⟩ : ∃ (dC : Nat → ClassId) (dI : Nat → Nat → Nat), ∀ (k : Nat) (q : vw_C), vwCl[k]? = some q → u_Kn s q.1 q.2.1 q.2.2 (dC k) (dI k) := by
    refine ⟨fun k => if k = 0 then c0 else if k = 1 then c1 else if k = 2 then c2 else if k = 3 then c3 else if k = 4 then c4 else if k = 5 then c5 else if k = 6 then c6 else if k = 7 then c7 else if k = 8 then c8 else if k = 9 then c9 else if k = 10 then c10 else if k = 11 then c11 else c12, fun k => if k = 0 then iS0 else if k = 1 then iS1 else if k = 2 then iS2 else if k = 3 then iS3 else if k = 4 then iS4 else if k = 5 then iS5 else if k = 6 then iS6 else if k = 7 then iS7 else if k = 8 then iS8 else if k = 9 then iS9 else if k = 10 then iS10 else if k = 11 then iS11 else iS12, ?_⟩
    intro k q hq
    match k, hq with
    | 0, hq => cases hq; exact hKn0
    | 1, hq => cases hq; exact hKn1
    | 2, hq => cases hq; exact hKn2
    | 3, hq => cases hq; exact hKn3
    | 4, hq => cases hq; exact hKn4
    | 5, hq => cases hq; exact hKn5
    | 6, hq => cases hq; exact hKn6
    | 7, hq => cases hq; exact hKn7
    | 8, hq => cases hq; exact hKn8
    | 9, hq => cases hq; exact hKn9
    | 10, hq => cases hq; exact hKn10
    | 11, hq => cases hq; exact hKn11
    | 12, hq => cases hq; exact hKn12
    | k + 13, hq => simp [vwCl] at hq
  have hts : ∀ w ∈ wf_law, w.before #[Value.ref b] s = true := fun w h => hts w (wf_law_in w h)
  have hown : s.vm.findClass RL = some m.cls := hown
  have hS : va_S A s.heap s.heap [] := va_S.rf
  have hK : va_K (dC, dI) vwCl [] s := ⟨hKc, fun k q h => by simp at h⟩
  have hP : va_P (dC, dI) vwCl [] s.heap := fun k q h => by simp at h
  have hD : va_D A [] := ⟨fun i j p q h => by simp at h, fun k q h => by simp at h⟩
  have hl := lv_entry ([.ref b]) (n := 7) (Nat.le_of_ble_eq_true rfl)
  rw [lg_entry_eq]
  generalize (lg_sl ([.ref b]) ++ List.replicate (7 - (lg_sl ([.ref b])).length) Slot.unset).toArray = ls at hl ⊢
  have hl : lv_has ls 7 [(0, .ref b)] := hl
  have hE9 := hE
  obtain ⟨eE0, eE1, eE2, eE3, eE4, eE5, eE6, eE7, eE8, eE9, eE10, eE11, eE12, eE13, eE14, eE15, eE16, eE17, eE18, eE19, eE20, eE21, eE22, eE23, eE24, eE25, eE26, eE27, eE28, eE29, eE30, eE31, eE32, eE33⟩ := hE9
  refine va_new (ci := 11) (fs := [.null, .null, .null, .null, .null, .int 0, .null, .null, .null, .null, .null, .null, .null, .null, .null, .long 0]) (C := RX11) (T := TX11) (N := 16) hx hb hts iw_law_X11 tyX11 tyX11_ok hown (hts (.classLink RL 8 RX11) (List.mem_of_getElem? (i := 0) rfl)) (hts (.instantiable RX11 16) (List.mem_of_getElem? (i := 1) rfl)) (hts (.initialized RX11) (List.mem_of_getElem? (i := 2) rfl)) hK hP hD hS hA rfl (vn_X11) (Nat.le_of_ble_eq_true rfl) (Nat.le_of_ble_eq_true rfl) dL_law_0 (fun q_1 H hP hD hS => ?_)
  have hP : va_P (dC, dI) vwCl [(q_1, .inr (11, [.null, .null, .null, .null, .null, .int 0, .null, .null, .null, .null, .null, .null, .null, .null, .null, .long 0]))] H := hP
  have hD : va_D A [(q_1, .inr (11, [.null, .null, .null, .null, .null, .int 0, .null, .null, .null, .null, .null, .null, .null, .null, .null, .long 0]))] := hD
  refine W.widen (k := 1) (n := 16) (by decide) (by decide) ?_
  refine lv_dup hx hb dL_law_3 rfl ?_
  have hPc := hP.sub (ws' := [(q_1, .inr (11, [.null, .null, .null, .null, .null, .int 0, .null, .null, .null, .null, .null, .null, .null, .null, .null, .long 0]))]) [0] rfl
  have hDc := hD.sub (ws' := [(q_1, .inr (11, [.null, .null, .null, .null, .null, .int 0, .null, .null, .null, .null, .null, .null, .null, .null, .null, .long 0]))]) [0] (by decide) rfl
  have hKc := hK.sub (tys' := []) [] rfl
  have hFc := va_free (wc := [(q_1, .inr (11, [.null, .null, .null, .null, .null, .int 0, .null, .null, .null, .null, .null, .null, .null, .null, .null, .long 0]))]) hD hS hA [0] rfl
  refine va_callv (va_runI (As := []) (rest := [.ref q_1]) ⟨hx, hb, hml, hown, hts⟩ (c_X11_init l dC dI H.size q_1) (cwI 0 hts gf_law_c_X11_init rfl rfl rfl (hts (.initialized RX11) (List.mem_of_getElem? (i := 2) rfl)) (hts (.methodLink RL 15 yX11_init) (List.mem_of_getElem? (i := 150) rfl)) (hts (.instanceMethod yX11_init) (List.mem_of_getElem? (i := 151) rfl)) rfl (by decide +kernel) ⟨Nat.le_of_ble_eq_true rfl, Nat.le_of_ble_eq_true rfl⟩) ⟨fun a U g mk q => by obtain ⟨q0, q1, qP, qK, qD, qE0, qE1, qE2⟩ := q; exact ⟨q0, q1, qP, va_K.moved (u := U) (U := U.calling g mk a) (Vm.Alike.refl U.vm) qK, qD, va_AO.moved (u := U) (U := U.calling g mk a) (Vm.Alike.refl U.vm) qE0, va_AO.moved (u := U) (U := U.calling g mk a) (Vm.Alike.refl U.vm) qE1, va_AO.moved (u := U) (U := U.calling g mk a) (Vm.Alike.refl U.vm) qE2⟩, fun U hU hW => ⟨rfl, by rw [hU], by rw [hU]; exact hPc, va_K.moved hW.alike hKc, hDc.weaken (fun _ _ _ _ => trivial), va_AO.moved hW.alike eE0, va_AO.moved hW.alike eE1, va_AO.moved hW.alike eE2⟩⟩ rfl rfl hl.1 rfl (lv_room (Nat.le_of_ble_eq_true rfl)) dL_law_4 ⟨Nat.le_of_ble_eq_true rfl, Nat.le_of_ble_eq_true rfl⟩) hS (fun q _ h => hFc q h) hFc (fun u t H1 locs ht hvm hw hB hz1 hk1 hS => ?_)
  obtain ⟨q_3, q_4, q_5, q_6, q_7, q_8, q_9, q_10, q_11, q_12, q_13, q_14, q_15, q_16, q_17, q_18, q_19, q_20, q_21, q_22, q_23, q_24, q_25, q_26, q_27, q_28, q_29, q_30, q_31, q_32, q_33, q_34, q_35, q_36, q_37, q_38, q_39, q_40, q_41, q_42, q_43, q_44, q_45, q_46, q_47, q_48, q_49, q_50, q_51, q_52, q_53, q_54, q_55, q_56, q_57, q_58, q_59, k_60, k_61, k_62, k_63, k_64, k_65, hP1, hK1, hD1⟩ := hB
  rw [ht] at hP1
  have hK1 := va_K.moved hvm.symm hK1
  obtain ⟨hP, hD⟩ := va_join (wr := []) (w1 := [(q_1, .inr (11, [.ref q_3, .ref q_5, .ref q_6, .ref q_8, .ref q_12, .int 0, .ref q_14, .ref q_16, .ref q_19, .ref q_17, .ref q_18, .ref q_20, .ref q_21, .ref q_22, .ref q_23, .long 0])), (q_3, .inr (9, [.ref q_4, .int 0, .int 0, .int (-1)])), (q_4, .inl (k_60, 240, .inl (fun _ => 0))), (q_5, .inr (0, [.ref q_24, .int 0, .int 0, .int 0])), (q_6, .inr (0, [.ref q_7, .int 0, .int 0, .int 0])), (q_7, .inl (k_61, 80, .inl (fun _ => 0))), (q_8, .inr (5, [.ref q_9, .int 0, .int (-1), .ref q_25])), (q_9, .inl (k_62, 5, .inr (.inr (.inr (.inr (va_up (va_up (va_up (va_up (va_up (fun _ => none) (0 : Int32).toNatClampNeg (some q_10)) (1 : Int32).toNatClampNeg (some q_26)) (2 : Int32).toNatClampNeg (some q_27)) (3 : Int32).toNatClampNeg (some q_28)) (4 : Int32).toNatClampNeg (some q_29))))))), (q_10, .inr (4, [.ref q_11, .int 0, .ref q_30])), (q_11, .inl (k_63, 240, .inl (fun _ => 0))), (q_12, .inl (k_64, 5, .inr (.inr (.inr (.inr (va_up (va_up (va_up (va_up (va_up (fun _ => none) (0 : Int32).toNatClampNeg (some q_13)) (1 : Int32).toNatClampNeg (some q_31)) (2 : Int32).toNatClampNeg (some q_32)) (3 : Int32).toNatClampNeg (some q_33)) (4 : Int32).toNatClampNeg (some q_34))))))), (q_13, .inr (6, [.ref q_35, .int 0])), (q_14, .inr (10, [.ref q_5, .ref q_8, .ref q_36, .ref q_37, .ref q_15, .ref q_38])), (q_15, .inl (k_65, 3, .inl (fun _ => 0))), (q_16, .inr (7, [.int 0, .int 0, .int 0, .int 0, .ref q_39, .ref q_40, .ref q_41, .ref q_42, .ref q_43, .ref q_44, .ref q_45, .ref q_46, .ref q_47])), (q_17, .inr (3, [.ref q_48, .int 0, .int 0, .ref q_49, .ref q_50, .ref q_51, .int 0])), (q_18, .inr (8, [.ref q_5, .ref q_8, .ref q_52, .ref q_53, .ref q_54, .ref q_55, .int 0, .ref q_56, .int 0, .ref q_57, .ref q_58, .ref q_59]))]) hP hD [0] [] rfl rfl (by decide) (by decide) hk1 hFc hP1 hD1
  have hK := hK.app hK1
  generalize H1 = H at hP hS ⊢
  have hP : va_P (dC, dI) vwCl [(q_1, .inr (11, [.ref q_3, .ref q_5, .ref q_6, .ref q_8, .ref q_12, .int 0, .ref q_14, .ref q_16, .ref q_19, .ref q_17, .ref q_18, .ref q_20, .ref q_21, .ref q_22, .ref q_23, .long 0])), (q_3, .inr (9, [.ref q_4, .int 0, .int 0, .int (-1)])), (q_4, .inl (k_60, 240, .inl (fun _ => 0))), (q_5, .inr (0, [.ref q_24, .int 0, .int 0, .int 0])), (q_6, .inr (0, [.ref q_7, .int 0, .int 0, .int 0])), (q_7, .inl (k_61, 80, .inl (fun _ => 0))), (q_8, .inr (5, [.ref q_9, .int 0, .int (-1), .ref q_25])), (q_9, .inl (k_62, 5, .inr (.inr (.inr (.inr (va_up (va_up (va_up (va_up (va_up (fun _ => none) (0 : Int32).toNatClampNeg (some q_10)) (1 : Int32).toNatClampNeg (some q_26)) (2 : Int32).toNatClampNeg (some q_27)) (3 : Int32).toNatClampNeg (some q_28)) (4 : Int32).toNatClampNeg (some q_29))))))), (q_10, .inr (4, [.ref q_11, .int 0, .ref q_30])), (q_11, .inl (k_63, 240, .inl (fun _ => 0))), (q_12, .inl (k_64, 5, .inr (.inr (.inr (.inr (va_up (va_up (va_up (va_up (va_up (fun _ => none) (0 : Int32).toNatClampNeg (some q_13)) (1 : Int32).toNatClampNeg (some q_31)) (2 : Int32).toNatClampNeg (some q_32)) (3 : Int32).toNatClampNeg (some q_33)) (4 : Int32).toNatClampNeg (some q_34))))))), (q_13, .inr (6, [.ref q_35, .int 0])), (q_14, .inr (10, [.ref q_5, .ref q_8, .ref q_36, .ref q_37, .ref q_15, .ref q_38])), (q_15, .inl (k_65, 3, .inl (fun _ => 0))), (q_16, .inr (7, [.int 0, .int 0, .int 0, .int 0, .ref q_39, .ref q_40, .ref q_41, .ref q_42, .ref q_43, .ref q_44, .ref q_45, .ref q_46, .ref q_47])), (q_17, .inr (3, [.ref q_48, .int 0, .int 0, .ref q_49, .ref q_50, .ref q_51, .int 0])), (q_18, .inr (8, [.ref q_5, .ref q_8, .ref q_52, .ref q_53, .ref q_54, .ref q_55, .int 0, .ref q_56, .int 0, .ref q_57, .ref q_58, .ref q_59]))] H := hP
  have hD : va_D A [(q_1, .inr (11, [.ref q_3, .ref q_5, .ref q_6, .ref q_8, .ref q_12, .int 0, .ref q_14, .ref q_16, .ref q_19, .ref q_17, .ref q_18, .ref q_20, .ref q_21, .ref q_22, .ref q_23, .long 0])), (q_3, .inr (9, [.ref q_4, .int 0, .int 0, .int (-1)])), (q_4, .inl (k_60, 240, .inl (fun _ => 0))), (q_5, .inr (0, [.ref q_24, .int 0, .int 0, .int 0])), (q_6, .inr (0, [.ref q_7, .int 0, .int 0, .int 0])), (q_7, .inl (k_61, 80, .inl (fun _ => 0))), (q_8, .inr (5, [.ref q_9, .int 0, .int (-1), .ref q_25])), (q_9, .inl (k_62, 5, .inr (.inr (.inr (.inr (va_up (va_up (va_up (va_up (va_up (fun _ => none) (0 : Int32).toNatClampNeg (some q_10)) (1 : Int32).toNatClampNeg (some q_26)) (2 : Int32).toNatClampNeg (some q_27)) (3 : Int32).toNatClampNeg (some q_28)) (4 : Int32).toNatClampNeg (some q_29))))))), (q_10, .inr (4, [.ref q_11, .int 0, .ref q_30])), (q_11, .inl (k_63, 240, .inl (fun _ => 0))), (q_12, .inl (k_64, 5, .inr (.inr (.inr (.inr (va_up (va_up (va_up (va_up (va_up (fun _ => none) (0 : Int32).toNatClampNeg (some q_13)) (1 : Int32).toNatClampNeg (some q_31)) (2 : Int32).toNatClampNeg (some q_32)) (3 : Int32).toNatClampNeg (some q_33)) (4 : Int32).toNatClampNeg (some q_34))))))), (q_13, .inr (6, [.ref q_35, .int 0])), (q_14, .inr (10, [.ref q_5, .ref q_8, .ref q_36, .ref q_37, .ref q_15, .ref q_38])), (q_15, .inl (k_65, 3, .inl (fun _ => 0))), (q_16, .inr (7, [.int 0, .int 0, .int 0, .int 0, .ref q_39, .ref q_40, .ref q_41, .ref q_42, .ref q_43, .ref q_44, .ref q_45, .ref q_46, .ref q_47])), (q_17, .inr (3, [.ref q_48, .int 0, .int 0, .ref q_49, .ref q_50, .ref q_51, .int 0])), (q_18, .inr (8, [.ref q_5, .ref q_8, .ref q_52, .ref q_53, .ref q_54, .ref q_55, .int 0, .ref q_56, .int 0, .ref q_57, .ref q_58, .ref q_59]))] := hD
  have hK : va_K (dC, dI) vwCl [(k_60, .int), (k_61, .int), (k_62, .object RX4), (k_63, .int), (k_64, .object RX6), (k_65, .int)] s := hK
  refine W.widen (k := 495) (n := 8861) (by decide) (by decide) ?_
  refine lv_astore_n (lv' := [(1, .ref q_1), (0, .ref b)]) hx hb dL_law_7 rfl hl (by decide) rfl (fun ls hl => ?_)
  refine va_new (ci := 12) (fs := [.int 0, .null, .null, .null, .null, .null, .int 0, .int 0, .int 0, .int 0, .int 0, .int 0, .int 0, .int 0, .int 0, .null, .null, .int 0, .null, .null, .null, .null, .null, .null, .null, .null, .int 0, .int 0, .int 0, .int 0, .int 0, .int 0, .null, .null, .int 0, .null, .null, .null, .null, .null, .null, .int 0, .long 0, .int 0, .int 0, .null, .null, .null, .null, .null, .null, .int 0, .null, .int 0]) (C := RX12) (T := TX12) (N := 54) hx hb hts iw_law_X12 tyX12 tyX12_ok hown (hts (.classLink RL 16 RX12) (List.mem_of_getElem? (i := 152) rfl)) (hts (.instantiable RX12 54) (List.mem_of_getElem? (i := 153) rfl)) (hts (.initialized RX12) (List.mem_of_getElem? (i := 154) rfl)) hK hP hD hS hA rfl (vn_X12) (Nat.le_of_ble_eq_true rfl) (Nat.le_of_ble_eq_true rfl) dL_law_8 (fun q_66 H hP hD hS => ?_)
  have hP : va_P (dC, dI) vwCl [(q_1, .inr (11, [.ref q_3, .ref q_5, .ref q_6, .ref q_8, .ref q_12, .int 0, .ref q_14, .ref q_16, .ref q_19, .ref q_17, .ref q_18, .ref q_20, .ref q_21, .ref q_22, .ref q_23, .long 0])), (q_3, .inr (9, [.ref q_4, .int 0, .int 0, .int (-1)])), (q_4, .inl (k_60, 240, .inl (fun _ => 0))), (q_5, .inr (0, [.ref q_24, .int 0, .int 0, .int 0])), (q_6, .inr (0, [.ref q_7, .int 0, .int 0, .int 0])), (q_7, .inl (k_61, 80, .inl (fun _ => 0))), (q_8, .inr (5, [.ref q_9, .int 0, .int (-1), .ref q_25])), (q_9, .inl (k_62, 5, .inr (.inr (.inr (.inr (va_up (va_up (va_up (va_up (va_up (fun _ => none) (0 : Int32).toNatClampNeg (some q_10)) (1 : Int32).toNatClampNeg (some q_26)) (2 : Int32).toNatClampNeg (some q_27)) (3 : Int32).toNatClampNeg (some q_28)) (4 : Int32).toNatClampNeg (some q_29))))))), (q_10, .inr (4, [.ref q_11, .int 0, .ref q_30])), (q_11, .inl (k_63, 240, .inl (fun _ => 0))), (q_12, .inl (k_64, 5, .inr (.inr (.inr (.inr (va_up (va_up (va_up (va_up (va_up (fun _ => none) (0 : Int32).toNatClampNeg (some q_13)) (1 : Int32).toNatClampNeg (some q_31)) (2 : Int32).toNatClampNeg (some q_32)) (3 : Int32).toNatClampNeg (some q_33)) (4 : Int32).toNatClampNeg (some q_34))))))), (q_13, .inr (6, [.ref q_35, .int 0])), (q_14, .inr (10, [.ref q_5, .ref q_8, .ref q_36, .ref q_37, .ref q_15, .ref q_38])), (q_15, .inl (k_65, 3, .inl (fun _ => 0))), (q_16, .inr (7, [.int 0, .int 0, .int 0, .int 0, .ref q_39, .ref q_40, .ref q_41, .ref q_42, .ref q_43, .ref q_44, .ref q_45, .ref q_46, .ref q_47])), (q_17, .inr (3, [.ref q_48, .int 0, .int 0, .ref q_49, .ref q_50, .ref q_51, .int 0])), (q_18, .inr (8, [.ref q_5, .ref q_8, .ref q_52, .ref q_53, .ref q_54, .ref q_55, .int 0, .ref q_56, .int 0, .ref q_57, .ref q_58, .ref q_59])), (q_66, .inr (12, [.int 0, .null, .null, .null, .null, .null, .int 0, .int 0, .int 0, .int 0, .int 0, .int 0, .int 0, .int 0, .int 0, .null, .null, .int 0, .null, .null, .null, .null, .null, .null, .null, .null, .int 0, .int 0, .int 0, .int 0, .int 0, .int 0, .null, .null, .int 0, .null, .null, .null, .null, .null, .null, .int 0, .long 0, .int 0, .int 0, .null, .null, .null, .null, .null, .null, .int 0, .null, .int 0]))] H := hP
  have hD : va_D A [(q_1, .inr (11, [.ref q_3, .ref q_5, .ref q_6, .ref q_8, .ref q_12, .int 0, .ref q_14, .ref q_16, .ref q_19, .ref q_17, .ref q_18, .ref q_20, .ref q_21, .ref q_22, .ref q_23, .long 0])), (q_3, .inr (9, [.ref q_4, .int 0, .int 0, .int (-1)])), (q_4, .inl (k_60, 240, .inl (fun _ => 0))), (q_5, .inr (0, [.ref q_24, .int 0, .int 0, .int 0])), (q_6, .inr (0, [.ref q_7, .int 0, .int 0, .int 0])), (q_7, .inl (k_61, 80, .inl (fun _ => 0))), (q_8, .inr (5, [.ref q_9, .int 0, .int (-1), .ref q_25])), (q_9, .inl (k_62, 5, .inr (.inr (.inr (.inr (va_up (va_up (va_up (va_up (va_up (fun _ => none) (0 : Int32).toNatClampNeg (some q_10)) (1 : Int32).toNatClampNeg (some q_26)) (2 : Int32).toNatClampNeg (some q_27)) (3 : Int32).toNatClampNeg (some q_28)) (4 : Int32).toNatClampNeg (some q_29))))))), (q_10, .inr (4, [.ref q_11, .int 0, .ref q_30])), (q_11, .inl (k_63, 240, .inl (fun _ => 0))), (q_12, .inl (k_64, 5, .inr (.inr (.inr (.inr (va_up (va_up (va_up (va_up (va_up (fun _ => none) (0 : Int32).toNatClampNeg (some q_13)) (1 : Int32).toNatClampNeg (some q_31)) (2 : Int32).toNatClampNeg (some q_32)) (3 : Int32).toNatClampNeg (some q_33)) (4 : Int32).toNatClampNeg (some q_34))))))), (q_13, .inr (6, [.ref q_35, .int 0])), (q_14, .inr (10, [.ref q_5, .ref q_8, .ref q_36, .ref q_37, .ref q_15, .ref q_38])), (q_15, .inl (k_65, 3, .inl (fun _ => 0))), (q_16, .inr (7, [.int 0, .int 0, .int 0, .int 0, .ref q_39, .ref q_40, .ref q_41, .ref q_42, .ref q_43, .ref q_44, .ref q_45, .ref q_46, .ref q_47])), (q_17, .inr (3, [.ref q_48, .int 0, .int 0, .ref q_49, .ref q_50, .ref q_51, .int 0])), (q_18, .inr (8, [.ref q_5, .ref q_8, .ref q_52, .ref q_53, .ref q_54, .ref q_55, .int 0, .ref q_56, .int 0, .ref q_57, .ref q_58, .ref q_59])), (q_66, .inr (12, [.int 0, .null, .null, .null, .null, .null, .int 0, .int 0, .int 0, .int 0, .int 0, .int 0, .int 0, .int 0, .int 0, .null, .null, .int 0, .null, .null, .null, .null, .null, .null, .null, .null, .int 0, .int 0, .int 0, .int 0, .int 0, .int 0, .null, .null, .int 0, .null, .null, .null, .null, .null, .null, .int 0, .long 0, .int 0, .int 0, .null, .null, .null, .null, .null, .null, .int 0, .null, .int 0]))] := hD
  refine W.widen (k := 496) (n := 8915) (by decide) (by decide) ?_
  refine lv_dup hx hb dL_law_11 rfl ?_
  have hPc := hP.sub (ws' := [(q_66, .inr (12, [.int 0, .null, .null, .null, .null, .null, .int 0, .int 0, .int 0, .int 0, .int 0, .int 0, .int 0, .int 0, .int 0, .null, .null, .int 0, .null, .null, .null, .null, .null, .null, .null, .null, .int 0, .int 0, .int 0, .int 0, .int 0, .int 0, .null, .null, .int 0, .null, .null, .null, .null, .null, .null, .int 0, .long 0, .int 0, .int 0, .null, .null, .null, .null, .null, .null, .int 0, .null, .int 0]))]) [17] rfl
  have hDc := hD.sub (ws' := [(q_66, .inr (12, [.int 0, .null, .null, .null, .null, .null, .int 0, .int 0, .int 0, .int 0, .int 0, .int 0, .int 0, .int 0, .int 0, .null, .null, .int 0, .null, .null, .null, .null, .null, .null, .null, .null, .int 0, .int 0, .int 0, .int 0, .int 0, .int 0, .null, .null, .int 0, .null, .null, .null, .null, .null, .null, .int 0, .long 0, .int 0, .int 0, .null, .null, .null, .null, .null, .null, .int 0, .null, .int 0]))]) [17] (by decide) rfl
  have hKc := hK.sub (tys' := []) [] rfl
  have hFc := va_free (wc := [(q_66, .inr (12, [.int 0, .null, .null, .null, .null, .null, .int 0, .int 0, .int 0, .int 0, .int 0, .int 0, .int 0, .int 0, .int 0, .null, .null, .int 0, .null, .null, .null, .null, .null, .null, .null, .null, .int 0, .int 0, .int 0, .int 0, .int 0, .int 0, .null, .null, .int 0, .null, .null, .null, .null, .null, .null, .int 0, .long 0, .int 0, .int 0, .null, .null, .null, .null, .null, .null, .int 0, .null, .int 0]))]) hD hS hA [17] rfl
  refine va_callv (va_runI (As := []) (rest := [.ref q_66]) ⟨hx, hb, hml, hown, hts⟩ (c_X12_init l dC dI H.size q_66 ts2 ts3) (cwI 0 hts gf_law_c_X12_init rfl rfl rfl (hts (.initialized RX12) (List.mem_of_getElem? (i := 154) rfl)) (hts (.methodLink RL 18 yX12_init) (List.mem_of_getElem? (i := 189) rfl)) (hts (.instanceMethod yX12_init) (List.mem_of_getElem? (i := 190) rfl)) rfl (by decide +kernel) ⟨Nat.le_of_ble_eq_true rfl, Nat.le_of_ble_eq_true rfl⟩) ⟨fun a U g mk q => by obtain ⟨q0, q1, qP, qK, qD, qE0, qE1⟩ := q; exact ⟨q0, q1, qP, va_K.moved (u := U) (U := U.calling g mk a) (Vm.Alike.refl U.vm) qK, qD, vk_R.same rfl qE0, vk_R.same rfl qE1⟩, fun U hU hW => ⟨rfl, by rw [hU], by rw [hU]; exact hPc, va_K.moved hW.alike hKc, hDc.weaken (fun _ _ _ _ => trivial), vk_R.warm hW eE19, vk_R.warm hW eE24⟩⟩ rfl rfl hl.1 rfl (lv_room (Nat.le_of_ble_eq_true rfl)) dL_law_12 ⟨Nat.le_of_ble_eq_true rfl, Nat.le_of_ble_eq_true rfl⟩) hS (fun q _ h => hFc q h) hFc (fun u t H1 locs ht hvm hw hB hz1 hk1 hS => ?_)
  obtain ⟨q_68, q_69, q_70, q_71, q_72, q_73, q_74, q_75, q_76, q_77, q_78, q_79, q_80, q_81, q_82, q_83, q_84, q_85, q_86, q_87, q_88, q_89, q_90, q_91, q_92, q_93, q_94, k_95, k_96, k_97, hP1, hK1, hD1⟩ := hB
  rw [ht] at hP1
  have hK1 := va_K.moved hvm.symm hK1
  obtain ⟨hP, hD⟩ := va_join (wr := [(q_1, .inr (11, [.ref q_3, .ref q_5, .ref q_6, .ref q_8, .ref q_12, .int 0, .ref q_14, .ref q_16, .ref q_19, .ref q_17, .ref q_18, .ref q_20, .ref q_21, .ref q_22, .ref q_23, .long 0])), (q_3, .inr (9, [.ref q_4, .int 0, .int 0, .int (-1)])), (q_4, .inl (k_60, 240, .inl (fun _ => 0))), (q_5, .inr (0, [.ref q_24, .int 0, .int 0, .int 0])), (q_6, .inr (0, [.ref q_7, .int 0, .int 0, .int 0])), (q_7, .inl (k_61, 80, .inl (fun _ => 0))), (q_8, .inr (5, [.ref q_9, .int 0, .int (-1), .ref q_25])), (q_9, .inl (k_62, 5, .inr (.inr (.inr (.inr (va_up (va_up (va_up (va_up (va_up (fun _ => none) (0 : Int32).toNatClampNeg (some q_10)) (1 : Int32).toNatClampNeg (some q_26)) (2 : Int32).toNatClampNeg (some q_27)) (3 : Int32).toNatClampNeg (some q_28)) (4 : Int32).toNatClampNeg (some q_29))))))), (q_10, .inr (4, [.ref q_11, .int 0, .ref q_30])), (q_11, .inl (k_63, 240, .inl (fun _ => 0))), (q_12, .inl (k_64, 5, .inr (.inr (.inr (.inr (va_up (va_up (va_up (va_up (va_up (fun _ => none) (0 : Int32).toNatClampNeg (some q_13)) (1 : Int32).toNatClampNeg (some q_31)) (2 : Int32).toNatClampNeg (some q_32)) (3 : Int32).toNatClampNeg (some q_33)) (4 : Int32).toNatClampNeg (some q_34))))))), (q_13, .inr (6, [.ref q_35, .int 0])), (q_14, .inr (10, [.ref q_5, .ref q_8, .ref q_36, .ref q_37, .ref q_15, .ref q_38])), (q_15, .inl (k_65, 3, .inl (fun _ => 0))), (q_16, .inr (7, [.int 0, .int 0, .int 0, .int 0, .ref q_39, .ref q_40, .ref q_41, .ref q_42, .ref q_43, .ref q_44, .ref q_45, .ref q_46, .ref q_47])), (q_17, .inr (3, [.ref q_48, .int 0, .int 0, .ref q_49, .ref q_50, .ref q_51, .int 0])), (q_18, .inr (8, [.ref q_5, .ref q_8, .ref q_52, .ref q_53, .ref q_54, .ref q_55, .int 0, .ref q_56, .int 0, .ref q_57, .ref q_58, .ref q_59]))]) (w1 := [(q_66, .inr (12, [.int 0, .ref q_68, .ref q_71, .ref q_72, .ref q_73, .ref q_68, .int 0, .int 0, .int 0, .int 0, .int 0, .int 0, .int 0, .int 0, .int 0, .ref ts2, .ref ts3, .int 0, .ref q_74, .ref q_69, .ref q_75, .ref q_76, .ref q_77, .ref q_78, .ref q_79, .ref q_80, .int 0, .int 0, .int 0, .int 0, .int 0, .int 0, .ref q_70, .ref q_81, .int (-1), .ref q_82, .ref q_83, .ref q_84, .ref q_85, .ref q_86, .ref q_87, .int 0, .long 0, .int 0, .int 0, .ref q_88, .ref q_89, .ref q_90, .ref q_91, .ref q_92, .ref q_93, .int 0, .ref q_94, .int 0])), (q_68, .inl (k_95, 240, .inl (fun _ => 0))), (q_69, .inl (k_96, 4, .inl (fun _ => 0))), (q_70, .inl (k_97, 242, .inl (fun _ => 0)))]) hP hD [17] [0, 1, 2, 3, 4, 5, 6, 7, 8, 9, 10, 11, 12, 13, 14, 15, 16] rfl rfl (by decide) (by decide) hk1 hFc hP1 hD1
  have hK := hK.app hK1
  generalize H1 = H at hP hS ⊢
  have hP : va_P (dC, dI) vwCl [(q_1, .inr (11, [.ref q_3, .ref q_5, .ref q_6, .ref q_8, .ref q_12, .int 0, .ref q_14, .ref q_16, .ref q_19, .ref q_17, .ref q_18, .ref q_20, .ref q_21, .ref q_22, .ref q_23, .long 0])), (q_3, .inr (9, [.ref q_4, .int 0, .int 0, .int (-1)])), (q_4, .inl (k_60, 240, .inl (fun _ => 0))), (q_5, .inr (0, [.ref q_24, .int 0, .int 0, .int 0])), (q_6, .inr (0, [.ref q_7, .int 0, .int 0, .int 0])), (q_7, .inl (k_61, 80, .inl (fun _ => 0))), (q_8, .inr (5, [.ref q_9, .int 0, .int (-1), .ref q_25])), (q_9, .inl (k_62, 5, .inr (.inr (.inr (.inr (va_up (va_up (va_up (va_up (va_up (fun _ => none) (0 : Int32).toNatClampNeg (some q_10)) (1 : Int32).toNatClampNeg (some q_26)) (2 : Int32).toNatClampNeg (some q_27)) (3 : Int32).toNatClampNeg (some q_28)) (4 : Int32).toNatClampNeg (some q_29))))))), (q_10, .inr (4, [.ref q_11, .int 0, .ref q_30])), (q_11, .inl (k_63, 240, .inl (fun _ => 0))), (q_12, .inl (k_64, 5, .inr (.inr (.inr (.inr (va_up (va_up (va_up (va_up (va_up (fun _ => none) (0 : Int32).toNatClampNeg (some q_13)) (1 : Int32).toNatClampNeg (some q_31)) (2 : Int32).toNatClampNeg (some q_32)) (3 : Int32).toNatClampNeg (some q_33)) (4 : Int32).toNatClampNeg (some q_34))))))), (q_13, .inr (6, [.ref q_35, .int 0])), (q_14, .inr (10, [.ref q_5, .ref q_8, .ref q_36, .ref q_37, .ref q_15, .ref q_38])), (q_15, .inl (k_65, 3, .inl (fun _ => 0))), (q_16, .inr (7, [.int 0, .int 0, .int 0, .int 0, .ref q_39, .ref q_40, .ref q_41, .ref q_42, .ref q_43, .ref q_44, .ref q_45, .ref q_46, .ref q_47])), (q_17, .inr (3, [.ref q_48, .int 0, .int 0, .ref q_49, .ref q_50, .ref q_51, .int 0])), (q_18, .inr (8, [.ref q_5, .ref q_8, .ref q_52, .ref q_53, .ref q_54, .ref q_55, .int 0, .ref q_56, .int 0, .ref q_57, .ref q_58, .ref q_59])), (q_66, .inr (12, [.int 0, .ref q_68, .ref q_71, .ref q_72, .ref q_73, .ref q_68, .int 0, .int 0, .int 0, .int 0, .int 0, .int 0, .int 0, .int 0, .int 0, .ref ts2, .ref ts3, .int 0, .ref q_74, .ref q_69, .ref q_75, .ref q_76, .ref q_77, .ref q_78, .ref q_79, .ref q_80, .int 0, .int 0, .int 0, .int 0, .int 0, .int 0, .ref q_70, .ref q_81, .int (-1), .ref q_82, .ref q_83, .ref q_84, .ref q_85, .ref q_86, .ref q_87, .int 0, .long 0, .int 0, .int 0, .ref q_88, .ref q_89, .ref q_90, .ref q_91, .ref q_92, .ref q_93, .int 0, .ref q_94, .int 0])), (q_68, .inl (k_95, 240, .inl (fun _ => 0))), (q_69, .inl (k_96, 4, .inl (fun _ => 0))), (q_70, .inl (k_97, 242, .inl (fun _ => 0)))] H := hP
  have hD : va_D A [(q_1, .inr (11, [.ref q_3, .ref q_5, .ref q_6, .ref q_8, .ref q_12, .int 0, .ref q_14, .ref q_16, .ref q_19, .ref q_17, .ref q_18, .ref q_20, .ref q_21, .ref q_22, .ref q_23, .long 0])), (q_3, .inr (9, [.ref q_4, .int 0, .int 0, .int (-1)])), (q_4, .inl (k_60, 240, .inl (fun _ => 0))), (q_5, .inr (0, [.ref q_24, .int 0, .int 0, .int 0])), (q_6, .inr (0, [.ref q_7, .int 0, .int 0, .int 0])), (q_7, .inl (k_61, 80, .inl (fun _ => 0))), (q_8, .inr (5, [.ref q_9, .int 0, .int (-1), .ref q_25])), (q_9, .inl (k_62, 5, .inr (.inr (.inr (.inr (va_up (va_up (va_up (va_up (va_up (fun _ => none) (0 : Int32).toNatClampNeg (some q_10)) (1 : Int32).toNatClampNeg (some q_26)) (2 : Int32).toNatClampNeg (some q_27)) (3 : Int32).toNatClampNeg (some q_28)) (4 : Int32).toNatClampNeg (some q_29))))))), (q_10, .inr (4, [.ref q_11, .int 0, .ref q_30])), (q_11, .inl (k_63, 240, .inl (fun _ => 0))), (q_12, .inl (k_64, 5, .inr (.inr (.inr (.inr (va_up (va_up (va_up (va_up (va_up (fun _ => none) (0 : Int32).toNatClampNeg (some q_13)) (1 : Int32).toNatClampNeg (some q_31)) (2 : Int32).toNatClampNeg (some q_32)) (3 : Int32).toNatClampNeg (some q_33)) (4 : Int32).toNatClampNeg (some q_34))))))), (q_13, .inr (6, [.ref q_35, .int 0])), (q_14, .inr (10, [.ref q_5, .ref q_8, .ref q_36, .ref q_37, .ref q_15, .ref q_38])), (q_15, .inl (k_65, 3, .inl (fun _ => 0))), (q_16, .inr (7, [.int 0, .int 0, .int 0, .int 0, .ref q_39, .ref q_40, .ref q_41, .ref q_42, .ref q_43, .ref q_44, .ref q_45, .ref q_46, .ref q_47])), (q_17, .inr (3, [.ref q_48, .int 0, .int 0, .ref q_49, .ref q_50, .ref q_51, .int 0])), (q_18, .inr (8, [.ref q_5, .ref q_8, .ref q_52, .ref q_53, .ref q_54, .ref q_55, .int 0, .ref q_56, .int 0, .ref q_57, .ref q_58, .ref q_59])), (q_66, .inr (12, [.int 0, .ref q_68, .ref q_71, .ref q_72, .ref q_73, .ref q_68, .int 0, .int 0, .int 0, .int 0, .int 0, .int 0, .int 0, .int 0, .int 0, .ref ts2, .ref ts3, .int 0, .ref q_74, .ref q_69, .ref q_75, .ref q_76, .ref q_77, .ref q_78, .ref q_79, .ref q_80, .int 0, .int 0, .int 0, .int 0, .int 0, .int 0, .ref q_70, .ref q_81, .int (-1), .ref q_82, .ref q_83, .ref q_84, .ref q_85, .ref q_86, .ref q_87, .int 0, .long 0, .int 0, .int 0, .ref q_88, .ref q_89, .ref q_90, .ref q_91, .ref q_92, .ref q_93, .int 0, .ref q_94, .int 0])), (q_68, .inl (k_95, 240, .inl (fun _ => 0))), (q_69, .inl (k_96, 4, .inl (fun _ => 0))), (q_70, .inl (k_97, 242, .inl (fun _ => 0)))] := hD
  have hK : va_K (dC, dI) vwCl [(k_60, .int), (k_61, .int), (k_62, .object RX4), (k_63, .int), (k_64, .object RX6), (k_65, .int), (k_95, .byte), (k_96, .int), (k_97, .int)] s := hK
  refine W.widen (k := 523) (n := 37705) (by decide) (by decide) ?_
  refine lv_astore_n (lv' := [(2, .ref q_66), (1, .ref q_1), (0, .ref b)]) hx hb dL_law_15 rfl hl (by decide) rfl (fun ls hl => ?_)
  refine lv_iconst (v := 1) hx hb dL_law_16 (by decide) ?_
  refine va_newa (atype := .long) (a0 := (1, .inr (.inl (fun _ => 0)))) (ty := .long) (N' := 1) hx hb (hts (.arrayClass .long) (List.mem_of_getElem? (i := 147) rfl)) rfl hK hP hD hS hA (fun cA => vp_cell_l cA 1 (fun _ => 0)) (by decide) (by decide) (by decide +kernel) (Nat.le_of_ble_eq_true rfl) (Nat.le_of_ble_eq_true rfl) dL_law_17 (fun q_98 k_99 H hK hP hD hS => ?_)
  have hP : va_P (dC, dI) vwCl [(q_1, .inr (11, [.ref q_3, .ref q_5, .ref q_6, .ref q_8, .ref q_12, .int 0, .ref q_14, .ref q_16, .ref q_19, .ref q_17, .ref q_18, .ref q_20, .ref q_21, .ref q_22, .ref q_23, .long 0])), (q_3, .inr (9, [.ref q_4, .int 0, .int 0, .int (-1)])), (q_4, .inl (k_60, 240, .inl (fun _ => 0))), (q_5, .inr (0, [.ref q_24, .int 0, .int 0, .int 0])), (q_6, .inr (0, [.ref q_7, .int 0, .int 0, .int 0])), (q_7, .inl (k_61, 80, .inl (fun _ => 0))), (q_8, .inr (5, [.ref q_9, .int 0, .int (-1), .ref q_25])), (q_9, .inl (k_62, 5, .inr (.inr (.inr (.inr (va_up (va_up (va_up (va_up (va_up (fun _ => none) (0 : Int32).toNatClampNeg (some q_10)) (1 : Int32).toNatClampNeg (some q_26)) (2 : Int32).toNatClampNeg (some q_27)) (3 : Int32).toNatClampNeg (some q_28)) (4 : Int32).toNatClampNeg (some q_29))))))), (q_10, .inr (4, [.ref q_11, .int 0, .ref q_30])), (q_11, .inl (k_63, 240, .inl (fun _ => 0))), (q_12, .inl (k_64, 5, .inr (.inr (.inr (.inr (va_up (va_up (va_up (va_up (va_up (fun _ => none) (0 : Int32).toNatClampNeg (some q_13)) (1 : Int32).toNatClampNeg (some q_31)) (2 : Int32).toNatClampNeg (some q_32)) (3 : Int32).toNatClampNeg (some q_33)) (4 : Int32).toNatClampNeg (some q_34))))))), (q_13, .inr (6, [.ref q_35, .int 0])), (q_14, .inr (10, [.ref q_5, .ref q_8, .ref q_36, .ref q_37, .ref q_15, .ref q_38])), (q_15, .inl (k_65, 3, .inl (fun _ => 0))), (q_16, .inr (7, [.int 0, .int 0, .int 0, .int 0, .ref q_39, .ref q_40, .ref q_41, .ref q_42, .ref q_43, .ref q_44, .ref q_45, .ref q_46, .ref q_47])), (q_17, .inr (3, [.ref q_48, .int 0, .int 0, .ref q_49, .ref q_50, .ref q_51, .int 0])), (q_18, .inr (8, [.ref q_5, .ref q_8, .ref q_52, .ref q_53, .ref q_54, .ref q_55, .int 0, .ref q_56, .int 0, .ref q_57, .ref q_58, .ref q_59])), (q_66, .inr (12, [.int 0, .ref q_68, .ref q_71, .ref q_72, .ref q_73, .ref q_68, .int 0, .int 0, .int 0, .int 0, .int 0, .int 0, .int 0, .int 0, .int 0, .ref ts2, .ref ts3, .int 0, .ref q_74, .ref q_69, .ref q_75, .ref q_76, .ref q_77, .ref q_78, .ref q_79, .ref q_80, .int 0, .int 0, .int 0, .int 0, .int 0, .int 0, .ref q_70, .ref q_81, .int (-1), .ref q_82, .ref q_83, .ref q_84, .ref q_85, .ref q_86, .ref q_87, .int 0, .long 0, .int 0, .int 0, .ref q_88, .ref q_89, .ref q_90, .ref q_91, .ref q_92, .ref q_93, .int 0, .ref q_94, .int 0])), (q_68, .inl (k_95, 240, .inl (fun _ => 0))), (q_69, .inl (k_96, 4, .inl (fun _ => 0))), (q_70, .inl (k_97, 242, .inl (fun _ => 0))), (q_98, .inl (k_99, 1, .inr (.inl (fun _ => 0))))] H := hP
  have hD : va_D A [(q_1, .inr (11, [.ref q_3, .ref q_5, .ref q_6, .ref q_8, .ref q_12, .int 0, .ref q_14, .ref q_16, .ref q_19, .ref q_17, .ref q_18, .ref q_20, .ref q_21, .ref q_22, .ref q_23, .long 0])), (q_3, .inr (9, [.ref q_4, .int 0, .int 0, .int (-1)])), (q_4, .inl (k_60, 240, .inl (fun _ => 0))), (q_5, .inr (0, [.ref q_24, .int 0, .int 0, .int 0])), (q_6, .inr (0, [.ref q_7, .int 0, .int 0, .int 0])), (q_7, .inl (k_61, 80, .inl (fun _ => 0))), (q_8, .inr (5, [.ref q_9, .int 0, .int (-1), .ref q_25])), (q_9, .inl (k_62, 5, .inr (.inr (.inr (.inr (va_up (va_up (va_up (va_up (va_up (fun _ => none) (0 : Int32).toNatClampNeg (some q_10)) (1 : Int32).toNatClampNeg (some q_26)) (2 : Int32).toNatClampNeg (some q_27)) (3 : Int32).toNatClampNeg (some q_28)) (4 : Int32).toNatClampNeg (some q_29))))))), (q_10, .inr (4, [.ref q_11, .int 0, .ref q_30])), (q_11, .inl (k_63, 240, .inl (fun _ => 0))), (q_12, .inl (k_64, 5, .inr (.inr (.inr (.inr (va_up (va_up (va_up (va_up (va_up (fun _ => none) (0 : Int32).toNatClampNeg (some q_13)) (1 : Int32).toNatClampNeg (some q_31)) (2 : Int32).toNatClampNeg (some q_32)) (3 : Int32).toNatClampNeg (some q_33)) (4 : Int32).toNatClampNeg (some q_34))))))), (q_13, .inr (6, [.ref q_35, .int 0])), (q_14, .inr (10, [.ref q_5, .ref q_8, .ref q_36, .ref q_37, .ref q_15, .ref q_38])), (q_15, .inl (k_65, 3, .inl (fun _ => 0))), (q_16, .inr (7, [.int 0, .int 0, .int 0, .int 0, .ref q_39, .ref q_40, .ref q_41, .ref q_42, .ref q_43, .ref q_44, .ref q_45, .ref q_46, .ref q_47])), (q_17, .inr (3, [.ref q_48, .int 0, .int 0, .ref q_49, .ref q_50, .ref q_51, .int 0])), (q_18, .inr (8, [.ref q_5, .ref q_8, .ref q_52, .ref q_53, .ref q_54, .ref q_55, .int 0, .ref q_56, .int 0, .ref q_57, .ref q_58, .ref q_59])), (q_66, .inr (12, [.int 0, .ref q_68, .ref q_71, .ref q_72, .ref q_73, .ref q_68, .int 0, .int 0, .int 0, .int 0, .int 0, .int 0, .int 0, .int 0, .int 0, .ref ts2, .ref ts3, .int 0, .ref q_74, .ref q_69, .ref q_75, .ref q_76, .ref q_77, .ref q_78, .ref q_79, .ref q_80, .int 0, .int 0, .int 0, .int 0, .int 0, .int 0, .ref q_70, .ref q_81, .int (-1), .ref q_82, .ref q_83, .ref q_84, .ref q_85, .ref q_86, .ref q_87, .int 0, .long 0, .int 0, .int 0, .ref q_88, .ref q_89, .ref q_90, .ref q_91, .ref q_92, .ref q_93, .int 0, .ref q_94, .int 0])), (q_68, .inl (k_95, 240, .inl (fun _ => 0))), (q_69, .inl (k_96, 4, .inl (fun _ => 0))), (q_70, .inl (k_97, 242, .inl (fun _ => 0))), (q_98, .inl (k_99, 1, .inr (.inl (fun _ => 0))))] := hD
  have hK : va_K (dC, dI) vwCl [(k_60, .int), (k_61, .int), (k_62, .object RX4), (k_63, .int), (k_64, .object RX6), (k_65, .int), (k_95, .byte), (k_96, .int), (k_97, .int), (k_99, .long)] s := hK
  refine W.widen (k := 524) (n := 37706) (by decide) (by decide) ?_
  refine lv_astore_n (lv' := [(3, .ref q_98), (2, .ref q_66), (1, .ref q_1), (0, .ref b)]) hx hb dL_law_19 rfl hl (by decide) rfl (fun ls hl => ?_)
  refine lv_iconst (v := 0) hx hb dL_law_20 (by decide) ?_
  refine lv_istore (lv' := [(4, .int 0), (3, .ref q_98), (2, .ref q_66), (1, .ref q_1), (0, .ref b)]) hx hb dL_law_21 hl (by decide) rfl (fun ls hl => ?_)
  by_cases hL6 : L = 6
  · subst hL6
    exact lk_six C0 hA hA2 hbA hE htr hE0 hE1 hE2 hE3 hE4 hE5 hK hP hD hS hl
  · exact lk_short (by omega) C0 hA hA2 hbA hK hP hD hS hl
